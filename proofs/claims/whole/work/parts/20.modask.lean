/-! the model: cut, board, where, best -/
theorem offV_of {NW v : Nat → Int} {p x : Int} (h : ∀ j : Nat, j ≠ 5 * p.toNat + 3 → NW j = v j) : upI NW (5 * p.toNat + 3) x = offV v p x := by
  funext j
  unfold offV
  by_cases q : j = 5 * p.toNat + 3
  · subst q; rw [upI_s, upI_s]
  · rw [upI_n q, upI_n q, h j q]
theorem offV_back {NW v : Nat → Int} {p : Int} (h : ∀ j : Nat, j ≠ 5 * p.toNat + 3 → NW j = v j) : upI NW (5 * p.toNat + 3) (pv v p 3) = v := by
  funext j
  by_cases q : j = 5 * p.toNat + 3
  · subst q; rw [upI_s]; rfl
  · rw [upI_n q, h j q]
theorem offV_ne {v : Nat → Int} {p x : Int} {j : Nat} (h : j ≠ 5 * p.toNat + 3) : offV v p x j = v j := upI_n h
theorem vL_off {v : Nat → Int} {p x : Int} (h : vL v) (hp : 0 ≤ p ∧ p < v 20) (hx : 0 ≤ x ∧ x < pv v p 1) : vL (offV v p x) := by
  obtain ⟨h20, h21, h22, h23, hq⟩ := h
  have e20 : offV v p x 20 = v 20 := offV_ne (by omega)
  refine ⟨by rw [e20]; exact h20, by rw [offV_ne (by omega)]; exact h21, by rw [offV_ne (by omega)]; exact h22, by rw [offV_ne (by omega)]; exact h23, fun q hq1 => ?_⟩
  rw [e20] at hq1
  have h1 := hq q hq1
  rw [offV_ne (show 5 * q ≠ 5 * p.toNat + 3 by omega), offV_ne (show 5 * q + 1 ≠ 5 * p.toNat + 3 by omega), offV_ne (show 5 * q + 2 ≠ 5 * p.toNat + 3 by omega), offV_ne (show 5 * q + 4 ≠ 5 * p.toNat + 3 by omega)]
  by_cases e : q = p.toNat
  · subst e
    rw [show offV v p x (5 * p.toNat + 3) = x from upI_s]
    exact ⟨h1.1, h1.2.1, h1.2.2.1, hx, h1.2.2.2.2⟩
  · rw [offV_ne (show 5 * q + 3 ≠ 5 * p.toNat + 3 by omega)]
    exact h1
theorem leftS_bd {v : Nat → Int} (h : vL v) : 0 - 400 ≤ leftS v ∧ leftS v ≤ 400 := by
  obtain ⟨⟨q0, q1, q2, q3, q4⟩, q5⟩ := fC_ok h
  obtain ⟨h20, h21, h22, h23, hq⟩ := h
  unfold leftS
  by_cases z : (fC v).1.1 = 0
  · rw [cif_pos z]; omega
  · rw [cif_neg z]
    have := q4 ((fC v).1.1 - 1).toNat (by omega)
    omega
theorem lo_160 (v : Nat → Int) : 0 ≤ lvL v 30 ∧ lvL v 30 ≤ 160 := by
  have h1 := lo_le v 30
  have h2 := cntG_le v (30 - ((30 : Nat) : Int)) 160
  omega
theorem bst_bd {v : Nat → Int} {p : Int} (h : vL v) (hp : 0 ≤ p ∧ p < v 20) (k : Nat) (hk : (k : Int) ≤ pv v p 1) : (0 ≤ (bst v p k).1 ∧ (bst v p k).1 ≤ 1000) ∧ (0 ≤ (bst v p k).2.1 ∧ (bst v p k).2.1 ≤ 1000) ∧ (0 ≤ (bst v p k).2.2.1 ∧ (bst v p k).2.2.1 ≤ 1000) ∧ (0 - 400 ≤ (bst v p k).2.2.2 ∧ (bst v p k).2.2.2 ≤ 400) := by
  induction k with
  | zero => exact (show ((0 : Int) ≤ 0 ∧ (0 : Int) ≤ 1000) ∧ ((0 : Int) ≤ 1000 ∧ (1000 : Int) ≤ 1000) ∧ ((0 : Int) ≤ 1000 ∧ (1000 : Int) ≤ 1000) ∧ (0 - 400 ≤ (0 : Int) ∧ (0 : Int) ≤ 400) by decide)
  | succ k ih =>
    have hi := ih (by omega)
    have hn := isPr_bd (vL_p h hp).2.1
    have hv := vL_off h hp (x := (k : Int)) (by omega)
    obtain ⟨⟨q0, q1, q2, q3, q4⟩, q5⟩ := fC_ok hv
    have hl := leftS_bd hv
    have hlo := lo_160 (offV v p (k : Int))
    rw [bst]
    by_cases z : betP (offV v p (k : Int)) (bst v p k).2.1 (bst v p k).2.2.1 (bst v p k).2.2.2
    · rw [cF_pos z]
      refine ⟨?_, ?_, ?_, hl⟩
      · show 0 ≤ (k : Int) ∧ (k : Int) ≤ 1000; omega
      · show 0 ≤ lvL (offV v p (k : Int)) 30 ∧ lvL (offV v p (k : Int)) 30 ≤ 1000; omega
      · show 0 ≤ (fC (offV v p (k : Int))).1.1 ∧ (fC (offV v p (k : Int))).1.1 ≤ 1000; omega
    · rw [cF_neg z]; exact hi

abbrev rm_X7_cut : Room := { frames := 4, cells := 0, slots := 0, locals := 95 }
set_option maxHeartbeats 8000000 in
set_option maxRecDepth 100000 in
/-- cut -/
theorem c_X7_cut (l : Launch) (D : va_G) (cs : Nat → ClassId) (ad : Nat → Nat) (sz : Nat) (len : Int) (spot : Int) (un : Int) (bo : Int) (cu : Int) (lo : Int) (wh : Int) (tx : Nat → Int) (now : Nat → Int) (rd : Nat → Int) (bf : Nat → Int) (bl : Nat → Int) (us : Nat → Int) (lg : Nat → Int) (bd : Nat → Int) (dp : Nat → Int) (what : Int) (hvL : vL now) (hw : -2147483648 ≤ what ∧ what < 2147483648) : Met l yX7_cut (Cond.code yX7_cut cX7_cut 2 (some .int) :: TB) rm_X7_cut (va_Pc [.ref (ad 0), .int (iI what)] (MPre D cs sz (mW cs ad len spot un bo cu lo wh tx now rd bf bl us lg bd dp) (fun _ _ => True))) (va_Qi (fun (r u : Int32) => r = u) (fun r t => ∃ (us2 : Nat → Int) (bl2 : Nat → Int) (lg2 : Nat → Int) (bd2 : Nat → Int) (dp2 : Nat → Int) (bo2 : Int) (cu2 : Int) (lo2 : Int) (wh2 : Int), (r = iI (aCut now what)) ∧ va_P D classes (mW cs ad len spot un bo2 cu2 lo2 wh2 tx now rd bf bl2 us2 lg2 bd2 dp2) t.heap ∧ va_D (va_A (mW cs ad len spot un bo cu lo wh tx now rd bf bl us lg bd dp) sz) (mW cs ad len spot un bo2 cu2 lo2 wh2 tx now rd bf bl2 us2 lg2 bd2 dp2)) (va_A (mW cs ad len spot un bo cu lo wh tx now rd bf bl us lg bd dp) sz)) 0 0 (va_A (mW cs ad len spot un bo cu lo wh tx now rd bf bl us lg bd dp) sz) := by
  refine enter (cc := cX7_cut) (maxL := 2) (ret := (some .int)) (by decide) (Nat.le_of_ble_eq_true rfl) ?_
  intro pg ev s m below meth c Q ls hx hb hml hown hts hr hlocks hnm ⟨hsz, hP, hD0, hK, hX0⟩ hl hQ
  have ht : ∀ w ∈ TB, w.before _ s = true := fun w h => hts w (List.mem_cons_of_mem _ h)
  subst hsz
  have hD := hD0.self (sz := s.heap.size)
  obtain ⟨A, hAe⟩ : ∃ A, va_A (mW cs ad len spot un bo cu lo wh tx now rd bf bl us lg bd dp) s.heap.size = A := ⟨_, rfl⟩
  rw [hAe] at hD
  have hA : ∀ q : Nat, s.heap.size ≤ q → A q := fun q h => by rw [← hAe]; exact Or.inr h
  obtain ⟨H, hH⟩ : ∃ H, H = s.heap := ⟨_, rfl⟩
  obtain ⟨locs, hlocs⟩ : ∃ locs : List Loc, locs = [] := ⟨_, rfl⟩
  have hS : va_S A s.heap H locs := by rw [hH, hlocs]; exact va_S.rf
  rw [← hH] at hP
  suffices hgo : W pg l ev rm_X7_cut s m [.ref (ad 0), .int (iI what)].toArray below meth c H locs 0 0 Q (F0 m 0 ls []) by rw [hH, hlocs] at hgo; exact hgo
  have hl : lv_has ls 2 [(0, .ref (ad 0)), (1, .int (iI what))] := hl
  obtain ⟨hv20, hv21, hv22, hv23, hvp⟩ := id hvL
  obtain ⟨⟨q0, q1, q2, q3, q4⟩, q5⟩ := fC_ok hvL
  have hlo := lo_160 now
  refine lv_iload_n hx hb dX7_cut_0 rfl (lv_at hl 1 rfl) ?_
  refine rv_i2l hx hb dX7_cut_1 (by omega) ?_
  refine rv_lconst (z := 0) hx hb dX7_cut_2 (by decide) ?_
  refine lv_ldc2 (v := lI 4) hx hb hown (ht _ tb_793) dX7_cut_3 ?_
  refine vp_callSi (W.runS (As := [.long (lI what), .long (lI 0), .long (lI 4)]) (rest := []) ⟨hx, hb, hml, hown, hts⟩ (c_X7_in l what 0 4 (by omega) (by omega) (by omega)) (va_cwS 3 hts (gS tb_649 tb_650 tb_8 tb_651) rfl rfl rfl (by decide +kernel) ⟨Nat.le_of_ble_eq_true rfl, Nat.le_of_ble_eq_true rfl⟩) preS0 rfl rfl hl.1 rfl (lv_room (Nat.le_of_ble_eq_true rfl)) dX7_cut_6 ⟨Nat.le_of_ble_eq_true rfl, Nat.le_of_ble_eq_true rfl⟩) (fun r9 hr9 => ?_)
  rcases hr9 with ⟨rfl, hb6⟩ | ⟨rfl, hb6⟩
  · refine rv_if_ne (tgt := 14) hx hb dX7_cut_9 (by decide) (by decide) (fun _ => ?_) (fun q => absurd q (by decide))
    refine lv_aload_n hx hb dX7_cut_14 rfl (lv_at hl 0 rfl) ?_
    have hFc := va_free (wc := (mW cs ad len spot un bo cu lo wh tx now rd bf bl us lg bd dp)) hD hS hA [0, 1, 2, 3, 4, 5, 6, 7, 8, 9] rfl
    refine va_callv (va_runV (As := []) (rest := []) ⟨hx, hb, hml, hown, hts⟩ (c_X7_cutsAll l D cs ad H.size len spot un bo cu lo wh tx now rd bf bl us lg bd dp hvL) (cwV 0 hts (gV tb_794 tb_796 tbs_30 tb_8 tb_797) rfl rfl rfl (by decide +kernel) ⟨Nat.le_of_ble_eq_true rfl, Nat.le_of_ble_eq_true rfl⟩) (preV_M (X := fun _ _ => True) Stb_T hK (va_recv hK hP (ci := 6) (q0 := 0) rfl rfl) hP hD trivial) rfl rfl hl.1 rfl (lv_room (Nat.le_of_ble_eq_true rfl)) dX7_cut_15 ⟨Nat.le_of_ble_eq_true rfl, Nat.le_of_ble_eq_true rfl⟩) hS (fun q _ h => hFc q h) hFc (fun u9 t9 H9 locs ht9 hvm9 hw9 hB9 hz9 hk9 hS => ?_)
    obtain ⟨us2_15, bl2_15, lg2_15, bd2_15, dp2_15, hf15_0, hf15_1, hP1, hD1⟩ := hB9
    rw [ht9] at hP1
    have hP := hP1
    have hD := hD1.weaken (fun _ _ _ h => hFc _ h)
    generalize H9 = H at hP hS hz9 hk9 ht9 ⊢
    have hP : va_P D classes (mW cs ad len spot un ((fC now).1.1) ((fC now).1.2.1) (lvL now 30) ((fC now).1.2.2) tx now rd bf bl2_15 us2_15 lg2_15 bd2_15 dp2_15) H := hP
    have hD : va_D A (mW cs ad len spot un ((fC now).1.1) ((fC now).1.2.1) (lvL now 30) ((fC now).1.2.2) tx now rd bf bl2_15 us2_15 lg2_15 bd2_15 dp2_15) := hD
    refine lv_iload_n hx hb dX7_cut_18 rfl (lv_at hl 1 rfl) ?_
    refine rv_if_ne (tgt := 29) hx hb dX7_cut_19 (by decide) (by omega) (fun h19 => ?_) (fun h19 => ?_)
    · refine lv_iload_n hx hb dX7_cut_29 rfl (lv_at hl 1 rfl) ?_
      refine rv_iconst hx hb dX7_cut_30 ?_
      refine rv_icmp_ne (tgt := 41) hx hb dX7_cut_31 (by decide) (by omega) (fun h31 => ?_) (fun h31 => ?_)
      · refine lv_iload_n hx hb dX7_cut_41 rfl (lv_at hl 1 rfl) ?_
        refine rv_iconst hx hb dX7_cut_42 ?_
        refine rv_icmp_ne (tgt := 53) hx hb dX7_cut_43 (by decide) (by omega) (fun h43 => ?_) (fun h43 => ?_)
        · refine lv_iload_n hx hb dX7_cut_53 rfl (lv_at hl 1 rfl) ?_
          refine rv_iconst hx hb dX7_cut_54 ?_
          refine rv_icmp_ne (tgt := 83) hx hb dX7_cut_55 (by decide) (by omega) (fun h55 => ?_) (fun h55 => ?_)
          · refine lv_aload_n hx hb dX7_cut_83 rfl (lv_at hl 0 rfl) ?_
            refine va_get (D := D) (ci := 6) (v := .int (iI ((fC now).1.1))) (C := RX7) (T := TX7) (N := 16) hx hb ht inTB_X7 hown hK hP 0 rfl rfl 12 (by decide) (ht _ tb_600) (fun _ h9 => h9) rfl dX7_cut_84 ?_
            refine lv_aload_n hx hb dX7_cut_87 rfl (lv_at hl 0 rfl) ?_
            refine va_get (D := D) (ci := 6) (v := .ref (ad 2)) (C := RX7) (T := TX7) (N := 16) hx hb ht inTB_X7 hown hK hP 0 rfl rfl 3 (by decide) (ht _ tb_591) (fun _ h9 => h9) rfl dX7_cut_88 ?_
            refine rv_bipush hx hb dX7_cut_91 (by decide) ?_
            refine rv_iald hx hb hK hP 2 0 rfl rfl 22 rfl (by omega) dX7_cut_93 ?_
            refine rv_imul hx hb dX7_cut_94 ?_
            refine lv_aload_n hx hb dX7_cut_95 rfl (lv_at hl 0 rfl) ?_
            refine va_get (D := D) (ci := 6) (v := .int (iI ((fC now).1.2.2))) (C := RX7) (T := TX7) (N := 16) hx hb ht inTB_X7 hown hK hP 0 rfl rfl 15 (by decide) (ht _ tb_603) (fun _ h9 => h9) rfl dX7_cut_96 ?_
            refine rv_isub hx hb dX7_cut_99 ?_
            subst hQ
            exact W.iret hx hb hr (fun t9 ht9 hW9 => ⟨⟨_, _, rfl, rfl, ⟨us2_15, bl2_15, lg2_15, bd2_15, dp2_15, ((fC now).1.1), ((fC now).1.2.1), (lvL now 30), ((fC now).1.2.2), by rw [aCut, cif_pos hb6]; first | rw [cif_pos (by omega)] | rw [cif_neg (by omega), cif_pos (by omega)] | rw [cif_neg (by omega), cif_neg (by omega), cif_pos (by omega)] | rw [cif_neg (by omega), cif_neg (by omega), cif_neg (by omega), cif_pos (by omega)] | rw [cif_neg (by omega), cif_neg (by omega), cif_neg (by omega), cif_neg (by omega)], by rw [ht9]; exact hP, by rw [hAe]; exact hD⟩⟩, by rw [hAe]; exact hS.F ht9⟩) (by rw [hAe]; exact hS.2.2) dX7_cut_100
          · refine lv_aload_n hx hb dX7_cut_58 rfl (lv_at hl 0 rfl) ?_
            refine va_get (D := D) (ci := 6) (v := .int (iI ((fC now).1.2.2))) (C := RX7) (T := TX7) (N := 16) hx hb ht inTB_X7 hown hK hP 0 rfl rfl 15 (by decide) (ht _ tb_603) (fun _ h9 => h9) rfl dX7_cut_59 ?_
            refine lv_aload_n hx hb dX7_cut_62 rfl (lv_at hl 0 rfl) ?_
            refine va_get (D := D) (ci := 6) (v := .ref (ad 2)) (C := RX7) (T := TX7) (N := 16) hx hb ht inTB_X7 hown hK hP 0 rfl rfl 3 (by decide) (ht _ tb_591) (fun _ h9 => h9) rfl dX7_cut_63 ?_
            refine rv_bipush hx hb dX7_cut_66 (by decide) ?_
            refine rv_iald hx hb hK hP 2 0 rfl rfl 22 rfl (by omega) dX7_cut_68 ?_
            refine rv_iadd hx hb dX7_cut_69 ?_
            refine rv_iconst hx hb dX7_cut_70 ?_
            refine rv_isub hx hb dX7_cut_71 ?_
            refine lv_aload_n hx hb dX7_cut_72 rfl (lv_at hl 0 rfl) ?_
            refine va_get (D := D) (ci := 6) (v := .ref (ad 2)) (C := RX7) (T := TX7) (N := 16) hx hb ht inTB_X7 hown hK hP 0 rfl rfl 3 (by decide) (ht _ tb_591) (fun _ h9 => h9) rfl dX7_cut_73 ?_
            refine rv_bipush hx hb dX7_cut_76 (by decide) ?_
            refine rv_iald hx hb hK hP 2 0 rfl rfl 22 rfl (by omega) dX7_cut_78 ?_
            refine rv_idiv hx hb dX7_cut_79 (by omega) ?_
            refine lv_goto (tgt := 100) hx hb dX7_cut_80 (by decide) ?_
            subst hQ
            exact W.iret hx hb hr (fun t9 ht9 hW9 => ⟨⟨_, _, rfl, rfl, ⟨us2_15, bl2_15, lg2_15, bd2_15, dp2_15, ((fC now).1.1), ((fC now).1.2.1), (lvL now 30), ((fC now).1.2.2), by rw [aCut, cif_pos hb6]; first | rw [cif_pos (by omega)] | rw [cif_neg (by omega), cif_pos (by omega)] | rw [cif_neg (by omega), cif_neg (by omega), cif_pos (by omega)] | rw [cif_neg (by omega), cif_neg (by omega), cif_neg (by omega), cif_pos (by omega)] | rw [cif_neg (by omega), cif_neg (by omega), cif_neg (by omega), cif_neg (by omega)], by rw [ht9]; exact hP, by rw [hAe]; exact hD⟩⟩, by rw [hAe]; exact hS.F ht9⟩) (by rw [hAe]; exact hS.2.2) dX7_cut_100
        · refine lv_aload_n hx hb dX7_cut_46 rfl (lv_at hl 0 rfl) ?_
          refine va_get (D := D) (ci := 6) (v := .int (iI (lvL now 30))) (C := RX7) (T := TX7) (N := 16) hx hb ht inTB_X7 hown hK hP 0 rfl rfl 14 (by decide) (ht _ tb_602) (fun _ h9 => h9) rfl dX7_cut_47 ?_
          refine lv_goto (tgt := 100) hx hb dX7_cut_50 (by decide) ?_
          subst hQ
          exact W.iret hx hb hr (fun t9 ht9 hW9 => ⟨⟨_, _, rfl, rfl, ⟨us2_15, bl2_15, lg2_15, bd2_15, dp2_15, ((fC now).1.1), ((fC now).1.2.1), (lvL now 30), ((fC now).1.2.2), by rw [aCut, cif_pos hb6]; first | rw [cif_pos (by omega)] | rw [cif_neg (by omega), cif_pos (by omega)] | rw [cif_neg (by omega), cif_neg (by omega), cif_pos (by omega)] | rw [cif_neg (by omega), cif_neg (by omega), cif_neg (by omega), cif_pos (by omega)] | rw [cif_neg (by omega), cif_neg (by omega), cif_neg (by omega), cif_neg (by omega)], by rw [ht9]; exact hP, by rw [hAe]; exact hD⟩⟩, by rw [hAe]; exact hS.F ht9⟩) (by rw [hAe]; exact hS.2.2) dX7_cut_100
      · refine lv_aload_n hx hb dX7_cut_34 rfl (lv_at hl 0 rfl) ?_
        refine va_get (D := D) (ci := 6) (v := .int (iI ((fC now).1.2.1))) (C := RX7) (T := TX7) (N := 16) hx hb ht inTB_X7 hown hK hP 0 rfl rfl 13 (by decide) (ht _ tb_601) (fun _ h9 => h9) rfl dX7_cut_35 ?_
        refine lv_goto (tgt := 100) hx hb dX7_cut_38 (by decide) ?_
        subst hQ
        exact W.iret hx hb hr (fun t9 ht9 hW9 => ⟨⟨_, _, rfl, rfl, ⟨us2_15, bl2_15, lg2_15, bd2_15, dp2_15, ((fC now).1.1), ((fC now).1.2.1), (lvL now 30), ((fC now).1.2.2), by rw [aCut, cif_pos hb6]; first | rw [cif_pos (by omega)] | rw [cif_neg (by omega), cif_pos (by omega)] | rw [cif_neg (by omega), cif_neg (by omega), cif_pos (by omega)] | rw [cif_neg (by omega), cif_neg (by omega), cif_neg (by omega), cif_pos (by omega)] | rw [cif_neg (by omega), cif_neg (by omega), cif_neg (by omega), cif_neg (by omega)], by rw [ht9]; exact hP, by rw [hAe]; exact hD⟩⟩, by rw [hAe]; exact hS.F ht9⟩) (by rw [hAe]; exact hS.2.2) dX7_cut_100
    · refine lv_aload_n hx hb dX7_cut_22 rfl (lv_at hl 0 rfl) ?_
      refine va_get (D := D) (ci := 6) (v := .int (iI ((fC now).1.1))) (C := RX7) (T := TX7) (N := 16) hx hb ht inTB_X7 hown hK hP 0 rfl rfl 12 (by decide) (ht _ tb_600) (fun _ h9 => h9) rfl dX7_cut_23 ?_
      refine lv_goto (tgt := 100) hx hb dX7_cut_26 (by decide) ?_
      subst hQ
      exact W.iret hx hb hr (fun t9 ht9 hW9 => ⟨⟨_, _, rfl, rfl, ⟨us2_15, bl2_15, lg2_15, bd2_15, dp2_15, ((fC now).1.1), ((fC now).1.2.1), (lvL now 30), ((fC now).1.2.2), by rw [aCut, cif_pos hb6]; first | rw [cif_pos (by omega)] | rw [cif_neg (by omega), cif_pos (by omega)] | rw [cif_neg (by omega), cif_neg (by omega), cif_pos (by omega)] | rw [cif_neg (by omega), cif_neg (by omega), cif_neg (by omega), cif_pos (by omega)] | rw [cif_neg (by omega), cif_neg (by omega), cif_neg (by omega), cif_neg (by omega)], by rw [ht9]; exact hP, by rw [hAe]; exact hD⟩⟩, by rw [hAe]; exact hS.F ht9⟩) (by rw [hAe]; exact hS.2.2) dX7_cut_100
  · refine rv_if_ne (tgt := 14) hx hb dX7_cut_9 (by decide) (by decide) (fun q => absurd q (by decide)) (fun _ => ?_)
    refine rv_iconst hx hb dX7_cut_12 ?_
    subst hQ
    exact W.iret hx hb hr (fun t9 ht9 hW9 => ⟨⟨_, _, rfl, rfl, ⟨us, bl, lg, bd, dp, bo, cu, lo, wh, by rw [aCut, cif_neg hb6], by rw [ht9]; exact hP, by rw [hAe]; exact hD⟩⟩, by rw [hAe]; exact hS.F ht9⟩) (by rw [hAe]; exact hS.2.2) dX7_cut_13

abbrev rm_X7_board : Room := { frames := 4, cells := 0, slots := 0, locals := 95 }
set_option maxHeartbeats 8000000 in
set_option maxRecDepth 100000 in
/-- board -/
theorem c_X7_board (l : Launch) (D : va_G) (cs : Nat → ClassId) (ad : Nat → Nat) (sz : Nat) (len : Int) (spot : Int) (un : Int) (bo : Int) (cu : Int) (lo : Int) (wh : Int) (tx : Nat → Int) (now : Nat → Int) (rd : Nat → Int) (bf : Nat → Int) (bl : Nat → Int) (us : Nat → Int) (lg : Nat → Int) (bd : Nat → Int) (dp : Nat → Int) (b : Int) (what : Int) (hvL : vL now) (hb0 : -2147483648 ≤ b ∧ b < 2147483648) (hw : -2147483648 ≤ what ∧ what < 2147483648) : Met l yX7_board (Cond.code yX7_board cX7_board 3 (some .int) :: TB) rm_X7_board (va_Pc [.ref (ad 0), .int (iI b), .int (iI what)] (MPre D cs sz (mW cs ad len spot un bo cu lo wh tx now rd bf bl us lg bd dp) (fun _ _ => True))) (va_Qi (fun (r u : Int32) => r = u) (fun r t => ∃ (us2 : Nat → Int) (bl2 : Nat → Int) (lg2 : Nat → Int) (bd2 : Nat → Int) (dp2 : Nat → Int) (bo2 : Int) (cu2 : Int) (lo2 : Int) (wh2 : Int), (r = iI (aBoard now b what)) ∧ va_P D classes (mW cs ad len spot un bo2 cu2 lo2 wh2 tx now rd bf bl2 us2 lg2 bd2 dp2) t.heap ∧ va_D (va_A (mW cs ad len spot un bo cu lo wh tx now rd bf bl us lg bd dp) sz) (mW cs ad len spot un bo2 cu2 lo2 wh2 tx now rd bf bl2 us2 lg2 bd2 dp2)) (va_A (mW cs ad len spot un bo cu lo wh tx now rd bf bl us lg bd dp) sz)) 0 0 (va_A (mW cs ad len spot un bo cu lo wh tx now rd bf bl us lg bd dp) sz) := by
  refine enter (cc := cX7_board) (maxL := 3) (ret := (some .int)) (by decide) (Nat.le_of_ble_eq_true rfl) ?_
  intro pg ev s m below meth c Q ls hx hb hml hown hts hr hlocks hnm ⟨hsz, hP, hD0, hK, hX0⟩ hl hQ
  have ht : ∀ w ∈ TB, w.before _ s = true := fun w h => hts w (List.mem_cons_of_mem _ h)
  subst hsz
  have hD := hD0.self (sz := s.heap.size)
  obtain ⟨A, hAe⟩ : ∃ A, va_A (mW cs ad len spot un bo cu lo wh tx now rd bf bl us lg bd dp) s.heap.size = A := ⟨_, rfl⟩
  rw [hAe] at hD
  have hA : ∀ q : Nat, s.heap.size ≤ q → A q := fun q h => by rw [← hAe]; exact Or.inr h
  obtain ⟨H, hH⟩ : ∃ H, H = s.heap := ⟨_, rfl⟩
  obtain ⟨locs, hlocs⟩ : ∃ locs : List Loc, locs = [] := ⟨_, rfl⟩
  have hS : va_S A s.heap H locs := by rw [hH, hlocs]; exact va_S.rf
  rw [← hH] at hP
  suffices hgo : W pg l ev rm_X7_board s m [.ref (ad 0), .int (iI b), .int (iI what)].toArray below meth c H locs 0 0 Q (F0 m 0 ls []) by rw [hH, hlocs] at hgo; exact hgo
  have hl : lv_has ls 3 [(0, .ref (ad 0)), (1, .int (iI b)), (2, .int (iI what))] := hl
  obtain ⟨hv20, hv21, hv22, hv23, hvp⟩ := id hvL
  obtain ⟨⟨q0, q1, q2, q3, q4⟩, q5⟩ := fC_ok hvL
  have hlo := lo_160 now
  refine lv_aload_n hx hb dX7_board_0 rfl (lv_at hl 0 rfl) ?_
  have hFc := va_free (wc := (mW cs ad len spot un bo cu lo wh tx now rd bf bl us lg bd dp)) hD hS hA [0, 1, 2, 3, 4, 5, 6, 7, 8, 9] rfl
  refine va_callv (va_runV (As := []) (rest := []) ⟨hx, hb, hml, hown, hts⟩ (c_X7_cutsAll l D cs ad H.size len spot un bo cu lo wh tx now rd bf bl us lg bd dp hvL) (cwV 0 hts (gV tb_794 tb_796 tbs_30 tb_8 tb_797) rfl rfl rfl (by decide +kernel) ⟨Nat.le_of_ble_eq_true rfl, Nat.le_of_ble_eq_true rfl⟩) (preV_M (X := fun _ _ => True) Stb_T hK (va_recv hK hP (ci := 6) (q0 := 0) rfl rfl) hP hD trivial) rfl rfl hl.1 rfl (lv_room (Nat.le_of_ble_eq_true rfl)) dX7_board_1 ⟨Nat.le_of_ble_eq_true rfl, Nat.le_of_ble_eq_true rfl⟩) hS (fun q _ h => hFc q h) hFc (fun u9 t9 H9 locs ht9 hvm9 hw9 hB9 hz9 hk9 hS => ?_)
  obtain ⟨us2_1, bl2_1, lg2_1, bd2_1, dp2_1, hf1_0, hf1_1, hP1, hD1⟩ := hB9
  rw [ht9] at hP1
  have hP := hP1
  have hD := hD1.weaken (fun _ _ _ h => hFc _ h)
  generalize H9 = H at hP hS hz9 hk9 ht9 ⊢
  have hP : va_P D classes (mW cs ad len spot un ((fC now).1.1) ((fC now).1.2.1) (lvL now 30) ((fC now).1.2.2) tx now rd bf bl2_1 us2_1 lg2_1 bd2_1 dp2_1) H := hP
  have hD : va_D A (mW cs ad len spot un ((fC now).1.1) ((fC now).1.2.1) (lvL now 30) ((fC now).1.2.2) tx now rd bf bl2_1 us2_1 lg2_1 bd2_1 dp2_1) := hD
  refine lv_iload_n hx hb dX7_board_4 rfl (lv_at hl 1 rfl) ?_
  refine rv_i2l hx hb dX7_board_5 (by omega) ?_
  refine rv_lconst (z := 0) hx hb dX7_board_6 (by decide) ?_
  refine lv_aload_n hx hb dX7_board_7 rfl (lv_at hl 0 rfl) ?_
  refine va_get (D := D) (ci := 6) (v := .int (iI ((fC now).1.1))) (C := RX7) (T := TX7) (N := 16) hx hb ht inTB_X7 hown hK hP 0 rfl rfl 12 (by decide) (ht _ tb_600) (fun _ h9 => h9) rfl dX7_board_8 ?_
  refine rv_iconst hx hb dX7_board_11 ?_
  refine rv_isub hx hb dX7_board_12 ?_
  refine rv_i2l hx hb dX7_board_13 (by omega) ?_
  refine vp_callSi (W.runS (As := [.long (lI b), .long (lI 0), .long (lI ((fC now).1.1 - 1))]) (rest := []) ⟨hx, hb, hml, hown, hts⟩ (c_X7_in l b 0 ((fC now).1.1 - 1) (by omega) (by omega) (by omega)) (va_cwS 3 hts (gS tb_649 tb_650 tb_8 tb_651) rfl rfl rfl (by decide +kernel) ⟨Nat.le_of_ble_eq_true rfl, Nat.le_of_ble_eq_true rfl⟩) preS0 rfl rfl hl.1 rfl (lv_room (Nat.le_of_ble_eq_true rfl)) dX7_board_14 ⟨Nat.le_of_ble_eq_true rfl, Nat.le_of_ble_eq_true rfl⟩) (fun r9 hr9 => ?_)
  rcases hr9 with ⟨rfl, hb14⟩ | ⟨rfl, hb14⟩
  · refine rv_if_eq (tgt := 32) hx hb dX7_board_17 (by decide) (by decide) (fun q => absurd q (by decide)) (fun _ => ?_)
    refine lv_iload_n hx hb dX7_board_20 rfl (lv_at hl 2 rfl) ?_
    refine rv_i2l hx hb dX7_board_21 (by omega) ?_
    refine rv_lconst (z := 0) hx hb dX7_board_22 (by decide) ?_
    refine lv_ldc2 (v := lI 2) hx hb hown (ht _ tb_662) dX7_board_23 ?_
    refine vp_callSi (W.runS (As := [.long (lI what), .long (lI 0), .long (lI 2)]) (rest := []) ⟨hx, hb, hml, hown, hts⟩ (c_X7_in l what 0 2 (by omega) (by omega) (by omega)) (va_cwS 3 hts (gS tb_649 tb_650 tb_8 tb_651) rfl rfl rfl (by decide +kernel) ⟨Nat.le_of_ble_eq_true rfl, Nat.le_of_ble_eq_true rfl⟩) preS0 rfl rfl hl.1 rfl (lv_room (Nat.le_of_ble_eq_true rfl)) dX7_board_26 ⟨Nat.le_of_ble_eq_true rfl, Nat.le_of_ble_eq_true rfl⟩) (fun r9 hr9 => ?_)
    rcases hr9 with ⟨rfl, hb26⟩ | ⟨rfl, hb26⟩
    · refine rv_if_ne (tgt := 34) hx hb dX7_board_29 (by decide) (by decide) (fun _ => ?_) (fun q => absurd q (by decide))
      refine lv_iload_n hx hb dX7_board_34 rfl (lv_at hl 2 rfl) ?_
      refine rv_if_ne (tgt := 47) hx hb dX7_board_35 (by decide) (by omega) (fun h35 => ?_) (fun h35 => ?_)
      · refine lv_iload_n hx hb dX7_board_47 rfl (lv_at hl 2 rfl) ?_
        refine rv_iconst hx hb dX7_board_48 ?_
        refine rv_icmp_ne (tgt := 69) hx hb dX7_board_49 (by decide) (by omega) (fun h49 => ?_) (fun h49 => ?_)
        · refine lv_aload_n hx hb dX7_board_69 rfl (lv_at hl 0 rfl) ?_
          refine va_get (D := D) (ci := 6) (v := .ref (ad 7)) (C := RX7) (T := TX7) (N := 16) hx hb ht inTB_X7 hown hK hP 0 rfl rfl 9 (by decide) (ht _ tb_597) (fun _ h9 => h9) rfl dX7_board_70 ?_
          refine lv_iload_n hx hb dX7_board_73 rfl (lv_at hl 1 rfl) ?_
          refine rv_iald hx hb hK hP 7 0 rfl rfl b.toNat (by omega) (by omega) dX7_board_74 ?_
          subst hQ
          exact W.iret hx hb hr (fun t9 ht9 hW9 => ⟨⟨_, _, rfl, rfl, ⟨us2_1, bl2_1, lg2_1, bd2_1, dp2_1, ((fC now).1.1), ((fC now).1.2.1), (lvL now 30), ((fC now).1.2.2), by have hz := hf1_0 b.toNat (by omega); rw [aBoard, cif_pos ⟨by omega, by omega⟩]; first | rw [cif_pos (by omega), hz.2.1] | rw [cif_neg (by omega), cif_pos (by omega), hz.1] | rw [cif_neg (by omega), cif_neg (by omega), hz.2.2], by rw [ht9]; exact hP, by rw [hAe]; exact hD⟩⟩, by rw [hAe]; exact hS.F ht9⟩) (by rw [hAe]; exact hS.2.2) dX7_board_75
        · refine lv_aload_n hx hb dX7_board_52 rfl (lv_at hl 0 rfl) ?_
          refine va_get (D := D) (ci := 6) (v := .ref (ad 2)) (C := RX7) (T := TX7) (N := 16) hx hb ht inTB_X7 hown hK hP 0 rfl rfl 3 (by decide) (ht _ tb_591) (fun _ h9 => h9) rfl dX7_board_53 ?_
          refine rv_bipush hx hb dX7_board_56 (by decide) ?_
          refine rv_iald hx hb hK hP 2 0 rfl rfl 22 rfl (by omega) dX7_board_58 ?_
          refine lv_aload_n hx hb dX7_board_59 rfl (lv_at hl 0 rfl) ?_
          refine va_get (D := D) (ci := 6) (v := .ref (ad 6)) (C := RX7) (T := TX7) (N := 16) hx hb ht inTB_X7 hown hK hP 0 rfl rfl 8 (by decide) (ht _ tb_596) (fun _ h9 => h9) rfl dX7_board_60 ?_
          refine lv_iload_n hx hb dX7_board_63 rfl (lv_at hl 1 rfl) ?_
          refine rv_iald hx hb hK hP 6 0 rfl rfl b.toNat (by omega) (by omega) dX7_board_64 ?_
          refine rv_isub hx hb dX7_board_65 ?_
          refine lv_goto (tgt := 75) hx hb dX7_board_66 (by decide) ?_
          subst hQ
          exact W.iret hx hb hr (fun t9 ht9 hW9 => ⟨⟨_, _, rfl, rfl, ⟨us2_1, bl2_1, lg2_1, bd2_1, dp2_1, ((fC now).1.1), ((fC now).1.2.1), (lvL now 30), ((fC now).1.2.2), by have hz := hf1_0 b.toNat (by omega); rw [aBoard, cif_pos ⟨by omega, by omega⟩]; first | rw [cif_pos (by omega), hz.2.1] | rw [cif_neg (by omega), cif_pos (by omega), hz.1] | rw [cif_neg (by omega), cif_neg (by omega), hz.2.2], by rw [ht9]; exact hP, by rw [hAe]; exact hD⟩⟩, by rw [hAe]; exact hS.F ht9⟩) (by rw [hAe]; exact hS.2.2) dX7_board_75
      · refine lv_aload_n hx hb dX7_board_38 rfl (lv_at hl 0 rfl) ?_
        refine va_get (D := D) (ci := 6) (v := .ref (ad 5)) (C := RX7) (T := TX7) (N := 16) hx hb ht inTB_X7 hown hK hP 0 rfl rfl 7 (by decide) (ht _ tb_595) (fun _ h9 => h9) rfl dX7_board_39 ?_
        refine lv_iload_n hx hb dX7_board_42 rfl (lv_at hl 1 rfl) ?_
        refine rv_iald hx hb hK hP 5 0 rfl rfl b.toNat (by omega) (by omega) dX7_board_43 ?_
        refine lv_goto (tgt := 75) hx hb dX7_board_44 (by decide) ?_
        subst hQ
        exact W.iret hx hb hr (fun t9 ht9 hW9 => ⟨⟨_, _, rfl, rfl, ⟨us2_1, bl2_1, lg2_1, bd2_1, dp2_1, ((fC now).1.1), ((fC now).1.2.1), (lvL now 30), ((fC now).1.2.2), by have hz := hf1_0 b.toNat (by omega); rw [aBoard, cif_pos ⟨by omega, by omega⟩]; first | rw [cif_pos (by omega), hz.2.1] | rw [cif_neg (by omega), cif_pos (by omega), hz.1] | rw [cif_neg (by omega), cif_neg (by omega), hz.2.2], by rw [ht9]; exact hP, by rw [hAe]; exact hD⟩⟩, by rw [hAe]; exact hS.F ht9⟩) (by rw [hAe]; exact hS.2.2) dX7_board_75
    · refine rv_if_ne (tgt := 34) hx hb dX7_board_29 (by decide) (by decide) (fun q => absurd q (by decide)) (fun _ => ?_)
      refine rv_iconst hx hb dX7_board_32 ?_
      subst hQ
      exact W.iret hx hb hr (fun t9 ht9 hW9 => ⟨⟨_, _, rfl, rfl, ⟨us2_1, bl2_1, lg2_1, bd2_1, dp2_1, ((fC now).1.1), ((fC now).1.2.1), (lvL now 30), ((fC now).1.2.2), by rw [aBoard, cif_neg (fun q => by have := q.1; have := q.2; omega)], by rw [ht9]; exact hP, by rw [hAe]; exact hD⟩⟩, by rw [hAe]; exact hS.F ht9⟩) (by rw [hAe]; exact hS.2.2) dX7_board_33
  · refine rv_if_eq (tgt := 32) hx hb dX7_board_17 (by decide) (by decide) (fun _ => ?_) (fun q => absurd q (by decide))
    refine rv_iconst hx hb dX7_board_32 ?_
    subst hQ
    exact W.iret hx hb hr (fun t9 ht9 hW9 => ⟨⟨_, _, rfl, rfl, ⟨us2_1, bl2_1, lg2_1, bd2_1, dp2_1, ((fC now).1.1), ((fC now).1.2.1), (lvL now 30), ((fC now).1.2.2), by rw [aBoard, cif_neg (fun q => by have := q.1; have := q.2; omega)], by rw [ht9]; exact hP, by rw [hAe]; exact hD⟩⟩, by rw [hAe]; exact hS.F ht9⟩) (by rw [hAe]; exact hS.2.2) dX7_board_33

abbrev rm_X7_where : Room := { frames := 4, cells := 0, slots := 0, locals := 95 }
set_option maxHeartbeats 8000000 in
set_option maxRecDepth 100000 in
/-- where -/
theorem c_X7_where (l : Launch) (D : va_G) (cs : Nat → ClassId) (ad : Nat → Nat) (sz : Nat) (len : Int) (spot : Int) (un : Int) (bo : Int) (cu : Int) (lo : Int) (wh : Int) (tx : Nat → Int) (now : Nat → Int) (rd : Nat → Int) (bf : Nat → Int) (bl : Nat → Int) (us : Nat → Int) (lg : Nat → Int) (bd : Nat → Int) (dp : Nat → Int) (p : Int) (i : Int) (hvL : vL now) (hp0 : -2147483648 ≤ p ∧ p < 2147483648) (hi : -2147483648 ≤ i ∧ i < 2147483648) : Met l yX7_where (Cond.code yX7_where cX7_where 3 (some .int) :: TB) rm_X7_where (va_Pc [.ref (ad 0), .int (iI p), .int (iI i)] (MPre D cs sz (mW cs ad len spot un bo cu lo wh tx now rd bf bl us lg bd dp) (fun _ _ => True))) (va_Qi (fun (r u : Int32) => r = u) (fun r t => ∃ (us2 : Nat → Int) (bl2 : Nat → Int) (lg2 : Nat → Int) (bd2 : Nat → Int) (dp2 : Nat → Int) (bo2 : Int) (cu2 : Int) (lo2 : Int) (wh2 : Int), (r = iI (aWhere now p i)) ∧ va_P D classes (mW cs ad len spot un bo2 cu2 lo2 wh2 tx now rd bf bl2 us2 lg2 bd2 dp2) t.heap ∧ va_D (va_A (mW cs ad len spot un bo cu lo wh tx now rd bf bl us lg bd dp) sz) (mW cs ad len spot un bo2 cu2 lo2 wh2 tx now rd bf bl2 us2 lg2 bd2 dp2)) (va_A (mW cs ad len spot un bo cu lo wh tx now rd bf bl us lg bd dp) sz)) 0 0 (va_A (mW cs ad len spot un bo cu lo wh tx now rd bf bl us lg bd dp) sz) := by
  refine enter (cc := cX7_where) (maxL := 3) (ret := (some .int)) (by decide) (Nat.le_of_ble_eq_true rfl) ?_
  intro pg ev s m below meth c Q ls hx hb hml hown hts hr hlocks hnm ⟨hsz, hP, hD0, hK, hX0⟩ hl hQ
  have ht : ∀ w ∈ TB, w.before _ s = true := fun w h => hts w (List.mem_cons_of_mem _ h)
  subst hsz
  have hD := hD0.self (sz := s.heap.size)
  obtain ⟨A, hAe⟩ : ∃ A, va_A (mW cs ad len spot un bo cu lo wh tx now rd bf bl us lg bd dp) s.heap.size = A := ⟨_, rfl⟩
  rw [hAe] at hD
  have hA : ∀ q : Nat, s.heap.size ≤ q → A q := fun q h => by rw [← hAe]; exact Or.inr h
  obtain ⟨H, hH⟩ : ∃ H, H = s.heap := ⟨_, rfl⟩
  obtain ⟨locs, hlocs⟩ : ∃ locs : List Loc, locs = [] := ⟨_, rfl⟩
  have hS : va_S A s.heap H locs := by rw [hH, hlocs]; exact va_S.rf
  rw [← hH] at hP
  suffices hgo : W pg l ev rm_X7_where s m [.ref (ad 0), .int (iI p), .int (iI i)].toArray below meth c H locs 0 0 Q (F0 m 0 ls []) by rw [hH, hlocs] at hgo; exact hgo
  have hl : lv_has ls 3 [(0, .ref (ad 0)), (1, .int (iI p)), (2, .int (iI i))] := hl
  obtain ⟨hv20, hv21, hv22, hv23, hvp⟩ := id hvL
  obtain ⟨⟨q0, q1, q2, q3, q4⟩, q5⟩ := fC_ok hvL
  have hlo := lo_160 now
  refine lv_aload_n hx hb dX7_where_0 rfl (lv_at hl 0 rfl) ?_
  refine lv_iload_n hx hb dX7_where_1 rfl (lv_at hl 1 rfl) ?_
  refine vp_callSi (W.runV (As := [.int (iI p)]) (rest := []) ⟨hx, hb, hml, hown, hts⟩ (c_X7_isPanel l D cs (ad 0) (ad 2) _ now p (by omega)) (cwV 1 hts (gV tb_716 tb_718 tbs_20 tb_8 tb_719) rfl rfl rfl (by decide +kernel) ⟨Nat.le_of_ble_eq_true rfl, Nat.le_of_ble_eq_true rfl⟩) (preV_mod hK ⟨hP.sub [0, 2] rfl, rfl, hvL⟩) rfl rfl hl.1 rfl (lv_room (Nat.le_of_ble_eq_true rfl)) dX7_where_2 ⟨Nat.le_of_ble_eq_true rfl, Nat.le_of_ble_eq_true rfl⟩) (fun r9 hr9 => ?_)
  rcases hr9 with ⟨rfl, hb2⟩ | ⟨rfl, hb2⟩
  · refine rv_if_eq (tgt := 30) hx hb dX7_where_5 (by decide) (by decide) (fun q => absurd q (by decide)) (fun _ => ?_)
    obtain ⟨hvk, hvn, hvf, hvo, hvw⟩ := vL_p hvL hb2
    have hnb := isPr_bd hvn
    refine lv_iload_n hx hb dX7_where_8 rfl (lv_at hl 2 rfl) ?_
    refine rv_i2l hx hb dX7_where_9 (by omega) ?_
    refine rv_lconst (z := 0) hx hb dX7_where_10 (by decide) ?_
    refine lv_aload_n hx hb dX7_where_11 rfl (lv_at hl 0 rfl) ?_
    refine va_get (D := D) (ci := 6) (v := .ref (ad 2)) (C := RX7) (T := TX7) (N := 16) hx hb ht inTB_X7 hown hK hP 0 rfl rfl 3 (by decide) (ht _ tb_591) (fun _ h9 => h9) rfl dX7_where_12 ?_
    refine rv_iconst hx hb dX7_where_15 ?_
    refine lv_iload_n hx hb dX7_where_16 rfl (lv_at hl 1 rfl) ?_
    refine rv_imul hx hb dX7_where_17 ?_
    refine rv_iconst hx hb dX7_where_18 ?_
    refine rv_iadd hx hb dX7_where_19 ?_
    refine rv_iald hx hb hK hP 2 0 rfl rfl (5 * p.toNat + 4) (by omega) (by omega) dX7_where_20 ?_
    refine rv_top (y := pv now p 4) rfl ?_
    refine rv_iconst hx hb dX7_where_21 ?_
    refine rv_isub hx hb dX7_where_22 ?_
    refine rv_i2l hx hb dX7_where_23 (by omega) ?_
    refine vp_callSi (W.runS (As := [.long (lI i), .long (lI 0), .long (lI ((pv now p 4) - 1))]) (rest := []) ⟨hx, hb, hml, hown, hts⟩ (c_X7_in l i 0 ((pv now p 4) - 1) (by omega) (by omega) (by omega)) (va_cwS 3 hts (gS tb_649 tb_650 tb_8 tb_651) rfl rfl rfl (by decide +kernel) ⟨Nat.le_of_ble_eq_true rfl, Nat.le_of_ble_eq_true rfl⟩) preS0 rfl rfl hl.1 rfl (lv_room (Nat.le_of_ble_eq_true rfl)) dX7_where_24 ⟨Nat.le_of_ble_eq_true rfl, Nat.le_of_ble_eq_true rfl⟩) (fun r9 hr9 => ?_)
    rcases hr9 with ⟨rfl, hb24⟩ | ⟨rfl, hb24⟩
    · refine rv_if_ne (tgt := 32) hx hb dX7_where_27 (by decide) (by decide) (fun _ => ?_) (fun q => absurd q (by decide))
      refine lv_aload_n hx hb dX7_where_32 rfl (lv_at hl 0 rfl) ?_
      have hFc := va_free (wc := (mW cs ad len spot un bo cu lo wh tx now rd bf bl us lg bd dp)) hD hS hA [0, 1, 2, 3, 4, 5, 6, 7, 8, 9] rfl
      refine va_callv (va_runV (As := []) (rest := []) ⟨hx, hb, hml, hown, hts⟩ (c_X7_cutsAll l D cs ad H.size len spot un bo cu lo wh tx now rd bf bl us lg bd dp hvL) (cwV 0 hts (gV tb_794 tb_796 tbs_30 tb_8 tb_797) rfl rfl rfl (by decide +kernel) ⟨Nat.le_of_ble_eq_true rfl, Nat.le_of_ble_eq_true rfl⟩) (preV_M (X := fun _ _ => True) Stb_T hK (va_recv hK hP (ci := 6) (q0 := 0) rfl rfl) hP hD trivial) rfl rfl hl.1 rfl (lv_room (Nat.le_of_ble_eq_true rfl)) dX7_where_33 ⟨Nat.le_of_ble_eq_true rfl, Nat.le_of_ble_eq_true rfl⟩) hS (fun q _ h => hFc q h) hFc (fun u9 t9 H9 locs ht9 hvm9 hw9 hB9 hz9 hk9 hS => ?_)
      obtain ⟨us2_33, bl2_33, lg2_33, bd2_33, dp2_33, hf33_0, hf33_1, hP1, hD1⟩ := hB9
      rw [ht9] at hP1
      have hP := hP1
      have hD := hD1.weaken (fun _ _ _ h => hFc _ h)
      generalize H9 = H at hP hS hz9 hk9 ht9 ⊢
      have hP : va_P D classes (mW cs ad len spot un ((fC now).1.1) ((fC now).1.2.1) (lvL now 30) ((fC now).1.2.2) tx now rd bf bl2_33 us2_33 lg2_33 bd2_33 dp2_33) H := hP
      have hD : va_D A (mW cs ad len spot un ((fC now).1.1) ((fC now).1.2.1) (lvL now 30) ((fC now).1.2.2) tx now rd bf bl2_33 us2_33 lg2_33 bd2_33 dp2_33) := hD
      refine lv_aload_n hx hb dX7_where_36 rfl (lv_at hl 0 rfl) ?_
      refine va_get (D := D) (ci := 6) (v := .ref (ad 8)) (C := RX7) (T := TX7) (N := 16) hx hb ht inTB_X7 hown hK hP 0 rfl rfl 10 (by decide) (ht _ tb_598) (fun _ h9 => h9) rfl dX7_where_37 ?_
      refine rv_bipush hx hb dX7_where_40 (by decide) ?_
      refine lv_iload_n hx hb dX7_where_42 rfl (lv_at hl 1 rfl) ?_
      refine rv_imul hx hb dX7_where_43 ?_
      refine lv_iload_n hx hb dX7_where_44 rfl (lv_at hl 2 rfl) ?_
      refine rv_iadd hx hb dX7_where_45 ?_
      refine rv_iald hx hb hK hP 8 0 rfl rfl ((40 * p + i).toNat) (by omega) (by omega) dX7_where_46 ?_
      subst hQ
      exact W.iret hx hb hr (fun t9 ht9 hW9 => ⟨⟨_, _, rfl, rfl, ⟨us2_33, bl2_33, lg2_33, bd2_33, dp2_33, ((fC now).1.1), ((fC now).1.2.1), (lvL now 30), ((fC now).1.2.2), by rw [aWhere, cif_pos ⟨hb2, by omega⟩, hf33_1 _ (by omega)], by rw [ht9]; exact hP, by rw [hAe]; exact hD⟩⟩, by rw [hAe]; exact hS.F ht9⟩) (by rw [hAe]; exact hS.2.2) dX7_where_47
    · refine rv_if_ne (tgt := 32) hx hb dX7_where_27 (by decide) (by decide) (fun q => absurd q (by decide)) (fun _ => ?_)
      refine rv_iconst hx hb dX7_where_30 ?_
      subst hQ
      exact W.iret hx hb hr (fun t9 ht9 hW9 => ⟨⟨_, _, rfl, rfl, ⟨us, bl, lg, bd, dp, bo, cu, lo, wh, by rw [aWhere, cif_neg (fun q => by first | exact hb2 q.1 | (have := q.2; omega))], by rw [ht9]; exact hP, by rw [hAe]; exact hD⟩⟩, by rw [hAe]; exact hS.F ht9⟩) (by rw [hAe]; exact hS.2.2) dX7_where_31
  · refine rv_if_eq (tgt := 30) hx hb dX7_where_5 (by decide) (by decide) (fun _ => ?_) (fun q => absurd q (by decide))
    refine rv_iconst hx hb dX7_where_30 ?_
    subst hQ
    exact W.iret hx hb hr (fun t9 ht9 hW9 => ⟨⟨_, _, rfl, rfl, ⟨us, bl, lg, bd, dp, bo, cu, lo, wh, by rw [aWhere, cif_neg (fun q => by first | exact hb2 q.1 | (have := q.2; omega))], by rw [ht9]; exact hP, by rw [hAe]; exact hD⟩⟩, by rw [hAe]; exact hS.F ht9⟩) (by rw [hAe]; exact hS.2.2) dX7_where_31

abbrev rm_X7_best : Room := { frames := 4, cells := 0, slots := 0, locals := 95 }
set_option maxHeartbeats 8000000 in
set_option maxRecDepth 100000 in
/-- best -/
theorem c_X7_best (l : Launch) (D : va_G) (cs : Nat → ClassId) (ad : Nat → Nat) (sz : Nat) (len : Int) (spot : Int) (un : Int) (bo : Int) (cu : Int) (lo : Int) (wh : Int) (tx : Nat → Int) (now : Nat → Int) (rd : Nat → Int) (bf : Nat → Int) (bl : Nat → Int) (us : Nat → Int) (lg : Nat → Int) (bd : Nat → Int) (dp : Nat → Int) (p : Int) (what : Int) (hvL : vL now) (hp0 : -2147483648 ≤ p ∧ p < 2147483648) (hw : -2147483648 ≤ what ∧ what < 2147483648) : Met l yX7_best (Cond.code yX7_best cX7_best 11 (some .int) :: TB) rm_X7_best (va_Pc [.ref (ad 0), .int (iI p), .int (iI what)] (MPre D cs sz (mW cs ad len spot un bo cu lo wh tx now rd bf bl us lg bd dp) (fun _ _ => True))) (va_Qi (fun (r u : Int32) => r = u) (fun r t => ∃ (us2 : Nat → Int) (bl2 : Nat → Int) (lg2 : Nat → Int) (bd2 : Nat → Int) (dp2 : Nat → Int) (bo2 : Int) (cu2 : Int) (lo2 : Int) (wh2 : Int), (r = iI (aBest now p what)) ∧ va_P D classes (mW cs ad len spot un bo2 cu2 lo2 wh2 tx now rd bf bl2 us2 lg2 bd2 dp2) t.heap ∧ va_D (va_A (mW cs ad len spot un bo cu lo wh tx now rd bf bl us lg bd dp) sz) (mW cs ad len spot un bo2 cu2 lo2 wh2 tx now rd bf bl2 us2 lg2 bd2 dp2)) (va_A (mW cs ad len spot un bo cu lo wh tx now rd bf bl us lg bd dp) sz)) 0 0 (va_A (mW cs ad len spot un bo cu lo wh tx now rd bf bl us lg bd dp) sz) := by
  refine enter (cc := cX7_best) (maxL := 11) (ret := (some .int)) (by decide) (Nat.le_of_ble_eq_true rfl) ?_
  intro pg ev s m below meth c Q ls hx hb hml hown hts hr hlocks hnm ⟨hsz, hP, hD0, hK, hX0⟩ hl hQ
  have ht : ∀ w ∈ TB, w.before _ s = true := fun w h => hts w (List.mem_cons_of_mem _ h)
  subst hsz
  have hD := hD0.self (sz := s.heap.size)
  obtain ⟨A, hAe⟩ : ∃ A, va_A (mW cs ad len spot un bo cu lo wh tx now rd bf bl us lg bd dp) s.heap.size = A := ⟨_, rfl⟩
  rw [hAe] at hD
  have hA : ∀ q : Nat, s.heap.size ≤ q → A q := fun q h => by rw [← hAe]; exact Or.inr h
  obtain ⟨H, hH⟩ : ∃ H, H = s.heap := ⟨_, rfl⟩
  obtain ⟨locs, hlocs⟩ : ∃ locs : List Loc, locs = [] := ⟨_, rfl⟩
  have hS : va_S A s.heap H locs := by rw [hH, hlocs]; exact va_S.rf
  rw [← hH] at hP
  suffices hgo : W pg l ev rm_X7_best s m [.ref (ad 0), .int (iI p), .int (iI what)].toArray below meth c H locs 0 0 Q (F0 m 0 ls []) by rw [hH, hlocs] at hgo; exact hgo
  have hl : lv_has ls 11 [(0, .ref (ad 0)), (1, .int (iI p)), (2, .int (iI what))] := hl
  obtain ⟨hv20, hv21, hv22, hv23, hvp⟩ := id hvL
  refine lv_aload_n hx hb dX7_best_0 rfl (lv_at hl 0 rfl) ?_
  refine lv_iload_n hx hb dX7_best_1 rfl (lv_at hl 1 rfl) ?_
  refine vp_callSi (W.runV (As := [.int (iI p)]) (rest := []) ⟨hx, hb, hml, hown, hts⟩ (c_X7_isPanel l D cs (ad 0) (ad 2) _ now p (by omega)) (cwV 1 hts (gV tb_716 tb_718 tbs_20 tb_8 tb_719) rfl rfl rfl (by decide +kernel) ⟨Nat.le_of_ble_eq_true rfl, Nat.le_of_ble_eq_true rfl⟩) (preV_mod hK ⟨hP.sub [0, 2] rfl, rfl, hvL⟩) rfl rfl hl.1 rfl (lv_room (Nat.le_of_ble_eq_true rfl)) dX7_best_2 ⟨Nat.le_of_ble_eq_true rfl, Nat.le_of_ble_eq_true rfl⟩) (fun r9 hr9 => ?_)
  rcases hr9 with ⟨rfl, hb2⟩ | ⟨rfl, hb2⟩
  · refine rv_if_eq (tgt := 18) hx hb dX7_best_5 (by decide) (by decide) (fun q => absurd q (by decide)) (fun _ => ?_)
    obtain ⟨hvk, hvn, hvf, hvo, hvw⟩ := vL_p hvL hb2
    have hnb := isPr_bd hvn
    refine lv_iload_n hx hb dX7_best_8 rfl (lv_at hl 2 rfl) ?_
    refine rv_i2l hx hb dX7_best_9 (by omega) ?_
    refine rv_lconst (z := 0) hx hb dX7_best_10 (by decide) ?_
    refine rv_lconst (z := 1) hx hb dX7_best_11 (by decide) ?_
    refine vp_callSi (W.runS (As := [.long (lI what), .long (lI 0), .long (lI 1)]) (rest := []) ⟨hx, hb, hml, hown, hts⟩ (c_X7_in l what 0 1 (by omega) (by omega) (by omega)) (va_cwS 3 hts (gS tb_649 tb_650 tb_8 tb_651) rfl rfl rfl (by decide +kernel) ⟨Nat.le_of_ble_eq_true rfl, Nat.le_of_ble_eq_true rfl⟩) preS0 rfl rfl hl.1 rfl (lv_room (Nat.le_of_ble_eq_true rfl)) dX7_best_12 ⟨Nat.le_of_ble_eq_true rfl, Nat.le_of_ble_eq_true rfl⟩) (fun r9 hr9 => ?_)
    rcases hr9 with ⟨rfl, hb12⟩ | ⟨rfl, hb12⟩
    · refine rv_if_ne (tgt := 20) hx hb dX7_best_15 (by decide) (by decide) (fun _ => ?_) (fun q => absurd q (by decide))
      refine lv_aload_n hx hb dX7_best_20 rfl (lv_at hl 0 rfl) ?_
      refine va_get (D := D) (ci := 6) (v := .ref (ad 2)) (C := RX7) (T := TX7) (N := 16) hx hb ht inTB_X7 hown hK hP 0 rfl rfl 3 (by decide) (ht _ tb_591) (fun _ h9 => h9) rfl dX7_best_21 ?_
      refine rv_iconst hx hb dX7_best_24 ?_
      refine lv_iload_n hx hb dX7_best_25 rfl (lv_at hl 1 rfl) ?_
      refine rv_imul hx hb dX7_best_26 ?_
      refine rv_iconst hx hb dX7_best_27 ?_
      refine rv_iadd hx hb dX7_best_28 ?_
      refine rv_iald hx hb hK hP 2 0 rfl rfl (5 * p.toNat + 3) (by omega) (by omega) dX7_best_29 ?_
      refine rv_top (y := pv now p 3) rfl ?_
      refine lv_istore_n (lv' := [(3, .int (iI (pv now p 3))), (0, .ref (ad 0)), (1, .int (iI p)), (2, .int (iI what))]) hx hb dX7_best_30 rfl hl (by decide) rfl (fun ls hl => ?_)
      refine rv_iconst hx hb dX7_best_31 ?_
      refine lv_istore (lv' := [(4, .int (iI 0)), (3, .int (iI (pv now p 3))), (0, .ref (ad 0)), (1, .int (iI p)), (2, .int (iI what))]) hx hb dX7_best_32 hl (by decide) rfl (fun ls hl => ?_)
      refine rv_sipush hx hb dX7_best_34 (by decide) ?_
      refine lv_istore (lv' := [(5, .int (iI 1000)), (4, .int (iI 0)), (3, .int (iI (pv now p 3))), (0, .ref (ad 0)), (1, .int (iI p)), (2, .int (iI what))]) hx hb dX7_best_37 hl (by decide) rfl (fun ls hl => ?_)
      refine rv_sipush hx hb dX7_best_39 (by decide) ?_
      refine lv_istore (lv' := [(6, .int (iI 1000)), (5, .int (iI 1000)), (4, .int (iI 0)), (3, .int (iI (pv now p 3))), (0, .ref (ad 0)), (1, .int (iI p)), (2, .int (iI what))]) hx hb dX7_best_42 hl (by decide) rfl (fun ls hl => ?_)
      refine rv_iconst hx hb dX7_best_44 ?_
      refine lv_istore (lv' := [(7, .int (iI 0)), (6, .int (iI 1000)), (5, .int (iI 1000)), (4, .int (iI 0)), (3, .int (iI (pv now p 3))), (0, .ref (ad 0)), (1, .int (iI p)), (2, .int (iI what))]) hx hb dX7_best_45 hl (by decide) rfl (fun ls hl => ?_)
      refine rv_iconst hx hb dX7_best_47 ?_
      refine lv_istore (lv' := [(8, .int (iI 0)), (7, .int (iI 0)), (6, .int (iI 1000)), (5, .int (iI 1000)), (4, .int (iI 0)), (3, .int (iI (pv now p 3))), (0, .ref (ad 0)), (1, .int (iI p)), (2, .int (iI what))]) hx hb dX7_best_48 hl (by decide) rfl (fun ls hl => ?_)
      have loop50 : ∀ (fuel50 : Nat) (k : Nat) (NW : Nat → Int) (U1 : Nat → Int) (U2 : Nat → Int) (U3 : Nat → Int) (U4 : Nat → Int) (U5 : Nat → Int) (B1 : Int) (B2 : Int) (B3 : Int) (B4 : Int), ((k : Int) ≤ pv now p 1) → (∀ j : Nat, j ≠ 5 * p.toNat + 3 → NW j = now j) → (pv now p 1 - (k : Int)).toNat < fuel50 → ∀ (x4 x5 x6 x7 x8 : Int), x4 = (bst now p k).1 → x5 = (bst now p k).2.1 → x6 = (bst now p k).2.2.1 → x7 = (bst now p k).2.2.2 → x8 = (k : Int) → ∀ (H : Heap) (locs : List Loc), va_P D classes (mW cs ad len spot un B1 B2 B3 B4 tx NW rd bf U2 U1 U3 U4 U5) H → va_D A (mW cs ad len spot un B1 B2 B3 B4 tx NW rd bf U2 U1 U3 U4 U5) → va_S A s.heap H locs → ∀ ls : Array Slot, lv_has ls 11 [(0, .ref (ad 0)), (1, .int (iI p)), (2, .int (iI what)), (3, .int (iI (pv now p 3))), (4, .int (iI x4)), (5, .int (iI x5)), (6, .int (iI x6)), (7, .int (iI x7)), (8, .int (iI x8))] → W pg l ev rm_X7_best s m [.ref (ad 0), .int (iI p), .int (iI what)].toArray below meth c H locs 0 0 Q (F0 m 50 ls []) := by
        intro fuel50
        induction fuel50 with
        | zero => intro k NW U1 U2 U3 U4 U5 B1 B2 B3 B4 hkk hNW hfuel50; exact absurd hfuel50 (Nat.not_lt_zero _)
        | succ fuel50 ih50 =>
          intro k NW U1 U2 U3 U4 U5 B1 B2 B3 B4 hkk hNW hfuel50 x4 x5 x6 x7 x8 ex4 ex5 ex6 ex7 ex8 H locs hP hD hS ls hl
          subst ex4 ex5 ex6 ex7 ex8
          have hbb := bst_bd hvL hb2 k hkk
          have hN20 : NW 20 = now 20 := hNW 20 (by omega)
          have hN22 : NW 22 = now 22 := hNW 22 (by omega)
          refine lv_iload hx hb dX7_best_50 (lv_at hl 8 rfl) ?_
          refine lv_aload_n hx hb dX7_best_52 rfl (lv_at hl 0 rfl) ?_
          refine va_get (D := D) (ci := 6) (v := .ref (ad 2)) (C := RX7) (T := TX7) (N := 16) hx hb ht inTB_X7 hown hK hP 0 rfl rfl 3 (by decide) (ht _ tb_591) (fun _ h9 => h9) rfl dX7_best_53 ?_
          refine rv_iconst hx hb dX7_best_56 ?_
          refine lv_iload_n hx hb dX7_best_57 rfl (lv_at hl 1 rfl) ?_
          refine rv_imul hx hb dX7_best_58 ?_
          refine rv_iconst hx hb dX7_best_59 ?_
          refine rv_iadd hx hb dX7_best_60 ?_
          refine rv_iald hx hb hK hP 2 0 rfl rfl (5 * p.toNat + 1) (by omega) (by omega) dX7_best_61 ?_
          refine rv_top (y := pv NW p 1) rfl ?_
          refine rv_top (y := (pv now p 1)) (hNW _ (by omega)) ?_
          refine rv_icmp_ge (tgt := 245) hx hb dX7_best_62 (by decide) (by omega) (fun h62 => ?_) (fun h62 => ?_)
          · refine lv_aload_n hx hb dX7_best_245 rfl (lv_at hl 0 rfl) ?_
            refine va_get (D := D) (ci := 6) (v := .ref (ad 2)) (C := RX7) (T := TX7) (N := 16) hx hb ht inTB_X7 hown hK hP 0 rfl rfl 3 (by decide) (ht _ tb_591) (fun _ h9 => h9) rfl dX7_best_246 ?_
            refine rv_iconst hx hb dX7_best_249 ?_
            refine lv_iload_n hx hb dX7_best_250 rfl (lv_at hl 1 rfl) ?_
            refine rv_imul hx hb dX7_best_251 ?_
            refine rv_iconst hx hb dX7_best_252 ?_
            refine rv_iadd hx hb dX7_best_253 ?_
            refine lv_iload_n hx hb dX7_best_254 rfl (lv_at hl 3 rfl) ?_
            refine rv_iast hx hb hK hP hD hS 2 0 rfl rfl (5 * p.toNat + 3) (by omega) (by omega) dX7_best_255 (fun H locs hP hD hS => ?_)
            have hP : va_P D classes (mW cs ad len spot un B1 B2 B3 B4 tx (upI NW (5 * p.toNat + 3) (pv now p 3)) rd bf U2 U1 U3 U4 U5) H := hP
            have hD : va_D A (mW cs ad len spot un B1 B2 B3 B4 tx (upI NW (5 * p.toNat + 3) (pv now p 3)) rd bf U2 U1 U3 U4 U5) := hD
            have eV : (upI NW (5 * p.toNat + 3) (pv now p 3)) = now := offV_back hNW
            rw [eV] at hP hD
            refine lv_iload_n hx hb dX7_best_256 rfl (lv_at hl 2 rfl) ?_
            refine rv_if_ne (tgt := 265) hx hb dX7_best_257 (by decide) (by omega) (fun h257 => ?_) (fun h257 => ?_)
            · refine lv_iload hx hb dX7_best_265 (lv_at hl 6 rfl) ?_
              subst hQ
              exact W.iret hx hb hr (fun t9 ht9 hW9 => ⟨⟨_, _, rfl, rfl, ⟨U1, U2, U3, U4, U5, B1, B2, B3, B4, by rw [aBest, cif_pos ⟨hb2, by omega⟩, show (pv now p 1).toNat = k by omega]; first | rw [cif_pos (by omega)] | rw [cif_neg (by omega)], by rw [ht9]; exact hP, by rw [hAe]; exact hD⟩⟩, by rw [hAe]; exact hS.F ht9⟩) (by rw [hAe]; exact hS.2.2) dX7_best_267
            · refine lv_iload hx hb dX7_best_260 (lv_at hl 4 rfl) ?_
              refine lv_goto (tgt := 267) hx hb dX7_best_262 (by decide) ?_
              subst hQ
              exact W.iret hx hb hr (fun t9 ht9 hW9 => ⟨⟨_, _, rfl, rfl, ⟨U1, U2, U3, U4, U5, B1, B2, B3, B4, by rw [aBest, cif_pos ⟨hb2, by omega⟩, show (pv now p 1).toNat = k by omega]; first | rw [cif_pos (by omega)] | rw [cif_neg (by omega)], by rw [ht9]; exact hP, by rw [hAe]; exact hD⟩⟩, by rw [hAe]; exact hS.F ht9⟩) (by rw [hAe]; exact hS.2.2) dX7_best_267
          · refine lv_aload_n hx hb dX7_best_65 rfl (lv_at hl 0 rfl) ?_
            refine va_get (D := D) (ci := 6) (v := .ref (ad 2)) (C := RX7) (T := TX7) (N := 16) hx hb ht inTB_X7 hown hK hP 0 rfl rfl 3 (by decide) (ht _ tb_591) (fun _ h9 => h9) rfl dX7_best_66 ?_
            refine rv_iconst hx hb dX7_best_69 ?_
            refine lv_iload_n hx hb dX7_best_70 rfl (lv_at hl 1 rfl) ?_
            refine rv_imul hx hb dX7_best_71 ?_
            refine rv_iconst hx hb dX7_best_72 ?_
            refine rv_iadd hx hb dX7_best_73 ?_
            refine lv_iload hx hb dX7_best_74 (lv_at hl 8 rfl) ?_
            refine rv_iast hx hb hK hP hD hS 2 0 rfl rfl (5 * p.toNat + 3) (by omega) (by omega) dX7_best_76 (fun H locs hP hD hS => ?_)
            have hP : va_P D classes (mW cs ad len spot un B1 B2 B3 B4 tx (upI NW (5 * p.toNat + 3) (k : Int)) rd bf U2 U1 U3 U4 U5) H := hP
            have hD : va_D A (mW cs ad len spot un B1 B2 B3 B4 tx (upI NW (5 * p.toNat + 3) (k : Int)) rd bf U2 U1 U3 U4 U5) := hD
            have eV : (upI NW (5 * p.toNat + 3) (k : Int)) = (offV now p (k : Int)) := offV_of hNW
            rw [eV] at hP hD
            have hvV := vL_off hvL hb2 (x := (k : Int)) (by omega)
            obtain ⟨⟨w0, w1, w2, w3, w4⟩, w5⟩ := fC_ok hvV
            have hlV := leftS_bd hvV
            have hloV := lo_160 (offV now p (k : Int))
            have hV22 : (offV now p (k : Int)) 22 = now 22 := offV_ne (by omega)
            refine lv_aload_n hx hb dX7_best_77 rfl (lv_at hl 0 rfl) ?_
            have hFc := va_free (wc := (mW cs ad len spot un B1 B2 B3 B4 tx (offV now p (k : Int)) rd bf U2 U1 U3 U4 U5)) hD hS hA [0, 1, 2, 3, 4, 5, 6, 7, 8, 9] rfl
            refine va_callv (va_runV (As := []) (rest := []) ⟨hx, hb, hml, hown, hts⟩ (c_X7_cutsAll l D cs ad H.size len spot un B1 B2 B3 B4 tx (offV now p (k : Int)) rd bf U2 U1 U3 U4 U5 hvV) (cwV 0 hts (gV tb_794 tb_796 tbs_30 tb_8 tb_797) rfl rfl rfl (by decide +kernel) ⟨Nat.le_of_ble_eq_true rfl, Nat.le_of_ble_eq_true rfl⟩) (preV_M (X := fun _ _ => True) Stb_T hK (va_recv hK hP (ci := 6) (q0 := 0) rfl rfl) hP hD trivial) rfl rfl hl.1 rfl (lv_room (Nat.le_of_ble_eq_true rfl)) dX7_best_78 ⟨Nat.le_of_ble_eq_true rfl, Nat.le_of_ble_eq_true rfl⟩) hS (fun q _ h => hFc q h) hFc (fun u9 t9 H9 locs ht9 hvm9 hw9 hB9 hz9 hk9 hS => ?_)
            obtain ⟨us2_78, bl2_78, lg2_78, bd2_78, dp2_78, hf78_0, hf78_1, hP1, hD1⟩ := hB9
            rw [ht9] at hP1
            have hP := hP1
            have hD := hD1.weaken (fun _ _ _ h => hFc _ h)
            generalize H9 = H at hP hS hz9 hk9 ht9 ⊢
            have hP : va_P D classes (mW cs ad len spot un ((fC (offV now p (k : Int))).1.1) ((fC (offV now p (k : Int))).1.2.1) (lvL (offV now p (k : Int)) 30) ((fC (offV now p (k : Int))).1.2.2) tx (offV now p (k : Int)) rd bf bl2_78 us2_78 lg2_78 bd2_78 dp2_78) H := hP
            have hD : va_D A (mW cs ad len spot un ((fC (offV now p (k : Int))).1.1) ((fC (offV now p (k : Int))).1.2.1) (lvL (offV now p (k : Int)) 30) ((fC (offV now p (k : Int))).1.2.2) tx (offV now p (k : Int)) rd bf bl2_78 us2_78 lg2_78 bd2_78 dp2_78) := hD
            refine lv_aload_n hx hb dX7_best_81 rfl (lv_at hl 0 rfl) ?_
            refine va_get (D := D) (ci := 6) (v := .int (iI ((fC (offV now p (k : Int))).1.1))) (C := RX7) (T := TX7) (N := 16) hx hb ht inTB_X7 hown hK hP 0 rfl rfl 12 (by decide) (ht _ tb_600) (fun _ h9 => h9) rfl dX7_best_82 ?_
            refine rv_if_ne (tgt := 92) hx hb dX7_best_85 (by decide) (by omega) (fun h85 => ?_) (fun h85 => ?_)
            · refine lv_aload_n hx hb dX7_best_92 rfl (lv_at hl 0 rfl) ?_
              refine va_get (D := D) (ci := 6) (v := .ref (ad 2)) (C := RX7) (T := TX7) (N := 16) hx hb ht inTB_X7 hown hK hP 0 rfl rfl 3 (by decide) (ht _ tb_591) (fun _ h9 => h9) rfl dX7_best_93 ?_
              refine rv_bipush hx hb dX7_best_96 (by decide) ?_
              refine rv_iald hx hb hK hP 2 0 rfl rfl 22 rfl (by omega) dX7_best_98 ?_
              refine lv_aload_n hx hb dX7_best_99 rfl (lv_at hl 0 rfl) ?_
              refine va_get (D := D) (ci := 6) (v := .ref (ad 6)) (C := RX7) (T := TX7) (N := 16) hx hb ht inTB_X7 hown hK hP 0 rfl rfl 8 (by decide) (ht _ tb_596) (fun _ h9 => h9) rfl dX7_best_100 ?_
              refine lv_aload_n hx hb dX7_best_103 rfl (lv_at hl 0 rfl) ?_
              refine va_get (D := D) (ci := 6) (v := .int (iI ((fC (offV now p (k : Int))).1.1))) (C := RX7) (T := TX7) (N := 16) hx hb ht inTB_X7 hown hK hP 0 rfl rfl 12 (by decide) (ht _ tb_600) (fun _ h9 => h9) rfl dX7_best_104 ?_
              refine rv_iconst hx hb dX7_best_107 ?_
              refine rv_isub hx hb dX7_best_108 ?_
              refine rv_iald hx hb hK hP 6 0 rfl rfl (((fC (offV now p (k : Int))).1.1 - 1).toNat) (by omega) (by omega) dX7_best_109 ?_
              refine rv_isub hx hb dX7_best_110 ?_
              refine rv_top (y := (leftS (offV now p (k : Int)))) (by rw [leftS, cif_neg h85, (hf78_0 _ (by omega)).1]) ?_
              refine lv_istore (lv' := [(9, .int (iI (leftS (offV now p (k : Int))))), (0, .ref (ad 0)), (1, .int (iI p)), (2, .int (iI what)), (3, .int (iI (pv now p 3))), (4, .int (iI ((bst now p k).1))), (5, .int (iI ((bst now p k).2.1))), (6, .int (iI ((bst now p k).2.2.1))), (7, .int (iI ((bst now p k).2.2.2))), (8, .int (iI (k : Int)))]) hx hb dX7_best_111 hl (by decide) rfl (fun ls hl => ?_)
              refine lv_aload_n hx hb dX7_best_113 rfl (lv_at hl 1 rfl) ?_
              refine va_get (D := D) (ci := 6) (v := .int (iI (lvL (offV now p (k : Int)) 30))) (C := RX7) (T := TX7) (N := 16) hx hb ht inTB_X7 hown hK hP 0 rfl rfl 14 (by decide) (ht _ tb_602) (fun _ h9 => h9) rfl dX7_best_114 ?_
              refine lv_iload hx hb dX7_best_117 (lv_at hl 6 rfl) ?_
              refine rv_icmp_eq (tgt := 139) hx hb dX7_best_119 (by decide) (by omega) (fun h119 => ?_) (fun h119 => ?_)
              · refine lv_aload_n hx hb dX7_best_139 rfl (lv_at hl 1 rfl) ?_
                refine va_get (D := D) (ci := 6) (v := .int (iI ((fC (offV now p (k : Int))).1.1))) (C := RX7) (T := TX7) (N := 16) hx hb ht inTB_X7 hown hK hP 0 rfl rfl 12 (by decide) (ht _ tb_600) (fun _ h9 => h9) rfl dX7_best_140 ?_
                refine lv_iload hx hb dX7_best_143 (lv_at hl 7 rfl) ?_
                refine rv_icmp_eq (tgt := 165) hx hb dX7_best_145 (by decide) (by omega) (fun h145 => ?_) (fun h145 => ?_)
                · refine lv_iload hx hb dX7_best_165 (lv_at hl 0 rfl) ?_
                  refine lv_iload hx hb dX7_best_167 (lv_at hl 8 rfl) ?_
                  refine rv_icmp_le (tgt := 176) hx hb dX7_best_169 (by decide) (by omega) (fun h169 => ?_) (fun h169 => ?_)
                  · refine rv_iconst hx hb dX7_best_176 ?_
                    have hbet : ¬ betP (offV now p (k : Int)) (bst now p k).2.1 (bst now p k).2.2.1 (bst now p k).2.2.2 := by unfold betP; omega
                    have hbe : bst now p (k + 1) = bst now p k := by rw [bst]; exact cF_neg hbet
                    refine lv_istore (lv' := [(10, .int (iI 0)), (9, .int (iI (leftS (offV now p (k : Int))))), (0, .ref (ad 0)), (1, .int (iI p)), (2, .int (iI what)), (3, .int (iI (pv now p 3))), (4, .int (iI ((bst now p k).1))), (5, .int (iI ((bst now p k).2.1))), (6, .int (iI ((bst now p k).2.2.1))), (7, .int (iI ((bst now p k).2.2.2))), (8, .int (iI (k : Int)))]) hx hb dX7_best_177 hl (by decide) rfl (fun ls hl => ?_)
                    refine lv_iload hx hb dX7_best_179 (lv_at hl 0 rfl) ?_
                    refine rv_if_eq (tgt := 189) hx hb dX7_best_181 (by decide) (by decide) (fun _ => ?_) (fun q => absurd q (by decide))
                    refine lv_iload hx hb dX7_best_189 (lv_at hl 6 rfl) ?_
                    refine lv_istore (lv' := [(4, .int (iI ((bst now p k).1))), (10, .int (iI 0)), (9, .int (iI (leftS (offV now p (k : Int))))), (0, .ref (ad 0)), (1, .int (iI p)), (2, .int (iI what)), (3, .int (iI (pv now p 3))), (5, .int (iI ((bst now p k).2.1))), (6, .int (iI ((bst now p k).2.2.1))), (7, .int (iI ((bst now p k).2.2.2))), (8, .int (iI (k : Int)))]) hx hb dX7_best_191 hl (by decide) rfl (fun ls hl => ?_)
                    refine lv_iload hx hb dX7_best_193 (lv_at hl 1 rfl) ?_
                    refine rv_if_eq (tgt := 205) hx hb dX7_best_195 (by decide) (by decide) (fun _ => ?_) (fun q => absurd q (by decide))
                    refine lv_iload hx hb dX7_best_205 (lv_at hl 7 rfl) ?_
                    refine lv_istore (lv' := [(5, .int (iI ((bst now p k).2.1))), (4, .int (iI ((bst now p k).1))), (10, .int (iI 0)), (9, .int (iI (leftS (offV now p (k : Int))))), (0, .ref (ad 0)), (1, .int (iI p)), (2, .int (iI what)), (3, .int (iI (pv now p 3))), (6, .int (iI ((bst now p k).2.2.1))), (7, .int (iI ((bst now p k).2.2.2))), (8, .int (iI (k : Int)))]) hx hb dX7_best_207 hl (by decide) rfl (fun ls hl => ?_)
                    refine lv_iload hx hb dX7_best_209 (lv_at hl 2 rfl) ?_
                    refine rv_if_eq (tgt := 221) hx hb dX7_best_211 (by decide) (by decide) (fun _ => ?_) (fun q => absurd q (by decide))
                    refine lv_iload hx hb dX7_best_221 (lv_at hl 8 rfl) ?_
                    refine lv_istore (lv' := [(6, .int (iI ((bst now p k).2.2.1))), (5, .int (iI ((bst now p k).2.1))), (4, .int (iI ((bst now p k).1))), (10, .int (iI 0)), (9, .int (iI (leftS (offV now p (k : Int))))), (0, .ref (ad 0)), (1, .int (iI p)), (2, .int (iI what)), (3, .int (iI (pv now p 3))), (7, .int (iI ((bst now p k).2.2.2))), (8, .int (iI (k : Int)))]) hx hb dX7_best_223 hl (by decide) rfl (fun ls hl => ?_)
                    refine lv_iload hx hb dX7_best_225 (lv_at hl 3 rfl) ?_
                    refine rv_if_eq (tgt := 235) hx hb dX7_best_227 (by decide) (by decide) (fun _ => ?_) (fun q => absurd q (by decide))
                    refine lv_iload hx hb dX7_best_235 (lv_at hl 9 rfl) ?_
                    refine lv_istore (lv' := [(7, .int (iI ((bst now p k).2.2.2))), (6, .int (iI ((bst now p k).2.2.1))), (5, .int (iI ((bst now p k).2.1))), (4, .int (iI ((bst now p k).1))), (10, .int (iI 0)), (9, .int (iI (leftS (offV now p (k : Int))))), (0, .ref (ad 0)), (1, .int (iI p)), (2, .int (iI what)), (3, .int (iI (pv now p 3))), (8, .int (iI (k : Int)))]) hx hb dX7_best_237 hl (by decide) rfl (fun ls hl => ?_)
                    refine rv_iinc (k := 10) (lv' := [(8, .int (iI ((k : Int) + 1))), (7, .int (iI ((bst now p k).2.2.2))), (6, .int (iI ((bst now p k).2.2.1))), (5, .int (iI ((bst now p k).2.1))), (4, .int (iI ((bst now p k).1))), (10, .int (iI 0)), (9, .int (iI (leftS (offV now p (k : Int))))), (0, .ref (ad 0)), (1, .int (iI p)), (2, .int (iI what)), (3, .int (iI (pv now p 3)))]) hx hb dX7_best_239 hl rfl (by decide) rfl (fun ls hl => ?_)
                    refine lv_goto (tgt := 50) hx hb dX7_best_242 (by decide) ?_
                    exact ih50 (k + 1) (offV now p (k : Int)) us2_78 bl2_78 lg2_78 bd2_78 dp2_78 ((fC (offV now p (k : Int))).1.1) ((fC (offV now p (k : Int))).1.2.1) (lvL (offV now p (k : Int)) 30) ((fC (offV now p (k : Int))).1.2.2) (by omega) (fun j hj => offV_ne hj) (by omega) _ _ _ _ _ (by rw [hbe]) (by rw [hbe]) (by rw [hbe]) (by rw [hbe]) (by omega) H locs hP hD hS ls (lv_sub hl [7, 8, 9, 10, 4, 3, 2, 1, 0] rfl)
                  · refine rv_iconst hx hb dX7_best_172 ?_
                    refine lv_goto (tgt := 177) hx hb dX7_best_173 (by decide) ?_
                    have hbet : betP (offV now p (k : Int)) (bst now p k).2.1 (bst now p k).2.2.1 (bst now p k).2.2.2 := by unfold betP; omega
                    have hbe : bst now p (k + 1) = ((k : Int), lvL (offV now p (k : Int)) 30, (fC (offV now p (k : Int))).1.1, leftS (offV now p (k : Int))) := by rw [bst]; exact cF_pos hbet
                    refine lv_istore (lv' := [(10, .int (iI 1)), (9, .int (iI (leftS (offV now p (k : Int))))), (0, .ref (ad 0)), (1, .int (iI p)), (2, .int (iI what)), (3, .int (iI (pv now p 3))), (4, .int (iI ((bst now p k).1))), (5, .int (iI ((bst now p k).2.1))), (6, .int (iI ((bst now p k).2.2.1))), (7, .int (iI ((bst now p k).2.2.2))), (8, .int (iI (k : Int)))]) hx hb dX7_best_177 hl (by decide) rfl (fun ls hl => ?_)
                    refine lv_iload hx hb dX7_best_179 (lv_at hl 0 rfl) ?_
                    refine rv_if_eq (tgt := 189) hx hb dX7_best_181 (by decide) (by decide) (fun q => absurd q (by decide)) (fun _ => ?_)
                    refine lv_iload hx hb dX7_best_184 (lv_at hl 10 rfl) ?_
                    refine lv_goto (tgt := 191) hx hb dX7_best_186 (by decide) ?_
                    refine lv_istore (lv' := [(4, .int (iI (k : Int))), (10, .int (iI 1)), (9, .int (iI (leftS (offV now p (k : Int))))), (0, .ref (ad 0)), (1, .int (iI p)), (2, .int (iI what)), (3, .int (iI (pv now p 3))), (5, .int (iI ((bst now p k).2.1))), (6, .int (iI ((bst now p k).2.2.1))), (7, .int (iI ((bst now p k).2.2.2))), (8, .int (iI (k : Int)))]) hx hb dX7_best_191 hl (by decide) rfl (fun ls hl => ?_)
                    refine lv_iload hx hb dX7_best_193 (lv_at hl 1 rfl) ?_
                    refine rv_if_eq (tgt := 205) hx hb dX7_best_195 (by decide) (by decide) (fun q => absurd q (by decide)) (fun _ => ?_)
                    refine lv_aload_n hx hb dX7_best_198 rfl (lv_at hl 3 rfl) ?_
                    refine va_get (D := D) (ci := 6) (v := .int (iI (lvL (offV now p (k : Int)) 30))) (C := RX7) (T := TX7) (N := 16) hx hb ht inTB_X7 hown hK hP 0 rfl rfl 14 (by decide) (ht _ tb_602) (fun _ h9 => h9) rfl dX7_best_199 ?_
                    refine lv_goto (tgt := 207) hx hb dX7_best_202 (by decide) ?_
                    refine lv_istore (lv' := [(5, .int (iI (lvL (offV now p (k : Int)) 30))), (4, .int (iI (k : Int))), (10, .int (iI 1)), (9, .int (iI (leftS (offV now p (k : Int))))), (0, .ref (ad 0)), (1, .int (iI p)), (2, .int (iI what)), (3, .int (iI (pv now p 3))), (6, .int (iI ((bst now p k).2.2.1))), (7, .int (iI ((bst now p k).2.2.2))), (8, .int (iI (k : Int)))]) hx hb dX7_best_207 hl (by decide) rfl (fun ls hl => ?_)
                    refine lv_iload hx hb dX7_best_209 (lv_at hl 2 rfl) ?_
                    refine rv_if_eq (tgt := 221) hx hb dX7_best_211 (by decide) (by decide) (fun q => absurd q (by decide)) (fun _ => ?_)
                    refine lv_aload_n hx hb dX7_best_214 rfl (lv_at hl 4 rfl) ?_
                    refine va_get (D := D) (ci := 6) (v := .int (iI ((fC (offV now p (k : Int))).1.1))) (C := RX7) (T := TX7) (N := 16) hx hb ht inTB_X7 hown hK hP 0 rfl rfl 12 (by decide) (ht _ tb_600) (fun _ h9 => h9) rfl dX7_best_215 ?_
                    refine lv_goto (tgt := 223) hx hb dX7_best_218 (by decide) ?_
                    refine lv_istore (lv' := [(6, .int (iI ((fC (offV now p (k : Int))).1.1))), (5, .int (iI (lvL (offV now p (k : Int)) 30))), (4, .int (iI (k : Int))), (10, .int (iI 1)), (9, .int (iI (leftS (offV now p (k : Int))))), (0, .ref (ad 0)), (1, .int (iI p)), (2, .int (iI what)), (3, .int (iI (pv now p 3))), (7, .int (iI ((bst now p k).2.2.2))), (8, .int (iI (k : Int)))]) hx hb dX7_best_223 hl (by decide) rfl (fun ls hl => ?_)
                    refine lv_iload hx hb dX7_best_225 (lv_at hl 3 rfl) ?_
                    refine rv_if_eq (tgt := 235) hx hb dX7_best_227 (by decide) (by decide) (fun q => absurd q (by decide)) (fun _ => ?_)
                    refine lv_iload hx hb dX7_best_230 (lv_at hl 4 rfl) ?_
                    refine lv_goto (tgt := 237) hx hb dX7_best_232 (by decide) ?_
                    refine lv_istore (lv' := [(7, .int (iI (leftS (offV now p (k : Int))))), (6, .int (iI ((fC (offV now p (k : Int))).1.1))), (5, .int (iI (lvL (offV now p (k : Int)) 30))), (4, .int (iI (k : Int))), (10, .int (iI 1)), (9, .int (iI (leftS (offV now p (k : Int))))), (0, .ref (ad 0)), (1, .int (iI p)), (2, .int (iI what)), (3, .int (iI (pv now p 3))), (8, .int (iI (k : Int)))]) hx hb dX7_best_237 hl (by decide) rfl (fun ls hl => ?_)
                    refine rv_iinc (k := 10) (lv' := [(8, .int (iI ((k : Int) + 1))), (7, .int (iI (leftS (offV now p (k : Int))))), (6, .int (iI ((fC (offV now p (k : Int))).1.1))), (5, .int (iI (lvL (offV now p (k : Int)) 30))), (4, .int (iI (k : Int))), (10, .int (iI 1)), (9, .int (iI (leftS (offV now p (k : Int))))), (0, .ref (ad 0)), (1, .int (iI p)), (2, .int (iI what)), (3, .int (iI (pv now p 3)))]) hx hb dX7_best_239 hl rfl (by decide) rfl (fun ls hl => ?_)
                    refine lv_goto (tgt := 50) hx hb dX7_best_242 (by decide) ?_
                    exact ih50 (k + 1) (offV now p (k : Int)) us2_78 bl2_78 lg2_78 bd2_78 dp2_78 ((fC (offV now p (k : Int))).1.1) ((fC (offV now p (k : Int))).1.2.1) (lvL (offV now p (k : Int)) 30) ((fC (offV now p (k : Int))).1.2.2) (by omega) (fun j hj => offV_ne hj) (by omega) _ _ _ _ _ (by rw [hbe]) (by rw [hbe]) (by rw [hbe]) (by rw [hbe]) (by omega) H locs hP hD hS ls (lv_sub hl [7, 8, 9, 10, 4, 3, 2, 1, 0] rfl)
                · refine lv_aload_n hx hb dX7_best_148 rfl (lv_at hl 1 rfl) ?_
                  refine va_get (D := D) (ci := 6) (v := .int (iI ((fC (offV now p (k : Int))).1.1))) (C := RX7) (T := TX7) (N := 16) hx hb ht inTB_X7 hown hK hP 0 rfl rfl 12 (by decide) (ht _ tb_600) (fun _ h9 => h9) rfl dX7_best_149 ?_
                  refine lv_iload hx hb dX7_best_152 (lv_at hl 7 rfl) ?_
                  refine rv_icmp_ge (tgt := 161) hx hb dX7_best_154 (by decide) (by omega) (fun h154 => ?_) (fun h154 => ?_)
                  · refine rv_iconst hx hb dX7_best_161 ?_
                    refine lv_goto (tgt := 177) hx hb dX7_best_162 (by decide) ?_
                    have hbet : ¬ betP (offV now p (k : Int)) (bst now p k).2.1 (bst now p k).2.2.1 (bst now p k).2.2.2 := by unfold betP; omega
                    have hbe : bst now p (k + 1) = bst now p k := by rw [bst]; exact cF_neg hbet
                    refine lv_istore (lv' := [(10, .int (iI 0)), (9, .int (iI (leftS (offV now p (k : Int))))), (0, .ref (ad 0)), (1, .int (iI p)), (2, .int (iI what)), (3, .int (iI (pv now p 3))), (4, .int (iI ((bst now p k).1))), (5, .int (iI ((bst now p k).2.1))), (6, .int (iI ((bst now p k).2.2.1))), (7, .int (iI ((bst now p k).2.2.2))), (8, .int (iI (k : Int)))]) hx hb dX7_best_177 hl (by decide) rfl (fun ls hl => ?_)
                    refine lv_iload hx hb dX7_best_179 (lv_at hl 0 rfl) ?_
                    refine rv_if_eq (tgt := 189) hx hb dX7_best_181 (by decide) (by decide) (fun _ => ?_) (fun q => absurd q (by decide))
                    refine lv_iload hx hb dX7_best_189 (lv_at hl 6 rfl) ?_
                    refine lv_istore (lv' := [(4, .int (iI ((bst now p k).1))), (10, .int (iI 0)), (9, .int (iI (leftS (offV now p (k : Int))))), (0, .ref (ad 0)), (1, .int (iI p)), (2, .int (iI what)), (3, .int (iI (pv now p 3))), (5, .int (iI ((bst now p k).2.1))), (6, .int (iI ((bst now p k).2.2.1))), (7, .int (iI ((bst now p k).2.2.2))), (8, .int (iI (k : Int)))]) hx hb dX7_best_191 hl (by decide) rfl (fun ls hl => ?_)
                    refine lv_iload hx hb dX7_best_193 (lv_at hl 1 rfl) ?_
                    refine rv_if_eq (tgt := 205) hx hb dX7_best_195 (by decide) (by decide) (fun _ => ?_) (fun q => absurd q (by decide))
                    refine lv_iload hx hb dX7_best_205 (lv_at hl 7 rfl) ?_
                    refine lv_istore (lv' := [(5, .int (iI ((bst now p k).2.1))), (4, .int (iI ((bst now p k).1))), (10, .int (iI 0)), (9, .int (iI (leftS (offV now p (k : Int))))), (0, .ref (ad 0)), (1, .int (iI p)), (2, .int (iI what)), (3, .int (iI (pv now p 3))), (6, .int (iI ((bst now p k).2.2.1))), (7, .int (iI ((bst now p k).2.2.2))), (8, .int (iI (k : Int)))]) hx hb dX7_best_207 hl (by decide) rfl (fun ls hl => ?_)
                    refine lv_iload hx hb dX7_best_209 (lv_at hl 2 rfl) ?_
                    refine rv_if_eq (tgt := 221) hx hb dX7_best_211 (by decide) (by decide) (fun _ => ?_) (fun q => absurd q (by decide))
                    refine lv_iload hx hb dX7_best_221 (lv_at hl 8 rfl) ?_
                    refine lv_istore (lv' := [(6, .int (iI ((bst now p k).2.2.1))), (5, .int (iI ((bst now p k).2.1))), (4, .int (iI ((bst now p k).1))), (10, .int (iI 0)), (9, .int (iI (leftS (offV now p (k : Int))))), (0, .ref (ad 0)), (1, .int (iI p)), (2, .int (iI what)), (3, .int (iI (pv now p 3))), (7, .int (iI ((bst now p k).2.2.2))), (8, .int (iI (k : Int)))]) hx hb dX7_best_223 hl (by decide) rfl (fun ls hl => ?_)
                    refine lv_iload hx hb dX7_best_225 (lv_at hl 3 rfl) ?_
                    refine rv_if_eq (tgt := 235) hx hb dX7_best_227 (by decide) (by decide) (fun _ => ?_) (fun q => absurd q (by decide))
                    refine lv_iload hx hb dX7_best_235 (lv_at hl 9 rfl) ?_
                    refine lv_istore (lv' := [(7, .int (iI ((bst now p k).2.2.2))), (6, .int (iI ((bst now p k).2.2.1))), (5, .int (iI ((bst now p k).2.1))), (4, .int (iI ((bst now p k).1))), (10, .int (iI 0)), (9, .int (iI (leftS (offV now p (k : Int))))), (0, .ref (ad 0)), (1, .int (iI p)), (2, .int (iI what)), (3, .int (iI (pv now p 3))), (8, .int (iI (k : Int)))]) hx hb dX7_best_237 hl (by decide) rfl (fun ls hl => ?_)
                    refine rv_iinc (k := 10) (lv' := [(8, .int (iI ((k : Int) + 1))), (7, .int (iI ((bst now p k).2.2.2))), (6, .int (iI ((bst now p k).2.2.1))), (5, .int (iI ((bst now p k).2.1))), (4, .int (iI ((bst now p k).1))), (10, .int (iI 0)), (9, .int (iI (leftS (offV now p (k : Int))))), (0, .ref (ad 0)), (1, .int (iI p)), (2, .int (iI what)), (3, .int (iI (pv now p 3)))]) hx hb dX7_best_239 hl rfl (by decide) rfl (fun ls hl => ?_)
                    refine lv_goto (tgt := 50) hx hb dX7_best_242 (by decide) ?_
                    exact ih50 (k + 1) (offV now p (k : Int)) us2_78 bl2_78 lg2_78 bd2_78 dp2_78 ((fC (offV now p (k : Int))).1.1) ((fC (offV now p (k : Int))).1.2.1) (lvL (offV now p (k : Int)) 30) ((fC (offV now p (k : Int))).1.2.2) (by omega) (fun j hj => offV_ne hj) (by omega) _ _ _ _ _ (by rw [hbe]) (by rw [hbe]) (by rw [hbe]) (by rw [hbe]) (by omega) H locs hP hD hS ls (lv_sub hl [7, 8, 9, 10, 4, 3, 2, 1, 0] rfl)
                  · refine rv_iconst hx hb dX7_best_157 ?_
                    refine lv_goto (tgt := 177) hx hb dX7_best_158 (by decide) ?_
                    have hbet : betP (offV now p (k : Int)) (bst now p k).2.1 (bst now p k).2.2.1 (bst now p k).2.2.2 := by unfold betP; omega
                    have hbe : bst now p (k + 1) = ((k : Int), lvL (offV now p (k : Int)) 30, (fC (offV now p (k : Int))).1.1, leftS (offV now p (k : Int))) := by rw [bst]; exact cF_pos hbet
                    refine lv_istore (lv' := [(10, .int (iI 1)), (9, .int (iI (leftS (offV now p (k : Int))))), (0, .ref (ad 0)), (1, .int (iI p)), (2, .int (iI what)), (3, .int (iI (pv now p 3))), (4, .int (iI ((bst now p k).1))), (5, .int (iI ((bst now p k).2.1))), (6, .int (iI ((bst now p k).2.2.1))), (7, .int (iI ((bst now p k).2.2.2))), (8, .int (iI (k : Int)))]) hx hb dX7_best_177 hl (by decide) rfl (fun ls hl => ?_)
                    refine lv_iload hx hb dX7_best_179 (lv_at hl 0 rfl) ?_
                    refine rv_if_eq (tgt := 189) hx hb dX7_best_181 (by decide) (by decide) (fun q => absurd q (by decide)) (fun _ => ?_)
                    refine lv_iload hx hb dX7_best_184 (lv_at hl 10 rfl) ?_
                    refine lv_goto (tgt := 191) hx hb dX7_best_186 (by decide) ?_
                    refine lv_istore (lv' := [(4, .int (iI (k : Int))), (10, .int (iI 1)), (9, .int (iI (leftS (offV now p (k : Int))))), (0, .ref (ad 0)), (1, .int (iI p)), (2, .int (iI what)), (3, .int (iI (pv now p 3))), (5, .int (iI ((bst now p k).2.1))), (6, .int (iI ((bst now p k).2.2.1))), (7, .int (iI ((bst now p k).2.2.2))), (8, .int (iI (k : Int)))]) hx hb dX7_best_191 hl (by decide) rfl (fun ls hl => ?_)
                    refine lv_iload hx hb dX7_best_193 (lv_at hl 1 rfl) ?_
                    refine rv_if_eq (tgt := 205) hx hb dX7_best_195 (by decide) (by decide) (fun q => absurd q (by decide)) (fun _ => ?_)
                    refine lv_aload_n hx hb dX7_best_198 rfl (lv_at hl 3 rfl) ?_
                    refine va_get (D := D) (ci := 6) (v := .int (iI (lvL (offV now p (k : Int)) 30))) (C := RX7) (T := TX7) (N := 16) hx hb ht inTB_X7 hown hK hP 0 rfl rfl 14 (by decide) (ht _ tb_602) (fun _ h9 => h9) rfl dX7_best_199 ?_
                    refine lv_goto (tgt := 207) hx hb dX7_best_202 (by decide) ?_
                    refine lv_istore (lv' := [(5, .int (iI (lvL (offV now p (k : Int)) 30))), (4, .int (iI (k : Int))), (10, .int (iI 1)), (9, .int (iI (leftS (offV now p (k : Int))))), (0, .ref (ad 0)), (1, .int (iI p)), (2, .int (iI what)), (3, .int (iI (pv now p 3))), (6, .int (iI ((bst now p k).2.2.1))), (7, .int (iI ((bst now p k).2.2.2))), (8, .int (iI (k : Int)))]) hx hb dX7_best_207 hl (by decide) rfl (fun ls hl => ?_)
                    refine lv_iload hx hb dX7_best_209 (lv_at hl 2 rfl) ?_
                    refine rv_if_eq (tgt := 221) hx hb dX7_best_211 (by decide) (by decide) (fun q => absurd q (by decide)) (fun _ => ?_)
                    refine lv_aload_n hx hb dX7_best_214 rfl (lv_at hl 4 rfl) ?_
                    refine va_get (D := D) (ci := 6) (v := .int (iI ((fC (offV now p (k : Int))).1.1))) (C := RX7) (T := TX7) (N := 16) hx hb ht inTB_X7 hown hK hP 0 rfl rfl 12 (by decide) (ht _ tb_600) (fun _ h9 => h9) rfl dX7_best_215 ?_
                    refine lv_goto (tgt := 223) hx hb dX7_best_218 (by decide) ?_
                    refine lv_istore (lv' := [(6, .int (iI ((fC (offV now p (k : Int))).1.1))), (5, .int (iI (lvL (offV now p (k : Int)) 30))), (4, .int (iI (k : Int))), (10, .int (iI 1)), (9, .int (iI (leftS (offV now p (k : Int))))), (0, .ref (ad 0)), (1, .int (iI p)), (2, .int (iI what)), (3, .int (iI (pv now p 3))), (7, .int (iI ((bst now p k).2.2.2))), (8, .int (iI (k : Int)))]) hx hb dX7_best_223 hl (by decide) rfl (fun ls hl => ?_)
                    refine lv_iload hx hb dX7_best_225 (lv_at hl 3 rfl) ?_
                    refine rv_if_eq (tgt := 235) hx hb dX7_best_227 (by decide) (by decide) (fun q => absurd q (by decide)) (fun _ => ?_)
                    refine lv_iload hx hb dX7_best_230 (lv_at hl 4 rfl) ?_
                    refine lv_goto (tgt := 237) hx hb dX7_best_232 (by decide) ?_
                    refine lv_istore (lv' := [(7, .int (iI (leftS (offV now p (k : Int))))), (6, .int (iI ((fC (offV now p (k : Int))).1.1))), (5, .int (iI (lvL (offV now p (k : Int)) 30))), (4, .int (iI (k : Int))), (10, .int (iI 1)), (9, .int (iI (leftS (offV now p (k : Int))))), (0, .ref (ad 0)), (1, .int (iI p)), (2, .int (iI what)), (3, .int (iI (pv now p 3))), (8, .int (iI (k : Int)))]) hx hb dX7_best_237 hl (by decide) rfl (fun ls hl => ?_)
                    refine rv_iinc (k := 10) (lv' := [(8, .int (iI ((k : Int) + 1))), (7, .int (iI (leftS (offV now p (k : Int))))), (6, .int (iI ((fC (offV now p (k : Int))).1.1))), (5, .int (iI (lvL (offV now p (k : Int)) 30))), (4, .int (iI (k : Int))), (10, .int (iI 1)), (9, .int (iI (leftS (offV now p (k : Int))))), (0, .ref (ad 0)), (1, .int (iI p)), (2, .int (iI what)), (3, .int (iI (pv now p 3)))]) hx hb dX7_best_239 hl rfl (by decide) rfl (fun ls hl => ?_)
                    refine lv_goto (tgt := 50) hx hb dX7_best_242 (by decide) ?_
                    exact ih50 (k + 1) (offV now p (k : Int)) us2_78 bl2_78 lg2_78 bd2_78 dp2_78 ((fC (offV now p (k : Int))).1.1) ((fC (offV now p (k : Int))).1.2.1) (lvL (offV now p (k : Int)) 30) ((fC (offV now p (k : Int))).1.2.2) (by omega) (fun j hj => offV_ne hj) (by omega) _ _ _ _ _ (by rw [hbe]) (by rw [hbe]) (by rw [hbe]) (by rw [hbe]) (by omega) H locs hP hD hS ls (lv_sub hl [7, 8, 9, 10, 4, 3, 2, 1, 0] rfl)
              · refine lv_aload_n hx hb dX7_best_122 rfl (lv_at hl 1 rfl) ?_
                refine va_get (D := D) (ci := 6) (v := .int (iI (lvL (offV now p (k : Int)) 30))) (C := RX7) (T := TX7) (N := 16) hx hb ht inTB_X7 hown hK hP 0 rfl rfl 14 (by decide) (ht _ tb_602) (fun _ h9 => h9) rfl dX7_best_123 ?_
                refine lv_iload hx hb dX7_best_126 (lv_at hl 6 rfl) ?_
                refine rv_icmp_ge (tgt := 135) hx hb dX7_best_128 (by decide) (by omega) (fun h128 => ?_) (fun h128 => ?_)
                · refine rv_iconst hx hb dX7_best_135 ?_
                  refine lv_goto (tgt := 177) hx hb dX7_best_136 (by decide) ?_
                  have hbet : ¬ betP (offV now p (k : Int)) (bst now p k).2.1 (bst now p k).2.2.1 (bst now p k).2.2.2 := by unfold betP; omega
                  have hbe : bst now p (k + 1) = bst now p k := by rw [bst]; exact cF_neg hbet
                  refine lv_istore (lv' := [(10, .int (iI 0)), (9, .int (iI (leftS (offV now p (k : Int))))), (0, .ref (ad 0)), (1, .int (iI p)), (2, .int (iI what)), (3, .int (iI (pv now p 3))), (4, .int (iI ((bst now p k).1))), (5, .int (iI ((bst now p k).2.1))), (6, .int (iI ((bst now p k).2.2.1))), (7, .int (iI ((bst now p k).2.2.2))), (8, .int (iI (k : Int)))]) hx hb dX7_best_177 hl (by decide) rfl (fun ls hl => ?_)
                  refine lv_iload hx hb dX7_best_179 (lv_at hl 0 rfl) ?_
                  refine rv_if_eq (tgt := 189) hx hb dX7_best_181 (by decide) (by decide) (fun _ => ?_) (fun q => absurd q (by decide))
                  refine lv_iload hx hb dX7_best_189 (lv_at hl 6 rfl) ?_
                  refine lv_istore (lv' := [(4, .int (iI ((bst now p k).1))), (10, .int (iI 0)), (9, .int (iI (leftS (offV now p (k : Int))))), (0, .ref (ad 0)), (1, .int (iI p)), (2, .int (iI what)), (3, .int (iI (pv now p 3))), (5, .int (iI ((bst now p k).2.1))), (6, .int (iI ((bst now p k).2.2.1))), (7, .int (iI ((bst now p k).2.2.2))), (8, .int (iI (k : Int)))]) hx hb dX7_best_191 hl (by decide) rfl (fun ls hl => ?_)
                  refine lv_iload hx hb dX7_best_193 (lv_at hl 1 rfl) ?_
                  refine rv_if_eq (tgt := 205) hx hb dX7_best_195 (by decide) (by decide) (fun _ => ?_) (fun q => absurd q (by decide))
                  refine lv_iload hx hb dX7_best_205 (lv_at hl 7 rfl) ?_
                  refine lv_istore (lv' := [(5, .int (iI ((bst now p k).2.1))), (4, .int (iI ((bst now p k).1))), (10, .int (iI 0)), (9, .int (iI (leftS (offV now p (k : Int))))), (0, .ref (ad 0)), (1, .int (iI p)), (2, .int (iI what)), (3, .int (iI (pv now p 3))), (6, .int (iI ((bst now p k).2.2.1))), (7, .int (iI ((bst now p k).2.2.2))), (8, .int (iI (k : Int)))]) hx hb dX7_best_207 hl (by decide) rfl (fun ls hl => ?_)
                  refine lv_iload hx hb dX7_best_209 (lv_at hl 2 rfl) ?_
                  refine rv_if_eq (tgt := 221) hx hb dX7_best_211 (by decide) (by decide) (fun _ => ?_) (fun q => absurd q (by decide))
                  refine lv_iload hx hb dX7_best_221 (lv_at hl 8 rfl) ?_
                  refine lv_istore (lv' := [(6, .int (iI ((bst now p k).2.2.1))), (5, .int (iI ((bst now p k).2.1))), (4, .int (iI ((bst now p k).1))), (10, .int (iI 0)), (9, .int (iI (leftS (offV now p (k : Int))))), (0, .ref (ad 0)), (1, .int (iI p)), (2, .int (iI what)), (3, .int (iI (pv now p 3))), (7, .int (iI ((bst now p k).2.2.2))), (8, .int (iI (k : Int)))]) hx hb dX7_best_223 hl (by decide) rfl (fun ls hl => ?_)
                  refine lv_iload hx hb dX7_best_225 (lv_at hl 3 rfl) ?_
                  refine rv_if_eq (tgt := 235) hx hb dX7_best_227 (by decide) (by decide) (fun _ => ?_) (fun q => absurd q (by decide))
                  refine lv_iload hx hb dX7_best_235 (lv_at hl 9 rfl) ?_
                  refine lv_istore (lv' := [(7, .int (iI ((bst now p k).2.2.2))), (6, .int (iI ((bst now p k).2.2.1))), (5, .int (iI ((bst now p k).2.1))), (4, .int (iI ((bst now p k).1))), (10, .int (iI 0)), (9, .int (iI (leftS (offV now p (k : Int))))), (0, .ref (ad 0)), (1, .int (iI p)), (2, .int (iI what)), (3, .int (iI (pv now p 3))), (8, .int (iI (k : Int)))]) hx hb dX7_best_237 hl (by decide) rfl (fun ls hl => ?_)
                  refine rv_iinc (k := 10) (lv' := [(8, .int (iI ((k : Int) + 1))), (7, .int (iI ((bst now p k).2.2.2))), (6, .int (iI ((bst now p k).2.2.1))), (5, .int (iI ((bst now p k).2.1))), (4, .int (iI ((bst now p k).1))), (10, .int (iI 0)), (9, .int (iI (leftS (offV now p (k : Int))))), (0, .ref (ad 0)), (1, .int (iI p)), (2, .int (iI what)), (3, .int (iI (pv now p 3)))]) hx hb dX7_best_239 hl rfl (by decide) rfl (fun ls hl => ?_)
                  refine lv_goto (tgt := 50) hx hb dX7_best_242 (by decide) ?_
                  exact ih50 (k + 1) (offV now p (k : Int)) us2_78 bl2_78 lg2_78 bd2_78 dp2_78 ((fC (offV now p (k : Int))).1.1) ((fC (offV now p (k : Int))).1.2.1) (lvL (offV now p (k : Int)) 30) ((fC (offV now p (k : Int))).1.2.2) (by omega) (fun j hj => offV_ne hj) (by omega) _ _ _ _ _ (by rw [hbe]) (by rw [hbe]) (by rw [hbe]) (by rw [hbe]) (by omega) H locs hP hD hS ls (lv_sub hl [7, 8, 9, 10, 4, 3, 2, 1, 0] rfl)
                · refine rv_iconst hx hb dX7_best_131 ?_
                  refine lv_goto (tgt := 177) hx hb dX7_best_132 (by decide) ?_
                  have hbet : betP (offV now p (k : Int)) (bst now p k).2.1 (bst now p k).2.2.1 (bst now p k).2.2.2 := by unfold betP; omega
                  have hbe : bst now p (k + 1) = ((k : Int), lvL (offV now p (k : Int)) 30, (fC (offV now p (k : Int))).1.1, leftS (offV now p (k : Int))) := by rw [bst]; exact cF_pos hbet
                  refine lv_istore (lv' := [(10, .int (iI 1)), (9, .int (iI (leftS (offV now p (k : Int))))), (0, .ref (ad 0)), (1, .int (iI p)), (2, .int (iI what)), (3, .int (iI (pv now p 3))), (4, .int (iI ((bst now p k).1))), (5, .int (iI ((bst now p k).2.1))), (6, .int (iI ((bst now p k).2.2.1))), (7, .int (iI ((bst now p k).2.2.2))), (8, .int (iI (k : Int)))]) hx hb dX7_best_177 hl (by decide) rfl (fun ls hl => ?_)
                  refine lv_iload hx hb dX7_best_179 (lv_at hl 0 rfl) ?_
                  refine rv_if_eq (tgt := 189) hx hb dX7_best_181 (by decide) (by decide) (fun q => absurd q (by decide)) (fun _ => ?_)
                  refine lv_iload hx hb dX7_best_184 (lv_at hl 10 rfl) ?_
                  refine lv_goto (tgt := 191) hx hb dX7_best_186 (by decide) ?_
                  refine lv_istore (lv' := [(4, .int (iI (k : Int))), (10, .int (iI 1)), (9, .int (iI (leftS (offV now p (k : Int))))), (0, .ref (ad 0)), (1, .int (iI p)), (2, .int (iI what)), (3, .int (iI (pv now p 3))), (5, .int (iI ((bst now p k).2.1))), (6, .int (iI ((bst now p k).2.2.1))), (7, .int (iI ((bst now p k).2.2.2))), (8, .int (iI (k : Int)))]) hx hb dX7_best_191 hl (by decide) rfl (fun ls hl => ?_)
                  refine lv_iload hx hb dX7_best_193 (lv_at hl 1 rfl) ?_
                  refine rv_if_eq (tgt := 205) hx hb dX7_best_195 (by decide) (by decide) (fun q => absurd q (by decide)) (fun _ => ?_)
                  refine lv_aload_n hx hb dX7_best_198 rfl (lv_at hl 3 rfl) ?_
                  refine va_get (D := D) (ci := 6) (v := .int (iI (lvL (offV now p (k : Int)) 30))) (C := RX7) (T := TX7) (N := 16) hx hb ht inTB_X7 hown hK hP 0 rfl rfl 14 (by decide) (ht _ tb_602) (fun _ h9 => h9) rfl dX7_best_199 ?_
                  refine lv_goto (tgt := 207) hx hb dX7_best_202 (by decide) ?_
                  refine lv_istore (lv' := [(5, .int (iI (lvL (offV now p (k : Int)) 30))), (4, .int (iI (k : Int))), (10, .int (iI 1)), (9, .int (iI (leftS (offV now p (k : Int))))), (0, .ref (ad 0)), (1, .int (iI p)), (2, .int (iI what)), (3, .int (iI (pv now p 3))), (6, .int (iI ((bst now p k).2.2.1))), (7, .int (iI ((bst now p k).2.2.2))), (8, .int (iI (k : Int)))]) hx hb dX7_best_207 hl (by decide) rfl (fun ls hl => ?_)
                  refine lv_iload hx hb dX7_best_209 (lv_at hl 2 rfl) ?_
                  refine rv_if_eq (tgt := 221) hx hb dX7_best_211 (by decide) (by decide) (fun q => absurd q (by decide)) (fun _ => ?_)
                  refine lv_aload_n hx hb dX7_best_214 rfl (lv_at hl 4 rfl) ?_
                  refine va_get (D := D) (ci := 6) (v := .int (iI ((fC (offV now p (k : Int))).1.1))) (C := RX7) (T := TX7) (N := 16) hx hb ht inTB_X7 hown hK hP 0 rfl rfl 12 (by decide) (ht _ tb_600) (fun _ h9 => h9) rfl dX7_best_215 ?_
                  refine lv_goto (tgt := 223) hx hb dX7_best_218 (by decide) ?_
                  refine lv_istore (lv' := [(6, .int (iI ((fC (offV now p (k : Int))).1.1))), (5, .int (iI (lvL (offV now p (k : Int)) 30))), (4, .int (iI (k : Int))), (10, .int (iI 1)), (9, .int (iI (leftS (offV now p (k : Int))))), (0, .ref (ad 0)), (1, .int (iI p)), (2, .int (iI what)), (3, .int (iI (pv now p 3))), (7, .int (iI ((bst now p k).2.2.2))), (8, .int (iI (k : Int)))]) hx hb dX7_best_223 hl (by decide) rfl (fun ls hl => ?_)
                  refine lv_iload hx hb dX7_best_225 (lv_at hl 3 rfl) ?_
                  refine rv_if_eq (tgt := 235) hx hb dX7_best_227 (by decide) (by decide) (fun q => absurd q (by decide)) (fun _ => ?_)
                  refine lv_iload hx hb dX7_best_230 (lv_at hl 4 rfl) ?_
                  refine lv_goto (tgt := 237) hx hb dX7_best_232 (by decide) ?_
                  refine lv_istore (lv' := [(7, .int (iI (leftS (offV now p (k : Int))))), (6, .int (iI ((fC (offV now p (k : Int))).1.1))), (5, .int (iI (lvL (offV now p (k : Int)) 30))), (4, .int (iI (k : Int))), (10, .int (iI 1)), (9, .int (iI (leftS (offV now p (k : Int))))), (0, .ref (ad 0)), (1, .int (iI p)), (2, .int (iI what)), (3, .int (iI (pv now p 3))), (8, .int (iI (k : Int)))]) hx hb dX7_best_237 hl (by decide) rfl (fun ls hl => ?_)
                  refine rv_iinc (k := 10) (lv' := [(8, .int (iI ((k : Int) + 1))), (7, .int (iI (leftS (offV now p (k : Int))))), (6, .int (iI ((fC (offV now p (k : Int))).1.1))), (5, .int (iI (lvL (offV now p (k : Int)) 30))), (4, .int (iI (k : Int))), (10, .int (iI 1)), (9, .int (iI (leftS (offV now p (k : Int))))), (0, .ref (ad 0)), (1, .int (iI p)), (2, .int (iI what)), (3, .int (iI (pv now p 3)))]) hx hb dX7_best_239 hl rfl (by decide) rfl (fun ls hl => ?_)
                  refine lv_goto (tgt := 50) hx hb dX7_best_242 (by decide) ?_
                  exact ih50 (k + 1) (offV now p (k : Int)) us2_78 bl2_78 lg2_78 bd2_78 dp2_78 ((fC (offV now p (k : Int))).1.1) ((fC (offV now p (k : Int))).1.2.1) (lvL (offV now p (k : Int)) 30) ((fC (offV now p (k : Int))).1.2.2) (by omega) (fun j hj => offV_ne hj) (by omega) _ _ _ _ _ (by rw [hbe]) (by rw [hbe]) (by rw [hbe]) (by rw [hbe]) (by omega) H locs hP hD hS ls (lv_sub hl [7, 8, 9, 10, 4, 3, 2, 1, 0] rfl)
            · refine rv_iconst hx hb dX7_best_88 ?_
              refine lv_goto (tgt := 111) hx hb dX7_best_89 (by decide) ?_
              refine rv_top (y := (leftS (offV now p (k : Int)))) (by rw [leftS, cif_pos h85]) ?_
              refine lv_istore (lv' := [(9, .int (iI (leftS (offV now p (k : Int))))), (0, .ref (ad 0)), (1, .int (iI p)), (2, .int (iI what)), (3, .int (iI (pv now p 3))), (4, .int (iI ((bst now p k).1))), (5, .int (iI ((bst now p k).2.1))), (6, .int (iI ((bst now p k).2.2.1))), (7, .int (iI ((bst now p k).2.2.2))), (8, .int (iI (k : Int)))]) hx hb dX7_best_111 hl (by decide) rfl (fun ls hl => ?_)
              refine lv_aload_n hx hb dX7_best_113 rfl (lv_at hl 1 rfl) ?_
              refine va_get (D := D) (ci := 6) (v := .int (iI (lvL (offV now p (k : Int)) 30))) (C := RX7) (T := TX7) (N := 16) hx hb ht inTB_X7 hown hK hP 0 rfl rfl 14 (by decide) (ht _ tb_602) (fun _ h9 => h9) rfl dX7_best_114 ?_
              refine lv_iload hx hb dX7_best_117 (lv_at hl 6 rfl) ?_
              refine rv_icmp_eq (tgt := 139) hx hb dX7_best_119 (by decide) (by omega) (fun h119 => ?_) (fun h119 => ?_)
              · refine lv_aload_n hx hb dX7_best_139 rfl (lv_at hl 1 rfl) ?_
                refine va_get (D := D) (ci := 6) (v := .int (iI ((fC (offV now p (k : Int))).1.1))) (C := RX7) (T := TX7) (N := 16) hx hb ht inTB_X7 hown hK hP 0 rfl rfl 12 (by decide) (ht _ tb_600) (fun _ h9 => h9) rfl dX7_best_140 ?_
                refine lv_iload hx hb dX7_best_143 (lv_at hl 7 rfl) ?_
                refine rv_icmp_eq (tgt := 165) hx hb dX7_best_145 (by decide) (by omega) (fun h145 => ?_) (fun h145 => ?_)
                · refine lv_iload hx hb dX7_best_165 (lv_at hl 0 rfl) ?_
                  refine lv_iload hx hb dX7_best_167 (lv_at hl 8 rfl) ?_
                  refine rv_icmp_le (tgt := 176) hx hb dX7_best_169 (by decide) (by omega) (fun h169 => ?_) (fun h169 => ?_)
                  · refine rv_iconst hx hb dX7_best_176 ?_
                    have hbet : ¬ betP (offV now p (k : Int)) (bst now p k).2.1 (bst now p k).2.2.1 (bst now p k).2.2.2 := by unfold betP; omega
                    have hbe : bst now p (k + 1) = bst now p k := by rw [bst]; exact cF_neg hbet
                    refine lv_istore (lv' := [(10, .int (iI 0)), (9, .int (iI (leftS (offV now p (k : Int))))), (0, .ref (ad 0)), (1, .int (iI p)), (2, .int (iI what)), (3, .int (iI (pv now p 3))), (4, .int (iI ((bst now p k).1))), (5, .int (iI ((bst now p k).2.1))), (6, .int (iI ((bst now p k).2.2.1))), (7, .int (iI ((bst now p k).2.2.2))), (8, .int (iI (k : Int)))]) hx hb dX7_best_177 hl (by decide) rfl (fun ls hl => ?_)
                    refine lv_iload hx hb dX7_best_179 (lv_at hl 0 rfl) ?_
                    refine rv_if_eq (tgt := 189) hx hb dX7_best_181 (by decide) (by decide) (fun _ => ?_) (fun q => absurd q (by decide))
                    refine lv_iload hx hb dX7_best_189 (lv_at hl 6 rfl) ?_
                    refine lv_istore (lv' := [(4, .int (iI ((bst now p k).1))), (10, .int (iI 0)), (9, .int (iI (leftS (offV now p (k : Int))))), (0, .ref (ad 0)), (1, .int (iI p)), (2, .int (iI what)), (3, .int (iI (pv now p 3))), (5, .int (iI ((bst now p k).2.1))), (6, .int (iI ((bst now p k).2.2.1))), (7, .int (iI ((bst now p k).2.2.2))), (8, .int (iI (k : Int)))]) hx hb dX7_best_191 hl (by decide) rfl (fun ls hl => ?_)
                    refine lv_iload hx hb dX7_best_193 (lv_at hl 1 rfl) ?_
                    refine rv_if_eq (tgt := 205) hx hb dX7_best_195 (by decide) (by decide) (fun _ => ?_) (fun q => absurd q (by decide))
                    refine lv_iload hx hb dX7_best_205 (lv_at hl 7 rfl) ?_
                    refine lv_istore (lv' := [(5, .int (iI ((bst now p k).2.1))), (4, .int (iI ((bst now p k).1))), (10, .int (iI 0)), (9, .int (iI (leftS (offV now p (k : Int))))), (0, .ref (ad 0)), (1, .int (iI p)), (2, .int (iI what)), (3, .int (iI (pv now p 3))), (6, .int (iI ((bst now p k).2.2.1))), (7, .int (iI ((bst now p k).2.2.2))), (8, .int (iI (k : Int)))]) hx hb dX7_best_207 hl (by decide) rfl (fun ls hl => ?_)
                    refine lv_iload hx hb dX7_best_209 (lv_at hl 2 rfl) ?_
                    refine rv_if_eq (tgt := 221) hx hb dX7_best_211 (by decide) (by decide) (fun _ => ?_) (fun q => absurd q (by decide))
                    refine lv_iload hx hb dX7_best_221 (lv_at hl 8 rfl) ?_
                    refine lv_istore (lv' := [(6, .int (iI ((bst now p k).2.2.1))), (5, .int (iI ((bst now p k).2.1))), (4, .int (iI ((bst now p k).1))), (10, .int (iI 0)), (9, .int (iI (leftS (offV now p (k : Int))))), (0, .ref (ad 0)), (1, .int (iI p)), (2, .int (iI what)), (3, .int (iI (pv now p 3))), (7, .int (iI ((bst now p k).2.2.2))), (8, .int (iI (k : Int)))]) hx hb dX7_best_223 hl (by decide) rfl (fun ls hl => ?_)
                    refine lv_iload hx hb dX7_best_225 (lv_at hl 3 rfl) ?_
                    refine rv_if_eq (tgt := 235) hx hb dX7_best_227 (by decide) (by decide) (fun _ => ?_) (fun q => absurd q (by decide))
                    refine lv_iload hx hb dX7_best_235 (lv_at hl 9 rfl) ?_
                    refine lv_istore (lv' := [(7, .int (iI ((bst now p k).2.2.2))), (6, .int (iI ((bst now p k).2.2.1))), (5, .int (iI ((bst now p k).2.1))), (4, .int (iI ((bst now p k).1))), (10, .int (iI 0)), (9, .int (iI (leftS (offV now p (k : Int))))), (0, .ref (ad 0)), (1, .int (iI p)), (2, .int (iI what)), (3, .int (iI (pv now p 3))), (8, .int (iI (k : Int)))]) hx hb dX7_best_237 hl (by decide) rfl (fun ls hl => ?_)
                    refine rv_iinc (k := 10) (lv' := [(8, .int (iI ((k : Int) + 1))), (7, .int (iI ((bst now p k).2.2.2))), (6, .int (iI ((bst now p k).2.2.1))), (5, .int (iI ((bst now p k).2.1))), (4, .int (iI ((bst now p k).1))), (10, .int (iI 0)), (9, .int (iI (leftS (offV now p (k : Int))))), (0, .ref (ad 0)), (1, .int (iI p)), (2, .int (iI what)), (3, .int (iI (pv now p 3)))]) hx hb dX7_best_239 hl rfl (by decide) rfl (fun ls hl => ?_)
                    refine lv_goto (tgt := 50) hx hb dX7_best_242 (by decide) ?_
                    exact ih50 (k + 1) (offV now p (k : Int)) us2_78 bl2_78 lg2_78 bd2_78 dp2_78 ((fC (offV now p (k : Int))).1.1) ((fC (offV now p (k : Int))).1.2.1) (lvL (offV now p (k : Int)) 30) ((fC (offV now p (k : Int))).1.2.2) (by omega) (fun j hj => offV_ne hj) (by omega) _ _ _ _ _ (by rw [hbe]) (by rw [hbe]) (by rw [hbe]) (by rw [hbe]) (by omega) H locs hP hD hS ls (lv_sub hl [7, 8, 9, 10, 4, 3, 2, 1, 0] rfl)
                  · refine rv_iconst hx hb dX7_best_172 ?_
                    refine lv_goto (tgt := 177) hx hb dX7_best_173 (by decide) ?_
                    have hbet : betP (offV now p (k : Int)) (bst now p k).2.1 (bst now p k).2.2.1 (bst now p k).2.2.2 := by unfold betP; omega
                    have hbe : bst now p (k + 1) = ((k : Int), lvL (offV now p (k : Int)) 30, (fC (offV now p (k : Int))).1.1, leftS (offV now p (k : Int))) := by rw [bst]; exact cF_pos hbet
                    refine lv_istore (lv' := [(10, .int (iI 1)), (9, .int (iI (leftS (offV now p (k : Int))))), (0, .ref (ad 0)), (1, .int (iI p)), (2, .int (iI what)), (3, .int (iI (pv now p 3))), (4, .int (iI ((bst now p k).1))), (5, .int (iI ((bst now p k).2.1))), (6, .int (iI ((bst now p k).2.2.1))), (7, .int (iI ((bst now p k).2.2.2))), (8, .int (iI (k : Int)))]) hx hb dX7_best_177 hl (by decide) rfl (fun ls hl => ?_)
                    refine lv_iload hx hb dX7_best_179 (lv_at hl 0 rfl) ?_
                    refine rv_if_eq (tgt := 189) hx hb dX7_best_181 (by decide) (by decide) (fun q => absurd q (by decide)) (fun _ => ?_)
                    refine lv_iload hx hb dX7_best_184 (lv_at hl 10 rfl) ?_
                    refine lv_goto (tgt := 191) hx hb dX7_best_186 (by decide) ?_
                    refine lv_istore (lv' := [(4, .int (iI (k : Int))), (10, .int (iI 1)), (9, .int (iI (leftS (offV now p (k : Int))))), (0, .ref (ad 0)), (1, .int (iI p)), (2, .int (iI what)), (3, .int (iI (pv now p 3))), (5, .int (iI ((bst now p k).2.1))), (6, .int (iI ((bst now p k).2.2.1))), (7, .int (iI ((bst now p k).2.2.2))), (8, .int (iI (k : Int)))]) hx hb dX7_best_191 hl (by decide) rfl (fun ls hl => ?_)
                    refine lv_iload hx hb dX7_best_193 (lv_at hl 1 rfl) ?_
                    refine rv_if_eq (tgt := 205) hx hb dX7_best_195 (by decide) (by decide) (fun q => absurd q (by decide)) (fun _ => ?_)
                    refine lv_aload_n hx hb dX7_best_198 rfl (lv_at hl 3 rfl) ?_
                    refine va_get (D := D) (ci := 6) (v := .int (iI (lvL (offV now p (k : Int)) 30))) (C := RX7) (T := TX7) (N := 16) hx hb ht inTB_X7 hown hK hP 0 rfl rfl 14 (by decide) (ht _ tb_602) (fun _ h9 => h9) rfl dX7_best_199 ?_
                    refine lv_goto (tgt := 207) hx hb dX7_best_202 (by decide) ?_
                    refine lv_istore (lv' := [(5, .int (iI (lvL (offV now p (k : Int)) 30))), (4, .int (iI (k : Int))), (10, .int (iI 1)), (9, .int (iI (leftS (offV now p (k : Int))))), (0, .ref (ad 0)), (1, .int (iI p)), (2, .int (iI what)), (3, .int (iI (pv now p 3))), (6, .int (iI ((bst now p k).2.2.1))), (7, .int (iI ((bst now p k).2.2.2))), (8, .int (iI (k : Int)))]) hx hb dX7_best_207 hl (by decide) rfl (fun ls hl => ?_)
                    refine lv_iload hx hb dX7_best_209 (lv_at hl 2 rfl) ?_
                    refine rv_if_eq (tgt := 221) hx hb dX7_best_211 (by decide) (by decide) (fun q => absurd q (by decide)) (fun _ => ?_)
                    refine lv_aload_n hx hb dX7_best_214 rfl (lv_at hl 4 rfl) ?_
                    refine va_get (D := D) (ci := 6) (v := .int (iI ((fC (offV now p (k : Int))).1.1))) (C := RX7) (T := TX7) (N := 16) hx hb ht inTB_X7 hown hK hP 0 rfl rfl 12 (by decide) (ht _ tb_600) (fun _ h9 => h9) rfl dX7_best_215 ?_
                    refine lv_goto (tgt := 223) hx hb dX7_best_218 (by decide) ?_
                    refine lv_istore (lv' := [(6, .int (iI ((fC (offV now p (k : Int))).1.1))), (5, .int (iI (lvL (offV now p (k : Int)) 30))), (4, .int (iI (k : Int))), (10, .int (iI 1)), (9, .int (iI (leftS (offV now p (k : Int))))), (0, .ref (ad 0)), (1, .int (iI p)), (2, .int (iI what)), (3, .int (iI (pv now p 3))), (7, .int (iI ((bst now p k).2.2.2))), (8, .int (iI (k : Int)))]) hx hb dX7_best_223 hl (by decide) rfl (fun ls hl => ?_)
                    refine lv_iload hx hb dX7_best_225 (lv_at hl 3 rfl) ?_
                    refine rv_if_eq (tgt := 235) hx hb dX7_best_227 (by decide) (by decide) (fun q => absurd q (by decide)) (fun _ => ?_)
                    refine lv_iload hx hb dX7_best_230 (lv_at hl 4 rfl) ?_
                    refine lv_goto (tgt := 237) hx hb dX7_best_232 (by decide) ?_
                    refine lv_istore (lv' := [(7, .int (iI (leftS (offV now p (k : Int))))), (6, .int (iI ((fC (offV now p (k : Int))).1.1))), (5, .int (iI (lvL (offV now p (k : Int)) 30))), (4, .int (iI (k : Int))), (10, .int (iI 1)), (9, .int (iI (leftS (offV now p (k : Int))))), (0, .ref (ad 0)), (1, .int (iI p)), (2, .int (iI what)), (3, .int (iI (pv now p 3))), (8, .int (iI (k : Int)))]) hx hb dX7_best_237 hl (by decide) rfl (fun ls hl => ?_)
                    refine rv_iinc (k := 10) (lv' := [(8, .int (iI ((k : Int) + 1))), (7, .int (iI (leftS (offV now p (k : Int))))), (6, .int (iI ((fC (offV now p (k : Int))).1.1))), (5, .int (iI (lvL (offV now p (k : Int)) 30))), (4, .int (iI (k : Int))), (10, .int (iI 1)), (9, .int (iI (leftS (offV now p (k : Int))))), (0, .ref (ad 0)), (1, .int (iI p)), (2, .int (iI what)), (3, .int (iI (pv now p 3)))]) hx hb dX7_best_239 hl rfl (by decide) rfl (fun ls hl => ?_)
                    refine lv_goto (tgt := 50) hx hb dX7_best_242 (by decide) ?_
                    exact ih50 (k + 1) (offV now p (k : Int)) us2_78 bl2_78 lg2_78 bd2_78 dp2_78 ((fC (offV now p (k : Int))).1.1) ((fC (offV now p (k : Int))).1.2.1) (lvL (offV now p (k : Int)) 30) ((fC (offV now p (k : Int))).1.2.2) (by omega) (fun j hj => offV_ne hj) (by omega) _ _ _ _ _ (by rw [hbe]) (by rw [hbe]) (by rw [hbe]) (by rw [hbe]) (by omega) H locs hP hD hS ls (lv_sub hl [7, 8, 9, 10, 4, 3, 2, 1, 0] rfl)
                · refine lv_aload_n hx hb dX7_best_148 rfl (lv_at hl 1 rfl) ?_
                  refine va_get (D := D) (ci := 6) (v := .int (iI ((fC (offV now p (k : Int))).1.1))) (C := RX7) (T := TX7) (N := 16) hx hb ht inTB_X7 hown hK hP 0 rfl rfl 12 (by decide) (ht _ tb_600) (fun _ h9 => h9) rfl dX7_best_149 ?_
                  refine lv_iload hx hb dX7_best_152 (lv_at hl 7 rfl) ?_
                  refine rv_icmp_ge (tgt := 161) hx hb dX7_best_154 (by decide) (by omega) (fun h154 => ?_) (fun h154 => ?_)
                  · refine rv_iconst hx hb dX7_best_161 ?_
                    refine lv_goto (tgt := 177) hx hb dX7_best_162 (by decide) ?_
                    have hbet : ¬ betP (offV now p (k : Int)) (bst now p k).2.1 (bst now p k).2.2.1 (bst now p k).2.2.2 := by unfold betP; omega
                    have hbe : bst now p (k + 1) = bst now p k := by rw [bst]; exact cF_neg hbet
                    refine lv_istore (lv' := [(10, .int (iI 0)), (9, .int (iI (leftS (offV now p (k : Int))))), (0, .ref (ad 0)), (1, .int (iI p)), (2, .int (iI what)), (3, .int (iI (pv now p 3))), (4, .int (iI ((bst now p k).1))), (5, .int (iI ((bst now p k).2.1))), (6, .int (iI ((bst now p k).2.2.1))), (7, .int (iI ((bst now p k).2.2.2))), (8, .int (iI (k : Int)))]) hx hb dX7_best_177 hl (by decide) rfl (fun ls hl => ?_)
                    refine lv_iload hx hb dX7_best_179 (lv_at hl 0 rfl) ?_
                    refine rv_if_eq (tgt := 189) hx hb dX7_best_181 (by decide) (by decide) (fun _ => ?_) (fun q => absurd q (by decide))
                    refine lv_iload hx hb dX7_best_189 (lv_at hl 6 rfl) ?_
                    refine lv_istore (lv' := [(4, .int (iI ((bst now p k).1))), (10, .int (iI 0)), (9, .int (iI (leftS (offV now p (k : Int))))), (0, .ref (ad 0)), (1, .int (iI p)), (2, .int (iI what)), (3, .int (iI (pv now p 3))), (5, .int (iI ((bst now p k).2.1))), (6, .int (iI ((bst now p k).2.2.1))), (7, .int (iI ((bst now p k).2.2.2))), (8, .int (iI (k : Int)))]) hx hb dX7_best_191 hl (by decide) rfl (fun ls hl => ?_)
                    refine lv_iload hx hb dX7_best_193 (lv_at hl 1 rfl) ?_
                    refine rv_if_eq (tgt := 205) hx hb dX7_best_195 (by decide) (by decide) (fun _ => ?_) (fun q => absurd q (by decide))
                    refine lv_iload hx hb dX7_best_205 (lv_at hl 7 rfl) ?_
                    refine lv_istore (lv' := [(5, .int (iI ((bst now p k).2.1))), (4, .int (iI ((bst now p k).1))), (10, .int (iI 0)), (9, .int (iI (leftS (offV now p (k : Int))))), (0, .ref (ad 0)), (1, .int (iI p)), (2, .int (iI what)), (3, .int (iI (pv now p 3))), (6, .int (iI ((bst now p k).2.2.1))), (7, .int (iI ((bst now p k).2.2.2))), (8, .int (iI (k : Int)))]) hx hb dX7_best_207 hl (by decide) rfl (fun ls hl => ?_)
                    refine lv_iload hx hb dX7_best_209 (lv_at hl 2 rfl) ?_
                    refine rv_if_eq (tgt := 221) hx hb dX7_best_211 (by decide) (by decide) (fun _ => ?_) (fun q => absurd q (by decide))
                    refine lv_iload hx hb dX7_best_221 (lv_at hl 8 rfl) ?_
                    refine lv_istore (lv' := [(6, .int (iI ((bst now p k).2.2.1))), (5, .int (iI ((bst now p k).2.1))), (4, .int (iI ((bst now p k).1))), (10, .int (iI 0)), (9, .int (iI (leftS (offV now p (k : Int))))), (0, .ref (ad 0)), (1, .int (iI p)), (2, .int (iI what)), (3, .int (iI (pv now p 3))), (7, .int (iI ((bst now p k).2.2.2))), (8, .int (iI (k : Int)))]) hx hb dX7_best_223 hl (by decide) rfl (fun ls hl => ?_)
                    refine lv_iload hx hb dX7_best_225 (lv_at hl 3 rfl) ?_
                    refine rv_if_eq (tgt := 235) hx hb dX7_best_227 (by decide) (by decide) (fun _ => ?_) (fun q => absurd q (by decide))
                    refine lv_iload hx hb dX7_best_235 (lv_at hl 9 rfl) ?_
                    refine lv_istore (lv' := [(7, .int (iI ((bst now p k).2.2.2))), (6, .int (iI ((bst now p k).2.2.1))), (5, .int (iI ((bst now p k).2.1))), (4, .int (iI ((bst now p k).1))), (10, .int (iI 0)), (9, .int (iI (leftS (offV now p (k : Int))))), (0, .ref (ad 0)), (1, .int (iI p)), (2, .int (iI what)), (3, .int (iI (pv now p 3))), (8, .int (iI (k : Int)))]) hx hb dX7_best_237 hl (by decide) rfl (fun ls hl => ?_)
                    refine rv_iinc (k := 10) (lv' := [(8, .int (iI ((k : Int) + 1))), (7, .int (iI ((bst now p k).2.2.2))), (6, .int (iI ((bst now p k).2.2.1))), (5, .int (iI ((bst now p k).2.1))), (4, .int (iI ((bst now p k).1))), (10, .int (iI 0)), (9, .int (iI (leftS (offV now p (k : Int))))), (0, .ref (ad 0)), (1, .int (iI p)), (2, .int (iI what)), (3, .int (iI (pv now p 3)))]) hx hb dX7_best_239 hl rfl (by decide) rfl (fun ls hl => ?_)
                    refine lv_goto (tgt := 50) hx hb dX7_best_242 (by decide) ?_
                    exact ih50 (k + 1) (offV now p (k : Int)) us2_78 bl2_78 lg2_78 bd2_78 dp2_78 ((fC (offV now p (k : Int))).1.1) ((fC (offV now p (k : Int))).1.2.1) (lvL (offV now p (k : Int)) 30) ((fC (offV now p (k : Int))).1.2.2) (by omega) (fun j hj => offV_ne hj) (by omega) _ _ _ _ _ (by rw [hbe]) (by rw [hbe]) (by rw [hbe]) (by rw [hbe]) (by omega) H locs hP hD hS ls (lv_sub hl [7, 8, 9, 10, 4, 3, 2, 1, 0] rfl)
                  · refine rv_iconst hx hb dX7_best_157 ?_
                    refine lv_goto (tgt := 177) hx hb dX7_best_158 (by decide) ?_
                    have hbet : betP (offV now p (k : Int)) (bst now p k).2.1 (bst now p k).2.2.1 (bst now p k).2.2.2 := by unfold betP; omega
                    have hbe : bst now p (k + 1) = ((k : Int), lvL (offV now p (k : Int)) 30, (fC (offV now p (k : Int))).1.1, leftS (offV now p (k : Int))) := by rw [bst]; exact cF_pos hbet
                    refine lv_istore (lv' := [(10, .int (iI 1)), (9, .int (iI (leftS (offV now p (k : Int))))), (0, .ref (ad 0)), (1, .int (iI p)), (2, .int (iI what)), (3, .int (iI (pv now p 3))), (4, .int (iI ((bst now p k).1))), (5, .int (iI ((bst now p k).2.1))), (6, .int (iI ((bst now p k).2.2.1))), (7, .int (iI ((bst now p k).2.2.2))), (8, .int (iI (k : Int)))]) hx hb dX7_best_177 hl (by decide) rfl (fun ls hl => ?_)
                    refine lv_iload hx hb dX7_best_179 (lv_at hl 0 rfl) ?_
                    refine rv_if_eq (tgt := 189) hx hb dX7_best_181 (by decide) (by decide) (fun q => absurd q (by decide)) (fun _ => ?_)
                    refine lv_iload hx hb dX7_best_184 (lv_at hl 10 rfl) ?_
                    refine lv_goto (tgt := 191) hx hb dX7_best_186 (by decide) ?_
                    refine lv_istore (lv' := [(4, .int (iI (k : Int))), (10, .int (iI 1)), (9, .int (iI (leftS (offV now p (k : Int))))), (0, .ref (ad 0)), (1, .int (iI p)), (2, .int (iI what)), (3, .int (iI (pv now p 3))), (5, .int (iI ((bst now p k).2.1))), (6, .int (iI ((bst now p k).2.2.1))), (7, .int (iI ((bst now p k).2.2.2))), (8, .int (iI (k : Int)))]) hx hb dX7_best_191 hl (by decide) rfl (fun ls hl => ?_)
                    refine lv_iload hx hb dX7_best_193 (lv_at hl 1 rfl) ?_
                    refine rv_if_eq (tgt := 205) hx hb dX7_best_195 (by decide) (by decide) (fun q => absurd q (by decide)) (fun _ => ?_)
                    refine lv_aload_n hx hb dX7_best_198 rfl (lv_at hl 3 rfl) ?_
                    refine va_get (D := D) (ci := 6) (v := .int (iI (lvL (offV now p (k : Int)) 30))) (C := RX7) (T := TX7) (N := 16) hx hb ht inTB_X7 hown hK hP 0 rfl rfl 14 (by decide) (ht _ tb_602) (fun _ h9 => h9) rfl dX7_best_199 ?_
                    refine lv_goto (tgt := 207) hx hb dX7_best_202 (by decide) ?_
                    refine lv_istore (lv' := [(5, .int (iI (lvL (offV now p (k : Int)) 30))), (4, .int (iI (k : Int))), (10, .int (iI 1)), (9, .int (iI (leftS (offV now p (k : Int))))), (0, .ref (ad 0)), (1, .int (iI p)), (2, .int (iI what)), (3, .int (iI (pv now p 3))), (6, .int (iI ((bst now p k).2.2.1))), (7, .int (iI ((bst now p k).2.2.2))), (8, .int (iI (k : Int)))]) hx hb dX7_best_207 hl (by decide) rfl (fun ls hl => ?_)
                    refine lv_iload hx hb dX7_best_209 (lv_at hl 2 rfl) ?_
                    refine rv_if_eq (tgt := 221) hx hb dX7_best_211 (by decide) (by decide) (fun q => absurd q (by decide)) (fun _ => ?_)
                    refine lv_aload_n hx hb dX7_best_214 rfl (lv_at hl 4 rfl) ?_
                    refine va_get (D := D) (ci := 6) (v := .int (iI ((fC (offV now p (k : Int))).1.1))) (C := RX7) (T := TX7) (N := 16) hx hb ht inTB_X7 hown hK hP 0 rfl rfl 12 (by decide) (ht _ tb_600) (fun _ h9 => h9) rfl dX7_best_215 ?_
                    refine lv_goto (tgt := 223) hx hb dX7_best_218 (by decide) ?_
                    refine lv_istore (lv' := [(6, .int (iI ((fC (offV now p (k : Int))).1.1))), (5, .int (iI (lvL (offV now p (k : Int)) 30))), (4, .int (iI (k : Int))), (10, .int (iI 1)), (9, .int (iI (leftS (offV now p (k : Int))))), (0, .ref (ad 0)), (1, .int (iI p)), (2, .int (iI what)), (3, .int (iI (pv now p 3))), (7, .int (iI ((bst now p k).2.2.2))), (8, .int (iI (k : Int)))]) hx hb dX7_best_223 hl (by decide) rfl (fun ls hl => ?_)
                    refine lv_iload hx hb dX7_best_225 (lv_at hl 3 rfl) ?_
                    refine rv_if_eq (tgt := 235) hx hb dX7_best_227 (by decide) (by decide) (fun q => absurd q (by decide)) (fun _ => ?_)
                    refine lv_iload hx hb dX7_best_230 (lv_at hl 4 rfl) ?_
                    refine lv_goto (tgt := 237) hx hb dX7_best_232 (by decide) ?_
                    refine lv_istore (lv' := [(7, .int (iI (leftS (offV now p (k : Int))))), (6, .int (iI ((fC (offV now p (k : Int))).1.1))), (5, .int (iI (lvL (offV now p (k : Int)) 30))), (4, .int (iI (k : Int))), (10, .int (iI 1)), (9, .int (iI (leftS (offV now p (k : Int))))), (0, .ref (ad 0)), (1, .int (iI p)), (2, .int (iI what)), (3, .int (iI (pv now p 3))), (8, .int (iI (k : Int)))]) hx hb dX7_best_237 hl (by decide) rfl (fun ls hl => ?_)
                    refine rv_iinc (k := 10) (lv' := [(8, .int (iI ((k : Int) + 1))), (7, .int (iI (leftS (offV now p (k : Int))))), (6, .int (iI ((fC (offV now p (k : Int))).1.1))), (5, .int (iI (lvL (offV now p (k : Int)) 30))), (4, .int (iI (k : Int))), (10, .int (iI 1)), (9, .int (iI (leftS (offV now p (k : Int))))), (0, .ref (ad 0)), (1, .int (iI p)), (2, .int (iI what)), (3, .int (iI (pv now p 3)))]) hx hb dX7_best_239 hl rfl (by decide) rfl (fun ls hl => ?_)
                    refine lv_goto (tgt := 50) hx hb dX7_best_242 (by decide) ?_
                    exact ih50 (k + 1) (offV now p (k : Int)) us2_78 bl2_78 lg2_78 bd2_78 dp2_78 ((fC (offV now p (k : Int))).1.1) ((fC (offV now p (k : Int))).1.2.1) (lvL (offV now p (k : Int)) 30) ((fC (offV now p (k : Int))).1.2.2) (by omega) (fun j hj => offV_ne hj) (by omega) _ _ _ _ _ (by rw [hbe]) (by rw [hbe]) (by rw [hbe]) (by rw [hbe]) (by omega) H locs hP hD hS ls (lv_sub hl [7, 8, 9, 10, 4, 3, 2, 1, 0] rfl)
              · refine lv_aload_n hx hb dX7_best_122 rfl (lv_at hl 1 rfl) ?_
                refine va_get (D := D) (ci := 6) (v := .int (iI (lvL (offV now p (k : Int)) 30))) (C := RX7) (T := TX7) (N := 16) hx hb ht inTB_X7 hown hK hP 0 rfl rfl 14 (by decide) (ht _ tb_602) (fun _ h9 => h9) rfl dX7_best_123 ?_
                refine lv_iload hx hb dX7_best_126 (lv_at hl 6 rfl) ?_
                refine rv_icmp_ge (tgt := 135) hx hb dX7_best_128 (by decide) (by omega) (fun h128 => ?_) (fun h128 => ?_)
                · refine rv_iconst hx hb dX7_best_135 ?_
                  refine lv_goto (tgt := 177) hx hb dX7_best_136 (by decide) ?_
                  have hbet : ¬ betP (offV now p (k : Int)) (bst now p k).2.1 (bst now p k).2.2.1 (bst now p k).2.2.2 := by unfold betP; omega
                  have hbe : bst now p (k + 1) = bst now p k := by rw [bst]; exact cF_neg hbet
                  refine lv_istore (lv' := [(10, .int (iI 0)), (9, .int (iI (leftS (offV now p (k : Int))))), (0, .ref (ad 0)), (1, .int (iI p)), (2, .int (iI what)), (3, .int (iI (pv now p 3))), (4, .int (iI ((bst now p k).1))), (5, .int (iI ((bst now p k).2.1))), (6, .int (iI ((bst now p k).2.2.1))), (7, .int (iI ((bst now p k).2.2.2))), (8, .int (iI (k : Int)))]) hx hb dX7_best_177 hl (by decide) rfl (fun ls hl => ?_)
                  refine lv_iload hx hb dX7_best_179 (lv_at hl 0 rfl) ?_
                  refine rv_if_eq (tgt := 189) hx hb dX7_best_181 (by decide) (by decide) (fun _ => ?_) (fun q => absurd q (by decide))
                  refine lv_iload hx hb dX7_best_189 (lv_at hl 6 rfl) ?_
                  refine lv_istore (lv' := [(4, .int (iI ((bst now p k).1))), (10, .int (iI 0)), (9, .int (iI (leftS (offV now p (k : Int))))), (0, .ref (ad 0)), (1, .int (iI p)), (2, .int (iI what)), (3, .int (iI (pv now p 3))), (5, .int (iI ((bst now p k).2.1))), (6, .int (iI ((bst now p k).2.2.1))), (7, .int (iI ((bst now p k).2.2.2))), (8, .int (iI (k : Int)))]) hx hb dX7_best_191 hl (by decide) rfl (fun ls hl => ?_)
                  refine lv_iload hx hb dX7_best_193 (lv_at hl 1 rfl) ?_
                  refine rv_if_eq (tgt := 205) hx hb dX7_best_195 (by decide) (by decide) (fun _ => ?_) (fun q => absurd q (by decide))
                  refine lv_iload hx hb dX7_best_205 (lv_at hl 7 rfl) ?_
                  refine lv_istore (lv' := [(5, .int (iI ((bst now p k).2.1))), (4, .int (iI ((bst now p k).1))), (10, .int (iI 0)), (9, .int (iI (leftS (offV now p (k : Int))))), (0, .ref (ad 0)), (1, .int (iI p)), (2, .int (iI what)), (3, .int (iI (pv now p 3))), (6, .int (iI ((bst now p k).2.2.1))), (7, .int (iI ((bst now p k).2.2.2))), (8, .int (iI (k : Int)))]) hx hb dX7_best_207 hl (by decide) rfl (fun ls hl => ?_)
                  refine lv_iload hx hb dX7_best_209 (lv_at hl 2 rfl) ?_
                  refine rv_if_eq (tgt := 221) hx hb dX7_best_211 (by decide) (by decide) (fun _ => ?_) (fun q => absurd q (by decide))
                  refine lv_iload hx hb dX7_best_221 (lv_at hl 8 rfl) ?_
                  refine lv_istore (lv' := [(6, .int (iI ((bst now p k).2.2.1))), (5, .int (iI ((bst now p k).2.1))), (4, .int (iI ((bst now p k).1))), (10, .int (iI 0)), (9, .int (iI (leftS (offV now p (k : Int))))), (0, .ref (ad 0)), (1, .int (iI p)), (2, .int (iI what)), (3, .int (iI (pv now p 3))), (7, .int (iI ((bst now p k).2.2.2))), (8, .int (iI (k : Int)))]) hx hb dX7_best_223 hl (by decide) rfl (fun ls hl => ?_)
                  refine lv_iload hx hb dX7_best_225 (lv_at hl 3 rfl) ?_
                  refine rv_if_eq (tgt := 235) hx hb dX7_best_227 (by decide) (by decide) (fun _ => ?_) (fun q => absurd q (by decide))
                  refine lv_iload hx hb dX7_best_235 (lv_at hl 9 rfl) ?_
                  refine lv_istore (lv' := [(7, .int (iI ((bst now p k).2.2.2))), (6, .int (iI ((bst now p k).2.2.1))), (5, .int (iI ((bst now p k).2.1))), (4, .int (iI ((bst now p k).1))), (10, .int (iI 0)), (9, .int (iI (leftS (offV now p (k : Int))))), (0, .ref (ad 0)), (1, .int (iI p)), (2, .int (iI what)), (3, .int (iI (pv now p 3))), (8, .int (iI (k : Int)))]) hx hb dX7_best_237 hl (by decide) rfl (fun ls hl => ?_)
                  refine rv_iinc (k := 10) (lv' := [(8, .int (iI ((k : Int) + 1))), (7, .int (iI ((bst now p k).2.2.2))), (6, .int (iI ((bst now p k).2.2.1))), (5, .int (iI ((bst now p k).2.1))), (4, .int (iI ((bst now p k).1))), (10, .int (iI 0)), (9, .int (iI (leftS (offV now p (k : Int))))), (0, .ref (ad 0)), (1, .int (iI p)), (2, .int (iI what)), (3, .int (iI (pv now p 3)))]) hx hb dX7_best_239 hl rfl (by decide) rfl (fun ls hl => ?_)
                  refine lv_goto (tgt := 50) hx hb dX7_best_242 (by decide) ?_
                  exact ih50 (k + 1) (offV now p (k : Int)) us2_78 bl2_78 lg2_78 bd2_78 dp2_78 ((fC (offV now p (k : Int))).1.1) ((fC (offV now p (k : Int))).1.2.1) (lvL (offV now p (k : Int)) 30) ((fC (offV now p (k : Int))).1.2.2) (by omega) (fun j hj => offV_ne hj) (by omega) _ _ _ _ _ (by rw [hbe]) (by rw [hbe]) (by rw [hbe]) (by rw [hbe]) (by omega) H locs hP hD hS ls (lv_sub hl [7, 8, 9, 10, 4, 3, 2, 1, 0] rfl)
                · refine rv_iconst hx hb dX7_best_131 ?_
                  refine lv_goto (tgt := 177) hx hb dX7_best_132 (by decide) ?_
                  have hbet : betP (offV now p (k : Int)) (bst now p k).2.1 (bst now p k).2.2.1 (bst now p k).2.2.2 := by unfold betP; omega
                  have hbe : bst now p (k + 1) = ((k : Int), lvL (offV now p (k : Int)) 30, (fC (offV now p (k : Int))).1.1, leftS (offV now p (k : Int))) := by rw [bst]; exact cF_pos hbet
                  refine lv_istore (lv' := [(10, .int (iI 1)), (9, .int (iI (leftS (offV now p (k : Int))))), (0, .ref (ad 0)), (1, .int (iI p)), (2, .int (iI what)), (3, .int (iI (pv now p 3))), (4, .int (iI ((bst now p k).1))), (5, .int (iI ((bst now p k).2.1))), (6, .int (iI ((bst now p k).2.2.1))), (7, .int (iI ((bst now p k).2.2.2))), (8, .int (iI (k : Int)))]) hx hb dX7_best_177 hl (by decide) rfl (fun ls hl => ?_)
                  refine lv_iload hx hb dX7_best_179 (lv_at hl 0 rfl) ?_
                  refine rv_if_eq (tgt := 189) hx hb dX7_best_181 (by decide) (by decide) (fun q => absurd q (by decide)) (fun _ => ?_)
                  refine lv_iload hx hb dX7_best_184 (lv_at hl 10 rfl) ?_
                  refine lv_goto (tgt := 191) hx hb dX7_best_186 (by decide) ?_
                  refine lv_istore (lv' := [(4, .int (iI (k : Int))), (10, .int (iI 1)), (9, .int (iI (leftS (offV now p (k : Int))))), (0, .ref (ad 0)), (1, .int (iI p)), (2, .int (iI what)), (3, .int (iI (pv now p 3))), (5, .int (iI ((bst now p k).2.1))), (6, .int (iI ((bst now p k).2.2.1))), (7, .int (iI ((bst now p k).2.2.2))), (8, .int (iI (k : Int)))]) hx hb dX7_best_191 hl (by decide) rfl (fun ls hl => ?_)
                  refine lv_iload hx hb dX7_best_193 (lv_at hl 1 rfl) ?_
                  refine rv_if_eq (tgt := 205) hx hb dX7_best_195 (by decide) (by decide) (fun q => absurd q (by decide)) (fun _ => ?_)
                  refine lv_aload_n hx hb dX7_best_198 rfl (lv_at hl 3 rfl) ?_
                  refine va_get (D := D) (ci := 6) (v := .int (iI (lvL (offV now p (k : Int)) 30))) (C := RX7) (T := TX7) (N := 16) hx hb ht inTB_X7 hown hK hP 0 rfl rfl 14 (by decide) (ht _ tb_602) (fun _ h9 => h9) rfl dX7_best_199 ?_
                  refine lv_goto (tgt := 207) hx hb dX7_best_202 (by decide) ?_
                  refine lv_istore (lv' := [(5, .int (iI (lvL (offV now p (k : Int)) 30))), (4, .int (iI (k : Int))), (10, .int (iI 1)), (9, .int (iI (leftS (offV now p (k : Int))))), (0, .ref (ad 0)), (1, .int (iI p)), (2, .int (iI what)), (3, .int (iI (pv now p 3))), (6, .int (iI ((bst now p k).2.2.1))), (7, .int (iI ((bst now p k).2.2.2))), (8, .int (iI (k : Int)))]) hx hb dX7_best_207 hl (by decide) rfl (fun ls hl => ?_)
                  refine lv_iload hx hb dX7_best_209 (lv_at hl 2 rfl) ?_
                  refine rv_if_eq (tgt := 221) hx hb dX7_best_211 (by decide) (by decide) (fun q => absurd q (by decide)) (fun _ => ?_)
                  refine lv_aload_n hx hb dX7_best_214 rfl (lv_at hl 4 rfl) ?_
                  refine va_get (D := D) (ci := 6) (v := .int (iI ((fC (offV now p (k : Int))).1.1))) (C := RX7) (T := TX7) (N := 16) hx hb ht inTB_X7 hown hK hP 0 rfl rfl 12 (by decide) (ht _ tb_600) (fun _ h9 => h9) rfl dX7_best_215 ?_
                  refine lv_goto (tgt := 223) hx hb dX7_best_218 (by decide) ?_
                  refine lv_istore (lv' := [(6, .int (iI ((fC (offV now p (k : Int))).1.1))), (5, .int (iI (lvL (offV now p (k : Int)) 30))), (4, .int (iI (k : Int))), (10, .int (iI 1)), (9, .int (iI (leftS (offV now p (k : Int))))), (0, .ref (ad 0)), (1, .int (iI p)), (2, .int (iI what)), (3, .int (iI (pv now p 3))), (7, .int (iI ((bst now p k).2.2.2))), (8, .int (iI (k : Int)))]) hx hb dX7_best_223 hl (by decide) rfl (fun ls hl => ?_)
                  refine lv_iload hx hb dX7_best_225 (lv_at hl 3 rfl) ?_
                  refine rv_if_eq (tgt := 235) hx hb dX7_best_227 (by decide) (by decide) (fun q => absurd q (by decide)) (fun _ => ?_)
                  refine lv_iload hx hb dX7_best_230 (lv_at hl 4 rfl) ?_
                  refine lv_goto (tgt := 237) hx hb dX7_best_232 (by decide) ?_
                  refine lv_istore (lv' := [(7, .int (iI (leftS (offV now p (k : Int))))), (6, .int (iI ((fC (offV now p (k : Int))).1.1))), (5, .int (iI (lvL (offV now p (k : Int)) 30))), (4, .int (iI (k : Int))), (10, .int (iI 1)), (9, .int (iI (leftS (offV now p (k : Int))))), (0, .ref (ad 0)), (1, .int (iI p)), (2, .int (iI what)), (3, .int (iI (pv now p 3))), (8, .int (iI (k : Int)))]) hx hb dX7_best_237 hl (by decide) rfl (fun ls hl => ?_)
                  refine rv_iinc (k := 10) (lv' := [(8, .int (iI ((k : Int) + 1))), (7, .int (iI (leftS (offV now p (k : Int))))), (6, .int (iI ((fC (offV now p (k : Int))).1.1))), (5, .int (iI (lvL (offV now p (k : Int)) 30))), (4, .int (iI (k : Int))), (10, .int (iI 1)), (9, .int (iI (leftS (offV now p (k : Int))))), (0, .ref (ad 0)), (1, .int (iI p)), (2, .int (iI what)), (3, .int (iI (pv now p 3)))]) hx hb dX7_best_239 hl rfl (by decide) rfl (fun ls hl => ?_)
                  refine lv_goto (tgt := 50) hx hb dX7_best_242 (by decide) ?_
                  exact ih50 (k + 1) (offV now p (k : Int)) us2_78 bl2_78 lg2_78 bd2_78 dp2_78 ((fC (offV now p (k : Int))).1.1) ((fC (offV now p (k : Int))).1.2.1) (lvL (offV now p (k : Int)) 30) ((fC (offV now p (k : Int))).1.2.2) (by omega) (fun j hj => offV_ne hj) (by omega) _ _ _ _ _ (by rw [hbe]) (by rw [hbe]) (by rw [hbe]) (by rw [hbe]) (by omega) H locs hP hD hS ls (lv_sub hl [7, 8, 9, 10, 4, 3, 2, 1, 0] rfl)
      exact loop50 (_ + 1) 0 now us bl lg bd dp bo cu lo wh (by omega) (fun j _ => rfl) (Nat.lt_succ_self _) _ _ _ _ _ rfl rfl rfl rfl rfl H locs hP hD hS ls (lv_sub hl [6, 7, 8, 5, 4, 3, 2, 1, 0] rfl)
    · refine rv_if_ne (tgt := 20) hx hb dX7_best_15 (by decide) (by decide) (fun q => absurd q (by decide)) (fun _ => ?_)
      refine rv_iconst hx hb dX7_best_18 ?_
      subst hQ
      exact W.iret hx hb hr (fun t9 ht9 hW9 => ⟨⟨_, _, rfl, rfl, ⟨us, bl, lg, bd, dp, bo, cu, lo, wh, by rw [aBest, cif_neg (fun q => by first | exact hb2 q.1 | (have := q.2; omega))], by rw [ht9]; exact hP, by rw [hAe]; exact hD⟩⟩, by rw [hAe]; exact hS.F ht9⟩) (by rw [hAe]; exact hS.2.2) dX7_best_19
  · refine rv_if_eq (tgt := 18) hx hb dX7_best_5 (by decide) (by decide) (fun _ => ?_) (fun q => absurd q (by decide))
    refine rv_iconst hx hb dX7_best_18 ?_
    subst hQ
    exact W.iret hx hb hr (fun t9 ht9 hW9 => ⟨⟨_, _, rfl, rfl, ⟨us, bl, lg, bd, dp, bo, cu, lo, wh, by rw [aBest, cif_neg (fun q => by first | exact hb2 q.1 | (have := q.2; omega))], by rw [ht9]; exact hP, by rw [hAe]; exact hD⟩⟩, by rw [hAe]; exact hS.F ht9⟩) (by rw [hAe]; exact hS.2.2) dX7_best_19

