/-! Saw: all is cut; what is asked of it -/

abbrev rm_X5_cutAllMoved : Room := { frames := 3, cells := 0, slots := 0, locals := 68 }
set_option maxHeartbeats 8000000 in
set_option maxRecDepth 100000 in
/-- cutAllMoved -/
theorem c_X5_cutAllMoved (l : Launch) (D : va_G) (cs : Nat → ClassId) (ad : Nat → Nat) (sz : Nat) (swl : Int) (sun : Int) (sbo : Int) (scw : Int) (bo : Int) (cu : Int) (lo : Int) (wh : Int) (dps : Nat → Int) (alk : Nat → Int) (bof : Nat → Int) (us : Nat → Int) (bl : Nat → Int) (lg : Nat → Int) (M : Nat → Prop) (a : Nat) (v : Nat → Int) (moved : Int) (off : Int) (u : Nat → Int) (hM : ∀ q, inAd ad 7 14 q → M q) (hmv : -2147483648 ≤ moved ∧ moved < 2147483648) (hu : vL u) (hu0 : ∀ j : Nat, j % 5 ≠ 3 ∨ 20 ≤ j → u j = v j) (hu3 : ∀ q : Nat, (q : Int) < v 20 → u (5 * q + 3) = cif ((q : Int) = moved) off (v (5 * q + 3))) : Met l yX5_cutAllMoved (Cond.code yX5_cutAllMoved cX5_cutAllMoved 6 none :: TB) rm_X5_cutAllMoved (va_Pc [.ref (ad 7), .ref a, .int (iI moved), .int (iI off)] (MPre D cs sz (sW cs ad swl sun sbo scw bo cu lo wh dps alk bof us bl lg) (fun U H => PlanAt D cs M H a v))) (va_Qv (fun _ : Unit => True) (fun _ t => ∃ (swl2 : Int) (sun2 : Int) (sbo2 : Int) (scw2 : Int) (bo2 : Int) (cu2 : Int) (lo2 : Int) (wh2 : Int) (dps2 : Nat → Int) (alk2 : Nat → Int) (bof2 : Nat → Int) (us2 : Nat → Int) (bl2 : Nat → Int) (lg2 : Nat → Int), (SawOK u swl2 sun2 sbo2 scw2 bo2 cu2 lo2 wh2 dps2 alk2 bof2 us2 bl2 lg2) ∧ va_P D classes (sW cs ad swl2 sun2 sbo2 scw2 bo2 cu2 lo2 wh2 dps2 alk2 bof2 us2 bl2 lg2) t.heap ∧ va_D (va_A (sW cs ad swl sun sbo scw bo cu lo wh dps alk bof us bl lg) sz) (sW cs ad swl2 sun2 sbo2 scw2 bo2 cu2 lo2 wh2 dps2 alk2 bof2 us2 bl2 lg2)) (va_A (sW cs ad swl sun sbo scw bo cu lo wh dps alk bof us bl lg) sz)) 0 0 (va_A (sW cs ad swl sun sbo scw bo cu lo wh dps alk bof us bl lg) sz) := by
  refine enter (cc := cX5_cutAllMoved) (maxL := 6) (ret := none) (by decide) (Nat.le_of_ble_eq_true rfl) ?_
  intro pg ev s m below meth c Q ls hx hb hml hown hts hr hlocks hnm ⟨hsz, hP, hD0, hK, hX0⟩ hl hQ
  have ht : ∀ w ∈ TB, w.before _ s = true := fun w h => hts w (List.mem_cons_of_mem _ h)
  subst hsz
  have hD := hD0.self (sz := s.heap.size)
  obtain ⟨A, hAe⟩ : ∃ A, va_A (sW cs ad swl sun sbo scw bo cu lo wh dps alk bof us bl lg) s.heap.size = A := ⟨_, rfl⟩
  rw [hAe] at hD
  have hA : ∀ q : Nat, s.heap.size ≤ q → A q := fun q h => by rw [← hAe]; exact Or.inr h
  obtain ⟨H, hH⟩ : ∃ H, H = s.heap := ⟨_, rfl⟩
  obtain ⟨locs, hlocs⟩ : ∃ locs : List Loc, locs = [] := ⟨_, rfl⟩
  have hS : va_S A s.heap H locs := by rw [hH, hlocs]; exact va_S.rf
  rw [← hH] at hP
  suffices hgo : W pg l ev rm_X5_cutAllMoved s m [.ref (ad 7), .ref a, .int (iI moved), .int (iI off)].toArray below meth c H locs 0 0 Q (F0 m 0 ls []) by rw [hH, hlocs] at hgo; exact hgo
  have hl : lv_has ls 6 [(0, .ref (ad 7)), (1, .ref a), (2, .int (iI moved)), (3, .int (iI off))] := hl
  obtain ⟨arr, g, hG0⟩ := hX0.g
  have e20 : u 20 = v 20 := hu0 20 (Or.inr (by decide))
  have e21 : u 21 = v 21 := hu0 21 (Or.inr (by decide))
  have e22 : u 22 = v 22 := hu0 22 (Or.inr (by decide))
  have e23 : u 23 = v 23 := hu0 23 (Or.inr (by decide))
  obtain ⟨hu20, hu21, hu22, hu23, hup⟩ := id hu
  refine lv_aload_n hx hb dX5_cutAllMoved_0 rfl (lv_at hl 0 rfl) ?_
  refine lv_aload_n hx hb dX5_cutAllMoved_1 rfl (lv_at hl 1 rfl) ?_
  have hFc := va_free (wc := (sW cs ad swl sun sbo scw bo cu lo wh dps alk bof us bl lg)) hD hS hA [0, 1, 2, 3, 4, 5, 6] rfl
  refine va_callv (va_runV (As := [.ref a]) (rest := []) ⟨hx, hb, hml, hown, hts⟩ (c_X5_start l D cs ad H.size swl sun sbo scw bo cu lo wh dps alk bof us bl lg M a v hM) (cwV 1 hts (gV tb_513 tb_515 tbs_10 tb_4 tb_516) rfl rfl rfl (by decide +kernel) ⟨Nat.le_of_ble_eq_true rfl, Nat.le_of_ble_eq_true rfl⟩) (preV_M (X := fun U H => PlanAt D cs M H a v) Stb_H hK (va_recv hK hP (ci := 4) (q0 := 0) rfl rfl) hP hD (PlanAt.inS hX0 (fun q z => hM q (Mw_sW q z)) hAe hS)) rfl rfl hl.1 rfl (lv_room (Nat.le_of_ble_eq_true rfl)) dX5_cutAllMoved_2 ⟨Nat.le_of_ble_eq_true rfl, Nat.le_of_ble_eq_true rfl⟩) hS (fun q _ h => hFc q h) hFc (fun u9 t9 H9 locs ht9 hvm9 hw9 hB9 hz9 hk9 hS => ?_)
  obtain ⟨alk2_2, hf2_0, hP1, hD1⟩ := hB9
  rw [ht9] at hP1
  have hP := hP1
  have hD := hD1.weaken (fun _ _ _ h => hFc _ h)
  generalize H9 = H at hP hS hz9 hk9 ht9 ⊢
  have hP : va_P D classes (sW cs ad 0 (v 21) (v 22) (v 23) 0 0 0 0 dps alk2_2 bof us bl lg) H := hP
  have hD : va_D A (sW cs ad 0 (v 21) (v 22) (v 23) 0 0 0 0 dps alk2_2 bof us bl lg) := hD
  rw [← e21, ← e22, ← e23] at hP hD
  refine rv_iconst hx hb dX5_cutAllMoved_5 ?_
  refine lv_istore (lv' := [(4, .int (iI 0)), (0, .ref (ad 7)), (1, .ref a), (2, .int (iI moved)), (3, .int (iI off))]) hx hb dX5_cutAllMoved_6 hl (by decide) rfl (fun ls hl => ?_)
  have loop8 : ∀ (fuel8 : Nat) (q : Nat) (SW : Int) (DP : Nat → Int) (AL : Nat → Int), ((q : Int) ≤ v 20) → (GI u SW DP AL (40 * q)) → (v 20 - (q : Int)).toNat < fuel8 → ∀ (x4 : Int), x4 = (q : Int) → ∀ (H : Heap) (locs : List Loc), va_P D classes (sW cs ad SW (u 21) (u 22) (u 23) 0 0 0 0 DP AL bof us bl lg) H → va_D A (sW cs ad SW (u 21) (u 22) (u 23) 0 0 0 0 DP AL bof us bl lg) → va_S A s.heap H locs → ∀ ls : Array Slot, lv_has ls 6 [(0, .ref (ad 7)), (1, .ref a), (2, .int (iI moved)), (3, .int (iI off)), (4, .int (iI x4))] → W pg l ev rm_X5_cutAllMoved s m [.ref (ad 7), .ref a, .int (iI moved), .int (iI off)].toArray below meth c H locs 0 0 Q (F0 m 8 ls []) := by
    intro fuel8
    induction fuel8 with
    | zero => intro q SW DP AL hq hGi hfuel8; exact absurd hfuel8 (Nat.not_lt_zero _)
    | succ fuel8 ih8 =>
      intro q SW DP AL hq hGi hfuel8 x4 ex4 H locs hP hD hS ls hl
      subst ex4
      refine lv_iload hx hb dX5_cutAllMoved_8 (lv_at hl 4 rfl) ?_
      have hGG := hG0.inS (fun q z => hM q (Mw_sW q z)) hAe hS
      obtain ⟨hvL, hPl, hna, hnr, hgy⟩ := id hGG
      refine lv_aload_n hx hb dX5_cutAllMoved_10 rfl (lv_at hl 1 rfl) ?_
      refine va_get (D := D) (ci := 2) (v := .ref arr) (C := RX3) (T := TX3) (N := 4) hx hb ht inTB_X3 hown hK hPl 0 rfl rfl 0 (by decide) (ht _ tb_179) (fun _ h9 => h9) rfl dX5_cutAllMoved_11 ?_
      refine rv_alen hx hb hK hPl 1 2 rfl rfl dX5_cutAllMoved_14 ?_
      refine rv_icmp_ge (tgt := 58) hx hb dX5_cutAllMoved_15 (by decide) (by omega) (fun h15 => ?_) (fun h15 => ?_)
      · refine rv_bipush hx hb dX5_cutAllMoved_58 (by decide) ?_
        refine lv_istore (lv' := [(4, .int (iI 30)), (0, .ref (ad 7)), (1, .ref a), (2, .int (iI moved)), (3, .int (iI off))]) hx hb dX5_cutAllMoved_60 hl (by decide) rfl (fun ls hl => ?_)
        have hG2 : GI u SW DP AL 160 := GI_all (by omega) (by omega) hGi
        have loop62 : ∀ (fuel62 : Nat) (j : Nat) (B1 : Int) (C1 : Int) (W1 : Int) (U1 : Nat → Int) (L1 : Nat → Int) (G1 : Nat → Int) (F1 : Nat → Int) (LO : Int), (j ≤ 30) → ((((B1, C1, W1), U1, L1, G1, F1) : CS) = lvC u ((0, 0, 0), us, bl, lg, bof) j) → (LO = lvL u j) → (30 - j) < fuel62 → ∀ (x4 : Int), x4 = (30 - (j : Int)) → ∀ (H : Heap) (locs : List Loc), va_P D classes (sW cs ad SW (u 21) (u 22) (u 23) B1 C1 LO W1 DP AL F1 U1 L1 G1) H → va_D A (sW cs ad SW (u 21) (u 22) (u 23) B1 C1 LO W1 DP AL F1 U1 L1 G1) → va_S A s.heap H locs → ∀ ls : Array Slot, lv_has ls 6 [(0, .ref (ad 7)), (1, .ref a), (2, .int (iI moved)), (3, .int (iI off)), (4, .int (iI x4))] → W pg l ev rm_X5_cutAllMoved s m [.ref (ad 7), .ref a, .int (iI moved), .int (iI off)].toArray below meth c H locs 0 0 Q (F0 m 62 ls []) := by
          intro fuel62
          induction fuel62 with
          | zero => intro j B1 C1 W1 U1 L1 G1 F1 LO hj hq2 hlo hfuel62; exact absurd hfuel62 (Nat.not_lt_zero _)
          | succ fuel62 ih62 =>
            intro j B1 C1 W1 U1 L1 G1 F1 LO hj hq2 hlo hfuel62 x4 ex4 H locs hP hD hS ls hl
            subst ex4
            have hk1 : okC ((B1, C1, W1), U1, L1, G1, F1) := by rw [hq2]; exact okC_lvC hu (okC_0 _ _ _ _) j hj
            have hmu0 : 0 ≤ (30 - (j : Int)) * u 21 := Int.mul_nonneg (by omega) (by omega)
            have hmu1 : (30 - (j : Int)) * u 21 ≤ 30 * 20 := Int.mul_le_mul (by omega) (by omega) (by omega) (by decide)
            have hcle : C1 + (cnt u (30 - (j : Int)) 160 : Int) ≤ 160 := by have h1 := cu_le u ((0, 0, 0), us, bl, lg, bof) j; have h2 := cntG_step u (30 - (j : Int)) 160; have h3 := cntG_le u (30 - (j : Int) - 1) 160; rw [← hq2] at h1; have h1 : C1 ≤ 0 + (cntG u (30 - (j : Int)) 160 : Int) := h1; omega
            refine lv_iload hx hb dX5_cutAllMoved_62 (lv_at hl 4 rfl) ?_
            refine rv_if_le (tgt := 124) hx hb dX5_cutAllMoved_64 (by decide) (by omega) (fun h64 => ?_) (fun h64 => ?_)
            · subst hQ
              exact W.vret hx hb hr (fun t9 ht9 hW9 => ⟨⟨(), rfl, trivial, ⟨SW, (u 21), (u 22), (u 23), B1, C1, LO, W1, DP, AL, F1, U1, L1, G1, by obtain ⟨c1, c2, c3⟩ := cutEnd hu (show (((B1, C1, W1), U1, L1, G1, F1) : CS) = lvC u ((0, 0, 0), us, bl, lg, bof) 30 by rw [hq2, show j = 30 by omega]); exact ⟨hu, rfl, rfl, rfl, congrArg (fun z => z.1) c1, congrArg (fun z => z.2.1) c1, congrArg (fun z => z.2.2) c1, (by rw [hlo, show j = 30 by omega]), c2, c3, hG2⟩, by rw [ht9]; exact hP, by rw [hAe]; exact hD⟩⟩, by rw [hAe]; exact hS.F ht9⟩) (by rw [hAe]; exact hS.2.2) dX5_cutAllMoved_124
            · have hal : AL (30 - j) = (cnt u (30 - (j : Int)) 160 : Int) := by have hz := hG2.2.1 (30 - j) (by omega) (by omega); rw [show ((30 - j : Nat) : Int) = 30 - (j : Int) by omega] at hz; exact hz
              refine lv_iload hx hb dX5_cutAllMoved_67 (lv_at hl 4 rfl) ?_
              refine lv_aload_n hx hb dX5_cutAllMoved_69 rfl (lv_at hl 0 rfl) ?_
              refine va_get (D := D) (ci := 4) (v := .int (iI (u 21))) (C := RX5) (T := TX5) (N := 14) hx hb ht inTB_X5 hown hK hP 0 rfl rfl 7 (by decide) (ht _ tb_86) (fun _ h9 => h9) rfl dX5_cutAllMoved_70 ?_
              refine rv_imul hx hb dX5_cutAllMoved_73 ?_
              refine lv_aload_n hx hb dX5_cutAllMoved_74 rfl (lv_at hl 0 rfl) ?_
              refine va_get (D := D) (ci := 4) (v := .int (iI (u 22))) (C := RX5) (T := TX5) (N := 14) hx hb ht inTB_X5 hown hK hP 0 rfl rfl 8 (by decide) (ht _ tb_87) (fun _ h9 => h9) rfl dX5_cutAllMoved_75 ?_
              refine rv_icmp_le (tgt := 100) hx hb dX5_cutAllMoved_78 (by decide) (by omega) (fun h78 => ?_) (fun h78 => ?_)
              · refine lv_aload_n hx hb dX5_cutAllMoved_100 rfl (lv_at hl 0 rfl) ?_
                refine lv_iload hx hb dX5_cutAllMoved_101 (lv_at hl 4 rfl) ?_
                refine lv_aload_n hx hb dX5_cutAllMoved_103 rfl (lv_at hl 0 rfl) ?_
                refine va_get (D := D) (ci := 4) (v := .int (iI (u 21))) (C := RX5) (T := TX5) (N := 14) hx hb ht inTB_X5 hown hK hP 0 rfl rfl 7 (by decide) (ht _ tb_86) (fun _ h9 => h9) rfl dX5_cutAllMoved_104 ?_
                refine rv_imul hx hb dX5_cutAllMoved_107 ?_
                refine lv_aload_n hx hb dX5_cutAllMoved_108 rfl (lv_at hl 0 rfl) ?_
                refine va_get (D := D) (ci := 4) (v := .ref (ad 9)) (C := RX5) (T := TX5) (N := 14) hx hb ht inTB_X5 hown hK hP 0 rfl rfl 1 (by decide) (ht _ tb_78) (fun _ h9 => h9) rfl dX5_cutAllMoved_109 ?_
                refine lv_iload hx hb dX5_cutAllMoved_112 (lv_at hl 4 rfl) ?_
                refine rv_iald hx hb hK hP 2 0 rfl rfl (30 - j) (by omega) (by omega) dX5_cutAllMoved_114 ?_
                refine rv_top (y := (cnt u (30 - (j : Int)) 160 : Int)) hal ?_
                have hFc := va_free (wc := (sW cs ad SW (u 21) (u 22) (u 23) B1 C1 LO W1 DP AL F1 U1 L1 G1)) hD hS hA [0, 1, 2, 3, 4, 5, 6] rfl
                refine va_callv (va_runV (As := [.int (iI ((30 - (j : Int)) * (u 21))), .int (iI (cnt u (30 - (j : Int)) 160 : Int))]) (rest := []) ⟨hx, hb, hml, hown, hts⟩ (c_X5_cutAlike l D cs ad H.size SW (u 21) (u 22) (u 23) B1 C1 LO W1 DP AL F1 U1 L1 G1 ((30 - (j : Int)) * (u 21)) (cnt u (30 - (j : Int)) 160 : Int) hk1 (by omega) (by omega) (by omega)) (cwV 2 hts (gV tb_524 tb_526 tbs_12 tb_4 tb_527) rfl rfl rfl (by decide +kernel) ⟨Nat.le_of_ble_eq_true rfl, Nat.le_of_ble_eq_true rfl⟩) (preV_M (X := fun _ _ => True) Stb_T hK (va_recv hK hP (ci := 4) (q0 := 0) rfl rfl) hP hD trivial) rfl rfl hl.1 rfl (lv_room (Nat.le_of_ble_eq_true rfl)) dX5_cutAllMoved_115 ⟨Nat.le_of_ble_eq_true rfl, Nat.le_of_ble_eq_true rfl⟩) hS (fun q _ h => hFc q h) hFc (fun u9 t9 H9 locs ht9 hvm9 hw9 hB9 hz9 hk9 hS => ?_)
                obtain ⟨bo2_115, cu2_115, wh2_115, us2_115, bl2_115, lg2_115, bof2_115, hf115_0, hP1, hD1⟩ := hB9
                rw [ht9] at hP1
                have hP := hP1
                have hD := hD1.weaken (fun _ _ _ h => hFc _ h)
                generalize H9 = H at hP hS hz9 hk9 ht9 ⊢
                have hP : va_P D classes (sW cs ad SW (u 21) (u 22) (u 23) bo2_115 cu2_115 LO wh2_115 DP AL bof2_115 us2_115 bl2_115 lg2_115) H := hP
                have hD : va_D A (sW cs ad SW (u 21) (u 22) (u 23) bo2_115 cu2_115 LO wh2_115 DP AL bof2_115 us2_115 bl2_115 lg2_115) := hD
                refine rv_iinc (k := 4) (lv' := [(4, .int (iI ((30 - (j : Int)) + (-1)))), (0, .ref (ad 7)), (1, .ref a), (2, .int (iI moved)), (3, .int (iI off))]) hx hb dX5_cutAllMoved_118 hl rfl (by decide) rfl (fun ls hl => ?_)
                refine lv_goto (tgt := 62) hx hb dX5_cutAllMoved_121 (by decide) ?_
                exact ih62 (j + 1) bo2_115 cu2_115 wh2_115 us2_115 bl2_115 lg2_115 bof2_115 LO (by omega) (by first | (rw [lvC, cF_pos (by omega)]; exact hq2) | (rw [lvC, cF_neg (by omega), ← hq2]; exact hf115_0)) (by rw [lvL]; first | (rw [cif_pos (by omega), hlo]) | (rw [cif_neg (by omega), hlo]; omega)) (by omega) _ (by omega) H locs hP hD hS ls (lv_sub hl [1, 2, 3, 4, 0] rfl)
              · refine lv_aload_n hx hb dX5_cutAllMoved_81 rfl (lv_at hl 0 rfl) ?_
                refine lv_dup hx hb dX5_cutAllMoved_82 rfl ?_
                refine va_get (D := D) (ci := 4) (v := .int (iI LO)) (C := RX5) (T := TX5) (N := 14) hx hb ht inTB_X5 hown hK hP 0 rfl rfl 12 (by decide) (ht _ tb_93) (fun _ h9 => h9) rfl dX5_cutAllMoved_83 ?_
                refine lv_aload_n hx hb dX5_cutAllMoved_86 rfl (lv_at hl 0 rfl) ?_
                refine va_get (D := D) (ci := 4) (v := .ref (ad 9)) (C := RX5) (T := TX5) (N := 14) hx hb ht inTB_X5 hown hK hP 0 rfl rfl 1 (by decide) (ht _ tb_78) (fun _ h9 => h9) rfl dX5_cutAllMoved_87 ?_
                refine lv_iload hx hb dX5_cutAllMoved_90 (lv_at hl 4 rfl) ?_
                refine rv_iald hx hb hK hP 2 0 rfl rfl (30 - j) (by omega) (by omega) dX5_cutAllMoved_92 ?_
                refine rv_top (y := (cnt u (30 - (j : Int)) 160 : Int)) hal ?_
                refine rv_iadd hx hb dX5_cutAllMoved_93 ?_
                refine va_put (D := D) (ci := 4) (v := .int (iI (LO + (cnt u (30 - (j : Int)) 160 : Int)))) (ty := tyX5 12) (C := RX5) (T := TX5) (N := 14) hx hb ht inTB_X5 tyX5 tyX5_ok nmX5 hown hK hP hD hS 0 rfl rfl 12 (by decide) (ht _ tb_93) (fun _ h9 => h9) rfl (tyX5_ok 12 (by decide)) rfl rfl (Nat.le_of_ble_eq_true rfl) dX5_cutAllMoved_94 (fun H locs hP hD hS => ?_)
                have hP : va_P D classes (sW cs ad SW (u 21) (u 22) (u 23) B1 C1 (LO + (cnt u (30 - (j : Int)) 160 : Int)) W1 DP AL F1 U1 L1 G1) H := hP
                have hD : va_D A (sW cs ad SW (u 21) (u 22) (u 23) B1 C1 (LO + (cnt u (30 - (j : Int)) 160 : Int)) W1 DP AL F1 U1 L1 G1) := hD
                refine lv_goto (tgt := 118) hx hb dX5_cutAllMoved_97 (by decide) ?_
                refine rv_iinc (k := 4) (lv' := [(4, .int (iI ((30 - (j : Int)) + (-1)))), (0, .ref (ad 7)), (1, .ref a), (2, .int (iI moved)), (3, .int (iI off))]) hx hb dX5_cutAllMoved_118 hl rfl (by decide) rfl (fun ls hl => ?_)
                refine lv_goto (tgt := 62) hx hb dX5_cutAllMoved_121 (by decide) ?_
                exact ih62 (j + 1) B1 C1 W1 U1 L1 G1 F1 (LO + (cnt u (30 - (j : Int)) 160 : Int)) (by omega) (by first | (rw [lvC, cF_pos (by omega)]; exact hq2) | (rw [lvC, cF_neg (by omega), ← hq2]; exact hf115_0)) (by rw [lvL]; first | (rw [cif_pos (by omega), hlo]) | (rw [cif_neg (by omega), hlo]; omega)) (by omega) _ (by omega) H locs hP hD hS ls (lv_sub hl [1, 2, 3, 4, 0] rfl)
        exact loop62 (_ + 1) 0 0 0 0 us bl lg bof 0 (by omega) rfl rfl (Nat.lt_succ_self _) _ rfl H locs hP hD hS ls (lv_sub hl [1, 2, 3, 4, 0] rfl)
      · refine lv_aload_n hx hb dX5_cutAllMoved_18 rfl (lv_at hl 1 rfl) ?_
        refine lv_iload hx hb dX5_cutAllMoved_19 (lv_at hl 4 rfl) ?_
        refine va_csq (W.runV (As := [.int (iI (q : Int))]) (rest := []) ⟨hx, hb, hml, hown, hts⟩ (c_X3_panelAt l D cs a arr ((v 20).toNat) g (v 21) (v 22) (v 23) (q : Int) (by omega) (by omega)) (cwV 1 hts (gV tb_518 tb_315 tb_316 tb_7 tb_317) rfl rfl rfl (by decide +kernel) ⟨Nat.le_of_ble_eq_true rfl, Nat.le_of_ble_eq_true rfl⟩) (preV_pi hK hGG.pin) rfl rfl hl.1 rfl (lv_room (Nat.le_of_ble_eq_true rfl)) dX5_cutAllMoved_21 ⟨Nat.le_of_ble_eq_true rfl, Nat.le_of_ble_eq_true rfl⟩) (fun r9 hr9 => ?_)
        subst hr9
        have hq21 : 0 ≤ (q : Int) ∧ (q : Int) < ((((v 20).toNat) : Nat) : Int) := (by omega)
        obtain ⟨y21, hy21, hpan21⟩ := (show ∃ y, g ((q : Int)).toNat = some y ∧ PanelAt D cs M H y (v (5 * q)) (v (5 * q + 1)) (v (5 * q + 2)) (v (5 * q + 3)) (v (5 * q + 4)) from hgy q (by omega))
        rw [cF_pos hq21, hy21]
        refine W.eq (g2 := F0 m 24 ls [.ref y21]) rfl ?_
        obtain ⟨_, rq, rowq, hPq, _, _, _⟩ := id hpan21
        refine lv_astore (lv' := [(5, .ref y21), (0, .ref (ad 7)), (1, .ref a), (2, .int (iI moved)), (3, .int (iI off)), (4, .int (iI (q : Int)))]) hx hb dX5_cutAllMoved_24 hl (by decide) rfl (fun ls hl => ?_)
        refine lv_aload hx hb dX5_cutAllMoved_26 (lv_at hl 0 rfl) ?_
        refine lv_ifnull hx hb dX5_cutAllMoved_28 ?_
        refine lv_aload_n hx hb dX5_cutAllMoved_31 rfl (lv_at hl 1 rfl) ?_
        refine lv_aload hx hb dX5_cutAllMoved_32 (lv_at hl 0 rfl) ?_
        refine lv_iload hx hb dX5_cutAllMoved_34 (lv_at hl 5 rfl) ?_
        refine lv_iload_n hx hb dX5_cutAllMoved_36 rfl (lv_at hl 3 rfl) ?_
        refine rv_icmp_ne (tgt := 44) hx hb dX5_cutAllMoved_37 (by decide) (by omega) (fun h37 => ?_) (fun h37 => ?_)
        · refine lv_aload hx hb dX5_cutAllMoved_44 (lv_at hl 0 rfl) ?_
          refine va_get (D := D) (ci := 0) (v := .int (iI (v (5 * q + 3)))) (C := RX1) (T := TX1) (N := 7) hx hb ht inTB_X1 hown hK hPq 0 rfl rfl 3 (by decide) (ht _ tb_148) (fun _ h9 => h9) rfl dX5_cutAllMoved_46 ?_
          have hFc := va_free (wc := (sW cs ad SW (u 21) (u 22) (u 23) 0 0 0 0 DP AL bof us bl lg)) hD hS hA [0, 1, 2, 3, 4, 5, 6] rfl
          refine va_callv (va_runV (As := [.ref y21, .int (iI (v (5 * q + 3)))]) (rest := []) ⟨hx, hb, hml, hown, hts⟩ (c_X5_gather l D cs ad H.size SW (u 21) (u 22) (u 23) 0 0 0 0 DP AL bof us bl lg M y21 (v (5 * q + 3)) (v (5 * q + 3)) u q hM hu (by omega) hGi (by rw [hu3 q (by omega)]; first | rw [cif_pos (by omega)] | rw [cif_neg (by omega)])) (cwV 2 hts (gV tb_519 tb_521 tbs_11 tb_4 tb_522) rfl rfl rfl (by decide +kernel) ⟨Nat.le_of_ble_eq_true rfl, Nat.le_of_ble_eq_true rfl⟩) (preV_M (X := fun U H => PanelAt D cs M H y21 (u (5 * q)) (u (5 * q + 1)) (u (5 * q + 2)) (v (5 * q + 3)) (u (5 * q + 4))) Stb_H hK (va_recv hK hP (ci := 4) (q0 := 0) rfl rfl) hP hD (by rw [hu0 (5 * q) (Or.inl (by omega)), hu0 (5 * q + 1) (Or.inl (by omega)), hu0 (5 * q + 2) (Or.inl (by omega)), hu0 (5 * q + 4) (Or.inl (by omega))]; exact hpan21)) rfl rfl hl.1 rfl (lv_room (Nat.le_of_ble_eq_true rfl)) dX5_cutAllMoved_49 ⟨Nat.le_of_ble_eq_true rfl, Nat.le_of_ble_eq_true rfl⟩) hS (fun q _ h => hFc q h) hFc (fun u9 t9 H9 locs ht9 hvm9 hw9 hB9 hz9 hk9 hS => ?_)
          obtain ⟨swl2_49, dps2_49, alk2_49, hf49_0, hP1, hD1⟩ := hB9
          rw [ht9] at hP1
          have hP := hP1
          have hD := hD1.weaken (fun _ _ _ h => hFc _ h)
          generalize H9 = H at hP hS hz9 hk9 ht9 ⊢
          have hP : va_P D classes (sW cs ad swl2_49 (u 21) (u 22) (u 23) 0 0 0 0 dps2_49 alk2_49 bof us bl lg) H := hP
          have hD : va_D A (sW cs ad swl2_49 (u 21) (u 22) (u 23) 0 0 0 0 dps2_49 alk2_49 bof us bl lg) := hD
          refine rv_iinc (k := 5) (lv' := [(4, .int (iI ((q : Int) + 1))), (5, .ref y21), (0, .ref (ad 7)), (1, .ref a), (2, .int (iI moved)), (3, .int (iI off))]) hx hb dX5_cutAllMoved_52 hl rfl (by decide) rfl (fun ls hl => ?_)
          refine lv_goto (tgt := 8) hx hb dX5_cutAllMoved_55 (by decide) ?_
          exact ih8 (q + 1) swl2_49 dps2_49 alk2_49 (by omega) hf49_0 (by omega) _ (by omega) H locs hP hD hS ls (lv_sub hl [2, 3, 4, 5, 0] rfl)
        · refine lv_iload_n hx hb dX5_cutAllMoved_40 rfl (lv_at hl 4 rfl) ?_
          refine lv_goto (tgt := 49) hx hb dX5_cutAllMoved_41 (by decide) ?_
          have hFc := va_free (wc := (sW cs ad SW (u 21) (u 22) (u 23) 0 0 0 0 DP AL bof us bl lg)) hD hS hA [0, 1, 2, 3, 4, 5, 6] rfl
          refine va_callv (va_runV (As := [.ref y21, .int (iI off)]) (rest := []) ⟨hx, hb, hml, hown, hts⟩ (c_X5_gather l D cs ad H.size SW (u 21) (u 22) (u 23) 0 0 0 0 DP AL bof us bl lg M y21 off (v (5 * q + 3)) u q hM hu (by omega) hGi (by rw [hu3 q (by omega)]; first | rw [cif_pos (by omega)] | rw [cif_neg (by omega)])) (cwV 2 hts (gV tb_519 tb_521 tbs_11 tb_4 tb_522) rfl rfl rfl (by decide +kernel) ⟨Nat.le_of_ble_eq_true rfl, Nat.le_of_ble_eq_true rfl⟩) (preV_M (X := fun U H => PanelAt D cs M H y21 (u (5 * q)) (u (5 * q + 1)) (u (5 * q + 2)) (v (5 * q + 3)) (u (5 * q + 4))) Stb_H hK (va_recv hK hP (ci := 4) (q0 := 0) rfl rfl) hP hD (by rw [hu0 (5 * q) (Or.inl (by omega)), hu0 (5 * q + 1) (Or.inl (by omega)), hu0 (5 * q + 2) (Or.inl (by omega)), hu0 (5 * q + 4) (Or.inl (by omega))]; exact hpan21)) rfl rfl hl.1 rfl (lv_room (Nat.le_of_ble_eq_true rfl)) dX5_cutAllMoved_49 ⟨Nat.le_of_ble_eq_true rfl, Nat.le_of_ble_eq_true rfl⟩) hS (fun q _ h => hFc q h) hFc (fun u9 t9 H9 locs ht9 hvm9 hw9 hB9 hz9 hk9 hS => ?_)
          obtain ⟨swl2_49, dps2_49, alk2_49, hf49_0, hP1, hD1⟩ := hB9
          rw [ht9] at hP1
          have hP := hP1
          have hD := hD1.weaken (fun _ _ _ h => hFc _ h)
          generalize H9 = H at hP hS hz9 hk9 ht9 ⊢
          have hP : va_P D classes (sW cs ad swl2_49 (u 21) (u 22) (u 23) 0 0 0 0 dps2_49 alk2_49 bof us bl lg) H := hP
          have hD : va_D A (sW cs ad swl2_49 (u 21) (u 22) (u 23) 0 0 0 0 dps2_49 alk2_49 bof us bl lg) := hD
          refine rv_iinc (k := 5) (lv' := [(4, .int (iI ((q : Int) + 1))), (5, .ref y21), (0, .ref (ad 7)), (1, .ref a), (2, .int (iI moved)), (3, .int (iI off))]) hx hb dX5_cutAllMoved_52 hl rfl (by decide) rfl (fun ls hl => ?_)
          refine lv_goto (tgt := 8) hx hb dX5_cutAllMoved_55 (by decide) ?_
          exact ih8 (q + 1) swl2_49 dps2_49 alk2_49 (by omega) hf49_0 (by omega) _ (by omega) H locs hP hD hS ls (lv_sub hl [2, 3, 4, 5, 0] rfl)
  exact loop8 (_ + 1) 0 0 dps alk2_2 (by omega) (GI_0 hf2_0) (Nat.lt_succ_self _) _ rfl H locs hP hD hS ls (lv_sub hl [1, 2, 3, 4, 0] rfl)

abbrev rm_X5_cutAll : Room := { frames := 4, cells := 0, slots := 0, locals := 93 }
set_option maxHeartbeats 8000000 in
set_option maxRecDepth 100000 in
/-- cutAll -/
theorem c_X5_cutAll (l : Launch) (D : va_G) (cs : Nat → ClassId) (ad : Nat → Nat) (sz : Nat) (swl : Int) (sun : Int) (sbo : Int) (scw : Int) (bo : Int) (cu : Int) (lo : Int) (wh : Int) (dps : Nat → Int) (alk : Nat → Int) (bof : Nat → Int) (us : Nat → Int) (bl : Nat → Int) (lg : Nat → Int) (M : Nat → Prop) (a : Nat) (v : Nat → Int) (hM : ∀ q, inAd ad 7 14 q → M q) (hvL : vL v) : Met l yX5_cutAll (Cond.code yX5_cutAll cX5_cutAll 2 none :: TB) rm_X5_cutAll (va_Pc [.ref (ad 7), .ref a] (MPre D cs sz (sW cs ad swl sun sbo scw bo cu lo wh dps alk bof us bl lg) (fun U H => PlanAt D cs M H a v))) (va_Qv (fun _ : Unit => True) (fun _ t => ∃ (swl2 : Int) (sun2 : Int) (sbo2 : Int) (scw2 : Int) (bo2 : Int) (cu2 : Int) (lo2 : Int) (wh2 : Int) (dps2 : Nat → Int) (alk2 : Nat → Int) (bof2 : Nat → Int) (us2 : Nat → Int) (bl2 : Nat → Int) (lg2 : Nat → Int), (SawOK v swl2 sun2 sbo2 scw2 bo2 cu2 lo2 wh2 dps2 alk2 bof2 us2 bl2 lg2) ∧ va_P D classes (sW cs ad swl2 sun2 sbo2 scw2 bo2 cu2 lo2 wh2 dps2 alk2 bof2 us2 bl2 lg2) t.heap ∧ va_D (va_A (sW cs ad swl sun sbo scw bo cu lo wh dps alk bof us bl lg) sz) (sW cs ad swl2 sun2 sbo2 scw2 bo2 cu2 lo2 wh2 dps2 alk2 bof2 us2 bl2 lg2)) (va_A (sW cs ad swl sun sbo scw bo cu lo wh dps alk bof us bl lg) sz)) 0 0 (va_A (sW cs ad swl sun sbo scw bo cu lo wh dps alk bof us bl lg) sz) := by
  refine enter (cc := cX5_cutAll) (maxL := 2) (ret := none) (by decide) (Nat.le_of_ble_eq_true rfl) ?_
  intro pg ev s m below meth c Q ls hx hb hml hown hts hr hlocks hnm ⟨hsz, hP, hD0, hK, hX0⟩ hl hQ
  have ht : ∀ w ∈ TB, w.before _ s = true := fun w h => hts w (List.mem_cons_of_mem _ h)
  subst hsz
  have hD := hD0.self (sz := s.heap.size)
  obtain ⟨A, hAe⟩ : ∃ A, va_A (sW cs ad swl sun sbo scw bo cu lo wh dps alk bof us bl lg) s.heap.size = A := ⟨_, rfl⟩
  rw [hAe] at hD
  have hA : ∀ q : Nat, s.heap.size ≤ q → A q := fun q h => by rw [← hAe]; exact Or.inr h
  obtain ⟨H, hH⟩ : ∃ H, H = s.heap := ⟨_, rfl⟩
  obtain ⟨locs, hlocs⟩ : ∃ locs : List Loc, locs = [] := ⟨_, rfl⟩
  have hS : va_S A s.heap H locs := by rw [hH, hlocs]; exact va_S.rf
  rw [← hH] at hP
  suffices hgo : W pg l ev rm_X5_cutAll s m [.ref (ad 7), .ref a].toArray below meth c H locs 0 0 Q (F0 m 0 ls []) by rw [hH, hlocs] at hgo; exact hgo
  have hl : lv_has ls 2 [(0, .ref (ad 7)), (1, .ref a)] := hl
  refine lv_aload_n hx hb dX5_cutAll_0 rfl (lv_at hl 0 rfl) ?_
  refine lv_aload_n hx hb dX5_cutAll_1 rfl (lv_at hl 1 rfl) ?_
  refine rv_bipush hx hb dX5_cutAll_2 (by decide) ?_
  refine rv_iconst hx hb dX5_cutAll_4 ?_
  have hFc := va_free (wc := (sW cs ad swl sun sbo scw bo cu lo wh dps alk bof us bl lg)) hD hS hA [0, 1, 2, 3, 4, 5, 6] rfl
  refine va_callv (va_runV (As := [.ref a, .int (iI (-4)), .int (iI 0)]) (rest := []) ⟨hx, hb, hml, hown, hts⟩ (c_X5_cutAllMoved l D cs ad H.size swl sun sbo scw bo cu lo wh dps alk bof us bl lg M a v (-4) 0 v hM (by decide) hvL (fun _ _ => rfl) (fun q _ => by rw [cif_neg (by omega)])) (cwV 3 hts (gV tb_509 tb_510 tb_511 tb_4 tb_512) rfl rfl rfl (by decide +kernel) ⟨Nat.le_of_ble_eq_true rfl, Nat.le_of_ble_eq_true rfl⟩) (preV_M (X := fun U H => PlanAt D cs M H a v) Stb_H hK (va_recv hK hP (ci := 4) (q0 := 0) rfl rfl) hP hD (PlanAt.inS hX0 (fun q z => hM q (Mw_sW q z)) hAe hS)) rfl rfl hl.1 rfl (lv_room (Nat.le_of_ble_eq_true rfl)) dX5_cutAll_5 ⟨Nat.le_of_ble_eq_true rfl, Nat.le_of_ble_eq_true rfl⟩) hS (fun q _ h => hFc q h) hFc (fun u9 t9 H9 locs ht9 hvm9 hw9 hB9 hz9 hk9 hS => ?_)
  obtain ⟨swl2_5, sun2_5, sbo2_5, scw2_5, bo2_5, cu2_5, lo2_5, wh2_5, dps2_5, alk2_5, bof2_5, us2_5, bl2_5, lg2_5, hf5_0, hP1, hD1⟩ := hB9
  rw [ht9] at hP1
  have hP := hP1
  have hD := hD1.weaken (fun _ _ _ h => hFc _ h)
  generalize H9 = H at hP hS hz9 hk9 ht9 ⊢
  have hP : va_P D classes (sW cs ad swl2_5 sun2_5 sbo2_5 scw2_5 bo2_5 cu2_5 lo2_5 wh2_5 dps2_5 alk2_5 bof2_5 us2_5 bl2_5 lg2_5) H := hP
  have hD : va_D A (sW cs ad swl2_5 sun2_5 sbo2_5 scw2_5 bo2_5 cu2_5 lo2_5 wh2_5 dps2_5 alk2_5 bof2_5 us2_5 bl2_5 lg2_5) := hD
  subst hQ
  exact W.vret hx hb hr (fun t9 ht9 hW9 => ⟨⟨(), rfl, trivial, ⟨swl2_5, sun2_5, sbo2_5, scw2_5, bo2_5, cu2_5, lo2_5, wh2_5, dps2_5, alk2_5, bof2_5, us2_5, bl2_5, lg2_5, hf5_0, by rw [ht9]; exact hP, by rw [hAe]; exact hD⟩⟩, by rw [hAe]; exact hS.F ht9⟩) (by rw [hAe]; exact hS.2.2) dX5_cutAll_8

abbrev rm_X5_leftOf : Room := { frames := 0, cells := 0, slots := 0, locals := 0 }
set_option maxHeartbeats 4000000 in
set_option maxRecDepth 100000 in
/-- leftOf -/
theorem c_X5_leftOf (l : Launch) (D : va_G) (cs : Nat → ClassId) (ad : Nat → Nat) (swl : Int) (sun : Int) (sbo : Int) (scw : Int) (bo : Int) (cu : Int) (lo : Int) (wh : Int) (dps : Nat → Int) (alk : Nat → Int) (bof : Nat → Int) (us : Nat → Int) (bl : Nat → Int) (lg : Nat → Int) (b : Int) (hb0 : -2147483648 ≤ b ∧ b < 2147483648) (hbo : 0 ≤ bo ∧ bo ≤ 160) : Met l yX5_leftOf (Cond.code yX5_leftOf cX5_leftOf 2 (some .int) :: TB) rm_X5_leftOf (va_Pc [.ref (ad 7), .int (iI b)] (fun U => KA D cs U ∧ va_P D classes (sW cs ad swl sun sbo scw bo cu lo wh dps alk bof us bl lg) U.heap)) (vp_Si (fun r => r = iI (cif (0 ≤ b ∧ b < bo) (sbo - us (b).toNat) 0))) 0 0 (fun _ => False) := by
  refine enter (cc := cX5_leftOf) (maxL := 2) (ret := (some .int)) (by decide) (Nat.le_of_ble_eq_true rfl) ?_
  intro pg ev s m below meth c Q ls hx hb hml hown hts hr hlocks hnm ⟨hK, hP⟩ hl hQ
  have ht : ∀ w ∈ TB, w.before _ s = true := fun w h => hts w (List.mem_cons_of_mem _ h)
  have hl : lv_has ls 2 [(0, .ref (ad 7)), (1, .int (iI b))] := hl
  refine lv_iload_n hx hb dX5_leftOf_0 rfl (lv_at hl 1 rfl) ?_
  refine rv_if_lt (tgt := 19) hx hb dX5_leftOf_1 (by decide) (by omega) (fun h1 => ?_) (fun h1 => ?_)
  · refine rv_iconst hx hb dX5_leftOf_19 ?_
    refine lv_goto (tgt := 34) hx hb dX5_leftOf_20 (by decide) ?_
    subst hQ
    exact W.iret hx hb hr (fun t9 ht9 hW9 => ⟨_, rfl, by rw [cif_neg (by omega)], ht9⟩) (fun _ h => absurd h List.not_mem_nil) dX5_leftOf_34
  · refine lv_iload_n hx hb dX5_leftOf_4 rfl (lv_at hl 1 rfl) ?_
    refine lv_aload_n hx hb dX5_leftOf_5 rfl (lv_at hl 0 rfl) ?_
    refine va_get (D := D) (ci := 4) (v := .int (iI bo)) (C := RX5) (T := TX5) (N := 14) hx hb ht inTB_X5 hown hK hP 0 rfl rfl 10 (by decide) (ht _ tb_89) (fun _ h9 => h9) rfl dX5_leftOf_6 ?_
    refine rv_icmp_ge (tgt := 19) hx hb dX5_leftOf_9 (by decide) (by omega) (fun h9 => ?_) (fun h9 => ?_)
    · refine rv_iconst hx hb dX5_leftOf_19 ?_
      refine lv_goto (tgt := 34) hx hb dX5_leftOf_20 (by decide) ?_
      subst hQ
      exact W.iret hx hb hr (fun t9 ht9 hW9 => ⟨_, rfl, by rw [cif_neg (by omega)], ht9⟩) (fun _ h => absurd h List.not_mem_nil) dX5_leftOf_34
    · refine lv_iload_n hx hb dX5_leftOf_12 rfl (lv_at hl 1 rfl) ?_
      refine rv_sipush hx hb dX5_leftOf_13 (by decide) ?_
      refine rv_icmp_lt (tgt := 23) hx hb dX5_leftOf_16 (by decide) (by omega) (fun h16 => ?_) (fun h16 => False.elim (by omega))
      refine lv_aload_n hx hb dX5_leftOf_23 rfl (lv_at hl 0 rfl) ?_
      refine va_get (D := D) (ci := 4) (v := .int (iI sbo)) (C := RX5) (T := TX5) (N := 14) hx hb ht inTB_X5 hown hK hP 0 rfl rfl 8 (by decide) (ht _ tb_87) (fun _ h9 => h9) rfl dX5_leftOf_24 ?_
      refine lv_aload_n hx hb dX5_leftOf_27 rfl (lv_at hl 0 rfl) ?_
      refine va_get (D := D) (ci := 4) (v := .ref (ad 11)) (C := RX5) (T := TX5) (N := 14) hx hb ht inTB_X5 hown hK hP 0 rfl rfl 3 (by decide) (ht _ tb_80) (fun _ h9 => h9) rfl dX5_leftOf_28 ?_
      refine lv_iload_n hx hb dX5_leftOf_31 rfl (lv_at hl 1 rfl) ?_
      refine rv_iald hx hb hK hP 4 0 rfl rfl b.toNat (by omega) (by omega) dX5_leftOf_32 ?_
      refine rv_isub hx hb dX5_leftOf_33 ?_
      subst hQ
      exact W.iret hx hb hr (fun t9 ht9 hW9 => ⟨_, rfl, by rw [cif_pos (by omega)], ht9⟩) (fun _ h => absurd h List.not_mem_nil) dX5_leftOf_34

abbrev rm_X5_leftOfLast : Room := { frames := 1, cells := 0, slots := 0, locals := 21 }
set_option maxHeartbeats 4000000 in
set_option maxRecDepth 100000 in
/-- leftOfLast -/
theorem c_X5_leftOfLast (l : Launch) (D : va_G) (cs : Nat → ClassId) (ad : Nat → Nat) (swl : Int) (sun : Int) (sbo : Int) (scw : Int) (bo : Int) (cu : Int) (lo : Int) (wh : Int) (dps : Nat → Int) (alk : Nat → Int) (bof : Nat → Int) (us : Nat → Int) (bl : Nat → Int) (lg : Nat → Int) (v : Nat → Int) (hs : SawOK v swl sun sbo scw bo cu lo wh dps alk bof us bl lg) : Met l yX5_leftOfLast (Cond.code yX5_leftOfLast cX5_leftOfLast 1 (some .int) :: TB) rm_X5_leftOfLast (va_Pc [.ref (ad 7)] (fun U => KA D cs U ∧ va_P D classes (sW cs ad swl sun sbo scw bo cu lo wh dps alk bof us bl lg) U.heap)) (vp_Si (fun r => r = iI (leftS v) ∧ (0 - 400 ≤ leftS v ∧ leftS v ≤ 400))) 0 0 (fun _ => False) := by
  refine enter (cc := cX5_leftOfLast) (maxL := 1) (ret := (some .int)) (by decide) (Nat.le_of_ble_eq_true rfl) ?_
  intro pg ev s m below meth c Q ls hx hb hml hown hts hr hlocks hnm ⟨hK, hP⟩ hl hQ
  have ht : ∀ w ∈ TB, w.before _ s = true := fun w h => hts w (List.mem_cons_of_mem _ h)
  have hl : lv_has ls 1 [(0, .ref (ad 7))] := hl
  obtain ⟨hvL, hs1, hs2, hs3, hs4, hs5, hs6, hs7, hs8, hs9, hs10⟩ := id hs
  obtain ⟨⟨q0, q1, q2, q3, q4⟩, q5⟩ := fC_ok hvL
  obtain ⟨hv20, hv21, hv22, hv23, hvp⟩ := id hvL
  have hl160 := lo_160 v
  have hlb := leftS_bd hvL
  refine lv_aload_n hx hb dX5_leftOfLast_0 rfl (lv_at hl 0 rfl) ?_
  refine lv_aload_n hx hb dX5_leftOfLast_1 rfl (lv_at hl 0 rfl) ?_
  refine va_get (D := D) (ci := 4) (v := .int (iI bo)) (C := RX5) (T := TX5) (N := 14) hx hb ht inTB_X5 hown hK hP 0 rfl rfl 10 (by decide) (ht _ tb_89) (fun _ h9 => h9) rfl dX5_leftOfLast_2 ?_
  refine rv_iconst hx hb dX5_leftOfLast_5 ?_
  refine rv_isub hx hb dX5_leftOfLast_6 ?_
  refine vp_callSi (W.runV (As := [.int (iI (bo - 1))]) (rest := []) ⟨hx, hb, hml, hown, hts⟩ (c_X5_leftOf l D cs ad swl sun sbo scw bo cu lo wh dps alk bof us bl lg (bo - 1) (by omega) (by omega)) (cwV 1 hts (gV tb_572 tb_544 tb_545 tb_4 tb_546) rfl rfl rfl (by decide +kernel) ⟨Nat.le_of_ble_eq_true rfl, Nat.le_of_ble_eq_true rfl⟩) (preV_sw hK hP) rfl rfl hl.1 rfl (lv_room (Nat.le_of_ble_eq_true rfl)) dX5_leftOfLast_7 ⟨Nat.le_of_ble_eq_true rfl, Nat.le_of_ble_eq_true rfl⟩) (fun r9 hr9 => ?_)
  subst hr9
  subst hQ
  exact W.iret hx hb hr (fun t9 ht9 hW9 => ⟨_, rfl, ⟨by unfold leftS; by_cases z : (fC v).1.1 = 0; (rw [cif_pos z, cif_neg (by omega)]); (rw [cif_neg z, cif_pos (by omega), (hs8 (bo - 1).toNat (by omega)).1, hs2, hs4]), hlb⟩, ht9⟩) (fun _ h => absurd h List.not_mem_nil) dX5_leftOfLast_10

abbrev rm_X5_isBetterThan : Room := { frames := 2, cells := 0, slots := 0, locals := 41 }
set_option maxHeartbeats 4000000 in
set_option maxRecDepth 100000 in
/-- isBetterThan -/
theorem c_X5_isBetterThan (l : Launch) (D : va_G) (cs : Nat → ClassId) (ad : Nat → Nat) (swl : Int) (sun : Int) (sbo : Int) (scw : Int) (bo : Int) (cu : Int) (lo : Int) (wh : Int) (dps : Nat → Int) (alk : Nat → Int) (bof : Nat → Int) (us : Nat → Int) (bl : Nat → Int) (lg : Nat → Int) (v : Nat → Int) (l1 : Int) (b1 : Int) (e1 : Int) (hs : SawOK v swl sun sbo scw bo cu lo wh dps alk bof us bl lg) (hl1 : -10000 ≤ l1 ∧ l1 ≤ 10000) (hb1 : -10000 ≤ b1 ∧ b1 ≤ 10000) (he1 : -10000 ≤ e1 ∧ e1 ≤ 10000) : Met l yX5_isBetterThan (Cond.code yX5_isBetterThan cX5_isBetterThan 4 (some .boolean) :: TB) rm_X5_isBetterThan (va_Pc [.ref (ad 7), .int (iI l1), .int (iI b1), .int (iI e1)] (fun U => KA D cs U ∧ va_P D classes (sW cs ad swl sun sbo scw bo cu lo wh dps alk bof us bl lg) U.heap)) (vp_Si (fun r => (r = iI 1 ∧ (betP v l1 b1 e1)) ∨ (r = iI 0 ∧ ¬ (betP v l1 b1 e1)))) 0 0 (fun _ => False) := by
  refine enter (cc := cX5_isBetterThan) (maxL := 4) (ret := (some .boolean)) (by decide) (Nat.le_of_ble_eq_true rfl) ?_
  intro pg ev s m below meth c Q ls hx hb hml hown hts hr hlocks hnm ⟨hK, hP⟩ hl hQ
  have ht : ∀ w ∈ TB, w.before _ s = true := fun w h => hts w (List.mem_cons_of_mem _ h)
  have hl : lv_has ls 4 [(0, .ref (ad 7)), (1, .int (iI l1)), (2, .int (iI b1)), (3, .int (iI e1))] := hl
  obtain ⟨hvL, hs1, hs2, hs3, hs4, hs5, hs6, hs7, hs8, hs9, hs10⟩ := id hs
  obtain ⟨⟨q0, q1, q2, q3, q4⟩, q5⟩ := fC_ok hvL
  obtain ⟨hv20, hv21, hv22, hv23, hvp⟩ := id hvL
  have hl160 := lo_160 v
  have hlb := leftS_bd hvL
  refine lv_aload_n hx hb dX5_isBetterThan_0 rfl (lv_at hl 0 rfl) ?_
  refine va_get (D := D) (ci := 4) (v := .int (iI lo)) (C := RX5) (T := TX5) (N := 14) hx hb ht inTB_X5 hown hK hP 0 rfl rfl 12 (by decide) (ht _ tb_93) (fun _ h9 => h9) rfl dX5_isBetterThan_1 ?_
  refine lv_iload_n hx hb dX5_isBetterThan_4 rfl (lv_at hl 1 rfl) ?_
  refine rv_icmp_eq (tgt := 22) hx hb dX5_isBetterThan_5 (by decide) (by omega) (fun h5 => ?_) (fun h5 => ?_)
  · refine lv_aload_n hx hb dX5_isBetterThan_22 rfl (lv_at hl 0 rfl) ?_
    refine va_get (D := D) (ci := 4) (v := .int (iI bo)) (C := RX5) (T := TX5) (N := 14) hx hb ht inTB_X5 hown hK hP 0 rfl rfl 10 (by decide) (ht _ tb_89) (fun _ h9 => h9) rfl dX5_isBetterThan_23 ?_
    refine lv_iload_n hx hb dX5_isBetterThan_26 rfl (lv_at hl 2 rfl) ?_
    refine rv_icmp_eq (tgt := 44) hx hb dX5_isBetterThan_27 (by decide) (by omega) (fun h27 => ?_) (fun h27 => ?_)
    · refine lv_aload_n hx hb dX5_isBetterThan_44 rfl (lv_at hl 0 rfl) ?_
      refine vp_callSi (W.runV (As := []) (rest := []) ⟨hx, hb, hml, hown, hts⟩ (c_X5_leftOfLast l D cs ad swl sun sbo scw bo cu lo wh dps alk bof us bl lg v hs) (cwV 0 hts (gV tb_568 tb_569 tb_570 tb_4 tb_571) rfl rfl rfl (by decide +kernel) ⟨Nat.le_of_ble_eq_true rfl, Nat.le_of_ble_eq_true rfl⟩) (preV_sw hK hP) rfl rfl hl.1 rfl (lv_room (Nat.le_of_ble_eq_true rfl)) dX5_isBetterThan_45 ⟨Nat.le_of_ble_eq_true rfl, Nat.le_of_ble_eq_true rfl⟩) (fun r9 hr9 => ?_)
      obtain ⟨rfl, hx45_0⟩ := hr9
      refine lv_iload_n hx hb dX5_isBetterThan_48 rfl (lv_at hl 3 rfl) ?_
      refine rv_icmp_le (tgt := 56) hx hb dX5_isBetterThan_49 (by decide) (by omega) (fun h49 => ?_) (fun h49 => ?_)
      · refine rv_iconst hx hb dX5_isBetterThan_56 ?_
        subst hQ
        exact W.zret (ty := .boolean) hx hb hr (by decide) (fun t9 ht9 hW9 => ⟨_, rfl, Or.inr ⟨rfl, by unfold betP; omega⟩, ht9⟩) (fun _ h => absurd h List.not_mem_nil) dX5_isBetterThan_57
      · refine rv_iconst hx hb dX5_isBetterThan_52 ?_
        refine lv_goto (tgt := 57) hx hb dX5_isBetterThan_53 (by decide) ?_
        subst hQ
        exact W.zret (ty := .boolean) hx hb hr (by decide) (fun t9 ht9 hW9 => ⟨_, rfl, Or.inl ⟨rfl, by unfold betP; omega⟩, ht9⟩) (fun _ h => absurd h List.not_mem_nil) dX5_isBetterThan_57
    · refine lv_aload_n hx hb dX5_isBetterThan_30 rfl (lv_at hl 0 rfl) ?_
      refine va_get (D := D) (ci := 4) (v := .int (iI bo)) (C := RX5) (T := TX5) (N := 14) hx hb ht inTB_X5 hown hK hP 0 rfl rfl 10 (by decide) (ht _ tb_89) (fun _ h9 => h9) rfl dX5_isBetterThan_31 ?_
      refine lv_iload_n hx hb dX5_isBetterThan_34 rfl (lv_at hl 2 rfl) ?_
      refine rv_icmp_ge (tgt := 42) hx hb dX5_isBetterThan_35 (by decide) (by omega) (fun h35 => ?_) (fun h35 => ?_)
      · refine rv_iconst hx hb dX5_isBetterThan_42 ?_
        subst hQ
        exact W.zret (ty := .boolean) hx hb hr (by decide) (fun t9 ht9 hW9 => ⟨_, rfl, Or.inr ⟨rfl, by unfold betP; omega⟩, ht9⟩) (fun _ h => absurd h List.not_mem_nil) dX5_isBetterThan_43
      · refine rv_iconst hx hb dX5_isBetterThan_38 ?_
        refine lv_goto (tgt := 43) hx hb dX5_isBetterThan_39 (by decide) ?_
        subst hQ
        exact W.zret (ty := .boolean) hx hb hr (by decide) (fun t9 ht9 hW9 => ⟨_, rfl, Or.inl ⟨rfl, by unfold betP; omega⟩, ht9⟩) (fun _ h => absurd h List.not_mem_nil) dX5_isBetterThan_43
  · refine lv_aload_n hx hb dX5_isBetterThan_8 rfl (lv_at hl 0 rfl) ?_
    refine va_get (D := D) (ci := 4) (v := .int (iI lo)) (C := RX5) (T := TX5) (N := 14) hx hb ht inTB_X5 hown hK hP 0 rfl rfl 12 (by decide) (ht _ tb_93) (fun _ h9 => h9) rfl dX5_isBetterThan_9 ?_
    refine lv_iload_n hx hb dX5_isBetterThan_12 rfl (lv_at hl 1 rfl) ?_
    refine rv_icmp_ge (tgt := 20) hx hb dX5_isBetterThan_13 (by decide) (by omega) (fun h13 => ?_) (fun h13 => ?_)
    · refine rv_iconst hx hb dX5_isBetterThan_20 ?_
      subst hQ
      exact W.zret (ty := .boolean) hx hb hr (by decide) (fun t9 ht9 hW9 => ⟨_, rfl, Or.inr ⟨rfl, by unfold betP; omega⟩, ht9⟩) (fun _ h => absurd h List.not_mem_nil) dX5_isBetterThan_21
    · refine rv_iconst hx hb dX5_isBetterThan_16 ?_
      refine lv_goto (tgt := 21) hx hb dX5_isBetterThan_17 (by decide) ?_
      subst hQ
      exact W.zret (ty := .boolean) hx hb hr (by decide) (fun t9 ht9 hW9 => ⟨_, rfl, Or.inl ⟨rfl, by unfold betP; omega⟩, ht9⟩) (fun _ h => absurd h List.not_mem_nil) dX5_isBetterThan_21

abbrev rm_X5_boardOfWell : Room := { frames := 0, cells := 0, slots := 0, locals := 0 }
set_option maxHeartbeats 4000000 in
set_option maxRecDepth 100000 in
/-- boardOfWell -/
theorem c_X5_boardOfWell (l : Launch) (D : va_G) (cs : Nat → ClassId) (ad : Nat → Nat) (swl : Int) (sun : Int) (sbo : Int) (scw : Int) (bo : Int) (cu : Int) (lo : Int) (wh : Int) (dps : Nat → Int) (alk : Nat → Int) (bof : Nat → Int) (us : Nat → Int) (bl : Nat → Int) (lg : Nat → Int) (v : Nat → Int) (well : Int) (k0 : Nat) (hs : SawOK v swl sun sbo scw bo cu lo wh dps alk bof us bl lg) (hk0 : k0 < 160) (hex : exW v k0) (hwl : well = (ix v k0 : Int)) : Met l yX5_boardOfWell (Cond.code yX5_boardOfWell cX5_boardOfWell 6 (some .int) :: TB) rm_X5_boardOfWell (va_Pc [.ref (ad 7), .int (iI well)] (fun U => KA D cs U ∧ va_P D classes (sW cs ad swl sun sbo scw bo cu lo wh dps alk bof us bl lg) U.heap)) (vp_Si (fun r => r = iI (whB v k0))) 0 0 (fun _ => False) := by
  refine enter (cc := cX5_boardOfWell) (maxL := 6) (ret := (some .int)) (by decide) (Nat.le_of_ble_eq_true rfl) ?_
  intro pg ev s m below meth c Q ls hx hb hml hown hts hr hlocks hnm ⟨hK, hP⟩ hl hQ
  have ht : ∀ w ∈ TB, w.before _ s = true := fun w h => hts w (List.mem_cons_of_mem _ h)
  have hl : lv_has ls 6 [(0, .ref (ad 7)), (1, .int (iI well))] := hl
  obtain ⟨hvL, hs1, hs2, hs3, hs4, hs5, hs6, hs7, hs8, hs9, hs10⟩ := id hs
  obtain ⟨⟨q0, q1, q2, q3, q4⟩, q5⟩ := fC_ok hvL
  obtain ⟨hv20, hv21, hv22, hv23, hvp⟩ := id hvL
  have hl160 := lo_160 v
  have hlb := leftS_bd hvL
  have hix := ix_le v 160
  have hixl := ix_lt hk0 hex
  have hg1 := hs10.1
  have hdw : dps well.toNat = dM v k0 := by rw [hwl, Int.toNat_natCast]; exact hs10.2.2.1 k0 hk0 hex
  have hdb := dM_bd hvL k0
  have hmd : dM v k0 * sun = dM v k0 * v 21 := by rw [hs1]
  have hmd0 : 0 ≤ dM v k0 * v 21 := Int.mul_nonneg (by omega) (by omega)
  have hmd1 : dM v k0 * v 21 ≤ 30 * 20 := Int.mul_le_mul (by omega) (by omega) (by omega) (by decide)
  refine lv_iload_n hx hb dX5_boardOfWell_0 rfl (lv_at hl 1 rfl) ?_
  refine rv_if_lt (tgt := 19) hx hb dX5_boardOfWell_1 (by decide) (by omega) (fun h1 => False.elim (by omega)) (fun h1 => ?_)
  refine lv_iload_n hx hb dX5_boardOfWell_4 rfl (lv_at hl 1 rfl) ?_
  refine lv_aload_n hx hb dX5_boardOfWell_5 rfl (lv_at hl 0 rfl) ?_
  refine va_get (D := D) (ci := 4) (v := .int (iI swl)) (C := RX5) (T := TX5) (N := 14) hx hb ht inTB_X5 hown hK hP 0 rfl rfl 6 (by decide) (ht _ tb_85) (fun _ h9 => h9) rfl dX5_boardOfWell_6 ?_
  refine rv_icmp_ge (tgt := 19) hx hb dX5_boardOfWell_9 (by decide) (by omega) (fun h9 => False.elim (by omega)) (fun h9 => ?_)
  refine lv_iload_n hx hb dX5_boardOfWell_12 rfl (lv_at hl 1 rfl) ?_
  refine rv_sipush hx hb dX5_boardOfWell_13 (by decide) ?_
  refine rv_icmp_lt (tgt := 22) hx hb dX5_boardOfWell_16 (by decide) (by omega) (fun h16 => ?_) (fun h16 => False.elim (by omega))
  refine lv_aload_n hx hb dX5_boardOfWell_22 rfl (lv_at hl 0 rfl) ?_
  refine va_get (D := D) (ci := 4) (v := .ref (ad 8)) (C := RX5) (T := TX5) (N := 14) hx hb ht inTB_X5 hown hK hP 0 rfl rfl 0 (by decide) (ht _ tb_77) (fun _ h9 => h9) rfl dX5_boardOfWell_23 ?_
  refine lv_iload_n hx hb dX5_boardOfWell_26 rfl (lv_at hl 1 rfl) ?_
  refine rv_iald hx hb hK hP 1 0 rfl rfl well.toNat (by omega) (by omega) dX5_boardOfWell_27 ?_
  refine rv_top (y := (dM v k0)) hdw ?_
  refine lv_istore_n (lv' := [(2, .int (iI (dM v k0))), (0, .ref (ad 7)), (1, .int (iI well))]) hx hb dX5_boardOfWell_28 rfl hl (by decide) rfl (fun ls hl => ?_)
  refine lv_iload_n hx hb dX5_boardOfWell_29 rfl (lv_at hl 0 rfl) ?_
  refine rv_iconst hx hb dX5_boardOfWell_30 ?_
  refine rv_icmp_lt (tgt := 47) hx hb dX5_boardOfWell_31 (by decide) (by omega) (fun h31 => ?_) (fun h31 => ?_)
  · refine rv_bipush hx hb dX5_boardOfWell_47 (by decide) ?_
    subst hQ
    exact W.iret hx hb hr (fun t9 ht9 hW9 => ⟨_, rfl, by rw [whB, cif_neg (by omega)], ht9⟩) (fun _ h => absurd h List.not_mem_nil) dX5_boardOfWell_49
  · refine lv_iload_n hx hb dX5_boardOfWell_34 rfl (lv_at hl 0 rfl) ?_
    refine lv_aload_n hx hb dX5_boardOfWell_35 rfl (lv_at hl 1 rfl) ?_
    refine va_get (D := D) (ci := 4) (v := .int (iI sun)) (C := RX5) (T := TX5) (N := 14) hx hb ht inTB_X5 hown hK hP 0 rfl rfl 7 (by decide) (ht _ tb_86) (fun _ h9 => h9) rfl dX5_boardOfWell_36 ?_
    refine rv_imul hx hb dX5_boardOfWell_39 ?_
    refine lv_aload_n hx hb dX5_boardOfWell_40 rfl (lv_at hl 1 rfl) ?_
    refine va_get (D := D) (ci := 4) (v := .int (iI sbo)) (C := RX5) (T := TX5) (N := 14) hx hb ht inTB_X5 hown hK hP 0 rfl rfl 8 (by decide) (ht _ tb_87) (fun _ h9 => h9) rfl dX5_boardOfWell_41 ?_
    refine rv_icmp_le (tgt := 50) hx hb dX5_boardOfWell_44 (by decide) (by omega) (fun h44 => ?_) (fun h44 => ?_)
    · refine rv_iconst hx hb dX5_boardOfWell_50 ?_
      refine lv_istore_n (lv' := [(3, .int (iI 0)), (2, .int (iI (dM v k0))), (0, .ref (ad 7)), (1, .int (iI well))]) hx hb dX5_boardOfWell_51 rfl hl (by decide) rfl (fun ls hl => ?_)
      refine rv_iconst hx hb dX5_boardOfWell_52 ?_
      refine lv_istore (lv' := [(4, .int (iI 0)), (3, .int (iI 0)), (2, .int (iI (dM v k0))), (0, .ref (ad 7)), (1, .int (iI well))]) hx hb dX5_boardOfWell_53 hl (by decide) rfl (fun ls hl => ?_)
      have loop55 : ∀ (fuel55 : Nat) (j : Nat), ((j : Int) ≤ swl) → (swl - (j : Int)).toNat < fuel55 → ∀ (x3 x4 : Int), x3 = (bwC dps (v 21) (v 22) (dM v k0) (ix v k0 : Int) j : Int) → x4 = (j : Int) → ∀ ls : Array Slot, lv_has ls 6 [(0, .ref (ad 7)), (1, .int (iI well)), (2, .int (iI (dM v k0))), (3, .int (iI x3)), (4, .int (iI x4))] → W pg l ev rm_X5_boardOfWell s m [.ref (ad 7), .int (iI well)].toArray below meth c s.heap [] 0 0 Q (F0 m 55 ls []) := by
        intro fuel55
        induction fuel55 with
        | zero => intro j hj hfuel55; exact absurd hfuel55 (Nat.not_lt_zero _)
        | succ fuel55 ih55 =>
          intro j hj hfuel55 x3 x4 ex3 ex4 ls hl
          subst ex3 ex4
          have hbl := bwC_le dps (v 21) (v 22) (dM v k0) (ix v k0 : Int) j
          have hdj := hs10.2.2.2 j
          have hmj : dps j * sun = dps j * v 21 := by rw [hs1]
          have hmj0 : (j : Int) < swl → 0 ≤ dps j * v 21 := fun z => Int.mul_nonneg (hdj z).1 (by omega)
          have hmj1 : (j : Int) < swl → dps j * v 21 ≤ 30 * 20 := fun z => Int.mul_le_mul (hdj z).2 (by omega) (by omega) (by decide)
          refine lv_iload hx hb dX5_boardOfWell_55 (lv_at hl 4 rfl) ?_
          refine lv_aload_n hx hb dX5_boardOfWell_57 rfl (lv_at hl 0 rfl) ?_
          refine va_get (D := D) (ci := 4) (v := .int (iI swl)) (C := RX5) (T := TX5) (N := 14) hx hb ht inTB_X5 hown hK hP 0 rfl rfl 6 (by decide) (ht _ tb_85) (fun _ h9 => h9) rfl dX5_boardOfWell_58 ?_
          refine rv_icmp_ge (tgt := 140) hx hb dX5_boardOfWell_61 (by decide) (by omega) (fun h61 => ?_) (fun h61 => ?_)
          · have hrk : (bwC dps (v 21) (v 22) (dM v k0) (ix v k0 : Int) j) = rk v k0 := by rw [show j = ix v 160 by omega, bw_rkc hs10 (by omega) 160 (Nat.le_refl _), rkc_rk hvL hk0]
            have hrc := rk_cu hvL hk0 (by omega) (by omega)
            refine lv_iload_n hx hb dX5_boardOfWell_140 rfl (lv_at hl 3 rfl) ?_
            refine lv_aload_n hx hb dX5_boardOfWell_141 rfl (lv_at hl 0 rfl) ?_
            refine va_get (D := D) (ci := 4) (v := .int (iI cu)) (C := RX5) (T := TX5) (N := 14) hx hb ht inTB_X5 hown hK hP 0 rfl rfl 11 (by decide) (ht _ tb_91) (fun _ h9 => h9) rfl dX5_boardOfWell_142 ?_
            refine rv_icmp_ge (tgt := 157) hx hb dX5_boardOfWell_145 (by decide) (by omega) (fun h145 => False.elim (by have := hrk; have := hrc; omega)) (fun h145 => ?_)
            refine lv_aload_n hx hb dX5_boardOfWell_148 rfl (lv_at hl 0 rfl) ?_
            refine va_get (D := D) (ci := 4) (v := .ref (ad 10)) (C := RX5) (T := TX5) (N := 14) hx hb ht inTB_X5 hown hK hP 0 rfl rfl 2 (by decide) (ht _ tb_79) (fun _ h9 => h9) rfl dX5_boardOfWell_149 ?_
            refine lv_iload_n hx hb dX5_boardOfWell_152 rfl (lv_at hl 3 rfl) ?_
            refine rv_iald hx hb hK hP 3 0 rfl rfl (bwC dps (v 21) (v 22) (dM v k0) (ix v k0 : Int) j) rfl (by omega) dX5_boardOfWell_153 ?_
            refine lv_goto (tgt := 159) hx hb dX5_boardOfWell_154 (by decide) ?_
            subst hQ
            exact W.iret hx hb hr (fun t9 ht9 hW9 => ⟨_, rfl, by rw [whB, cif_pos (by omega), ← hs9 _ (by omega), ← hrk], ht9⟩) (fun _ h => absurd h List.not_mem_nil) dX5_boardOfWell_159
          · refine lv_iload hx hb dX5_boardOfWell_64 (lv_at hl 4 rfl) ?_
            refine rv_sipush hx hb dX5_boardOfWell_66 (by decide) ?_
            refine rv_icmp_ge (tgt := 140) hx hb dX5_boardOfWell_69 (by decide) (by omega) (fun h69 => False.elim (by omega)) (fun h69 => ?_)
            refine lv_aload_n hx hb dX5_boardOfWell_72 rfl (lv_at hl 0 rfl) ?_
            refine va_get (D := D) (ci := 4) (v := .ref (ad 8)) (C := RX5) (T := TX5) (N := 14) hx hb ht inTB_X5 hown hK hP 0 rfl rfl 0 (by decide) (ht _ tb_77) (fun _ h9 => h9) rfl dX5_boardOfWell_73 ?_
            refine lv_iload hx hb dX5_boardOfWell_76 (lv_at hl 4 rfl) ?_
            refine rv_iald hx hb hK hP 1 0 rfl rfl j rfl (by omega) dX5_boardOfWell_78 ?_
            refine lv_iload_n hx hb dX5_boardOfWell_79 rfl (lv_at hl 2 rfl) ?_
            refine rv_icmp_le (tgt := 106) hx hb dX5_boardOfWell_80 (by decide) (by omega) (fun h80 => ?_) (fun h80 => ?_)
            · refine rv_iconst hx hb dX5_boardOfWell_106 ?_
              refine lv_istore (lv' := [(5, .int (iI 0)), (0, .ref (ad 7)), (1, .int (iI well)), (2, .int (iI (dM v k0))), (3, .int (iI (bwC dps (v 21) (v 22) (dM v k0) (ix v k0 : Int) j : Int))), (4, .int (iI (j : Int)))]) hx hb dX5_boardOfWell_107 hl (by decide) rfl (fun ls hl => ?_)
              refine lv_iload hx hb dX5_boardOfWell_109 (lv_at hl 0 rfl) ?_
              refine rv_if_ne (tgt := 131) hx hb dX5_boardOfWell_111 (by decide) (by decide) (fun q => absurd q (by decide)) (fun _ => ?_)
              refine lv_aload_n hx hb dX5_boardOfWell_114 rfl (lv_at hl 1 rfl) ?_
              refine va_get (D := D) (ci := 4) (v := .ref (ad 8)) (C := RX5) (T := TX5) (N := 14) hx hb ht inTB_X5 hown hK hP 0 rfl rfl 0 (by decide) (ht _ tb_77) (fun _ h9 => h9) rfl dX5_boardOfWell_115 ?_
              refine lv_iload hx hb dX5_boardOfWell_118 (lv_at hl 5 rfl) ?_
              refine rv_iald hx hb hK hP 1 0 rfl rfl j rfl (by omega) dX5_boardOfWell_120 ?_
              refine lv_iload_n hx hb dX5_boardOfWell_121 rfl (lv_at hl 3 rfl) ?_
              refine rv_icmp_ne (tgt := 134) hx hb dX5_boardOfWell_122 (by decide) (by omega) (fun h122 => ?_) (fun h122 => ?_)
              · refine rv_iinc (k := 5) (lv' := [(4, .int (iI ((j : Int) + 1))), (5, .int (iI 0)), (0, .ref (ad 7)), (1, .int (iI well)), (2, .int (iI (dM v k0))), (3, .int (iI (bwC dps (v 21) (v 22) (dM v k0) (ix v k0 : Int) j : Int)))]) hx hb dX5_boardOfWell_134 hl rfl (by decide) rfl (fun ls hl => ?_)
                refine lv_goto (tgt := 55) hx hb dX5_boardOfWell_137 (by decide) ?_
                exact ih55 (j + 1) (by omega) (by omega) _ _ (by rw [bwC]; first | (rw [cF_pos (by omega)]; omega) | (rw [cF_neg (by omega)]; omega)) (by omega) ls (lv_sub hl [2, 3, 4, 5, 0] rfl)
              · refine lv_iload hx hb dX5_boardOfWell_125 (lv_at hl 5 rfl) ?_
                refine lv_iload_n hx hb dX5_boardOfWell_127 rfl (lv_at hl 2 rfl) ?_
                refine rv_icmp_ge (tgt := 134) hx hb dX5_boardOfWell_128 (by decide) (by omega) (fun h128 => ?_) (fun h128 => ?_)
                · refine rv_iinc (k := 5) (lv' := [(4, .int (iI ((j : Int) + 1))), (5, .int (iI 0)), (0, .ref (ad 7)), (1, .int (iI well)), (2, .int (iI (dM v k0))), (3, .int (iI (bwC dps (v 21) (v 22) (dM v k0) (ix v k0 : Int) j : Int)))]) hx hb dX5_boardOfWell_134 hl rfl (by decide) rfl (fun ls hl => ?_)
                  refine lv_goto (tgt := 55) hx hb dX5_boardOfWell_137 (by decide) ?_
                  exact ih55 (j + 1) (by omega) (by omega) _ _ (by rw [bwC]; first | (rw [cF_pos (by omega)]; omega) | (rw [cF_neg (by omega)]; omega)) (by omega) ls (lv_sub hl [2, 3, 4, 5, 0] rfl)
                · refine rv_iinc (k := 4) (lv' := [(3, .int (iI ((bwC dps (v 21) (v 22) (dM v k0) (ix v k0 : Int) j : Int) + 1))), (5, .int (iI 0)), (0, .ref (ad 7)), (1, .int (iI well)), (2, .int (iI (dM v k0))), (4, .int (iI (j : Int)))]) hx hb dX5_boardOfWell_131 hl rfl (by decide) rfl (fun ls hl => ?_)
                  refine rv_iinc (k := 5) (lv' := [(4, .int (iI ((j : Int) + 1))), (3, .int (iI ((bwC dps (v 21) (v 22) (dM v k0) (ix v k0 : Int) j : Int) + 1))), (5, .int (iI 0)), (0, .ref (ad 7)), (1, .int (iI well)), (2, .int (iI (dM v k0)))]) hx hb dX5_boardOfWell_134 hl rfl (by decide) rfl (fun ls hl => ?_)
                  refine lv_goto (tgt := 55) hx hb dX5_boardOfWell_137 (by decide) ?_
                  exact ih55 (j + 1) (by omega) (by omega) _ _ (by rw [bwC]; first | (rw [cF_pos (by omega)]; omega) | (rw [cF_neg (by omega)]; omega)) (by omega) ls (lv_sub hl [3, 4, 5, 1, 0] rfl)
            · refine lv_aload_n hx hb dX5_boardOfWell_83 rfl (lv_at hl 0 rfl) ?_
              refine va_get (D := D) (ci := 4) (v := .ref (ad 8)) (C := RX5) (T := TX5) (N := 14) hx hb ht inTB_X5 hown hK hP 0 rfl rfl 0 (by decide) (ht _ tb_77) (fun _ h9 => h9) rfl dX5_boardOfWell_84 ?_
              refine lv_iload hx hb dX5_boardOfWell_87 (lv_at hl 4 rfl) ?_
              refine rv_iald hx hb hK hP 1 0 rfl rfl j rfl (by omega) dX5_boardOfWell_89 ?_
              refine lv_aload_n hx hb dX5_boardOfWell_90 rfl (lv_at hl 0 rfl) ?_
              refine va_get (D := D) (ci := 4) (v := .int (iI sun)) (C := RX5) (T := TX5) (N := 14) hx hb ht inTB_X5 hown hK hP 0 rfl rfl 7 (by decide) (ht _ tb_86) (fun _ h9 => h9) rfl dX5_boardOfWell_91 ?_
              refine rv_imul hx hb dX5_boardOfWell_94 ?_
              refine lv_aload_n hx hb dX5_boardOfWell_95 rfl (lv_at hl 0 rfl) ?_
              refine va_get (D := D) (ci := 4) (v := .int (iI sbo)) (C := RX5) (T := TX5) (N := 14) hx hb ht inTB_X5 hown hK hP 0 rfl rfl 8 (by decide) (ht _ tb_87) (fun _ h9 => h9) rfl dX5_boardOfWell_96 ?_
              refine rv_icmp_gt (tgt := 106) hx hb dX5_boardOfWell_99 (by decide) (by omega) (fun h99 => ?_) (fun h99 => ?_)
              · refine rv_iconst hx hb dX5_boardOfWell_106 ?_
                refine lv_istore (lv' := [(5, .int (iI 0)), (0, .ref (ad 7)), (1, .int (iI well)), (2, .int (iI (dM v k0))), (3, .int (iI (bwC dps (v 21) (v 22) (dM v k0) (ix v k0 : Int) j : Int))), (4, .int (iI (j : Int)))]) hx hb dX5_boardOfWell_107 hl (by decide) rfl (fun ls hl => ?_)
                refine lv_iload hx hb dX5_boardOfWell_109 (lv_at hl 0 rfl) ?_
                refine rv_if_ne (tgt := 131) hx hb dX5_boardOfWell_111 (by decide) (by decide) (fun q => absurd q (by decide)) (fun _ => ?_)
                refine lv_aload_n hx hb dX5_boardOfWell_114 rfl (lv_at hl 1 rfl) ?_
                refine va_get (D := D) (ci := 4) (v := .ref (ad 8)) (C := RX5) (T := TX5) (N := 14) hx hb ht inTB_X5 hown hK hP 0 rfl rfl 0 (by decide) (ht _ tb_77) (fun _ h9 => h9) rfl dX5_boardOfWell_115 ?_
                refine lv_iload hx hb dX5_boardOfWell_118 (lv_at hl 5 rfl) ?_
                refine rv_iald hx hb hK hP 1 0 rfl rfl j rfl (by omega) dX5_boardOfWell_120 ?_
                refine lv_iload_n hx hb dX5_boardOfWell_121 rfl (lv_at hl 3 rfl) ?_
                refine rv_icmp_ne (tgt := 134) hx hb dX5_boardOfWell_122 (by decide) (by omega) (fun h122 => ?_) (fun h122 => ?_)
                · refine rv_iinc (k := 5) (lv' := [(4, .int (iI ((j : Int) + 1))), (5, .int (iI 0)), (0, .ref (ad 7)), (1, .int (iI well)), (2, .int (iI (dM v k0))), (3, .int (iI (bwC dps (v 21) (v 22) (dM v k0) (ix v k0 : Int) j : Int)))]) hx hb dX5_boardOfWell_134 hl rfl (by decide) rfl (fun ls hl => ?_)
                  refine lv_goto (tgt := 55) hx hb dX5_boardOfWell_137 (by decide) ?_
                  exact ih55 (j + 1) (by omega) (by omega) _ _ (by rw [bwC]; first | (rw [cF_pos (by omega)]; omega) | (rw [cF_neg (by omega)]; omega)) (by omega) ls (lv_sub hl [2, 3, 4, 5, 0] rfl)
                · refine lv_iload hx hb dX5_boardOfWell_125 (lv_at hl 5 rfl) ?_
                  refine lv_iload_n hx hb dX5_boardOfWell_127 rfl (lv_at hl 2 rfl) ?_
                  refine rv_icmp_ge (tgt := 134) hx hb dX5_boardOfWell_128 (by decide) (by omega) (fun h128 => ?_) (fun h128 => ?_)
                  · refine rv_iinc (k := 5) (lv' := [(4, .int (iI ((j : Int) + 1))), (5, .int (iI 0)), (0, .ref (ad 7)), (1, .int (iI well)), (2, .int (iI (dM v k0))), (3, .int (iI (bwC dps (v 21) (v 22) (dM v k0) (ix v k0 : Int) j : Int)))]) hx hb dX5_boardOfWell_134 hl rfl (by decide) rfl (fun ls hl => ?_)
                    refine lv_goto (tgt := 55) hx hb dX5_boardOfWell_137 (by decide) ?_
                    exact ih55 (j + 1) (by omega) (by omega) _ _ (by rw [bwC]; first | (rw [cF_pos (by omega)]; omega) | (rw [cF_neg (by omega)]; omega)) (by omega) ls (lv_sub hl [2, 3, 4, 5, 0] rfl)
                  · refine rv_iinc (k := 4) (lv' := [(3, .int (iI ((bwC dps (v 21) (v 22) (dM v k0) (ix v k0 : Int) j : Int) + 1))), (5, .int (iI 0)), (0, .ref (ad 7)), (1, .int (iI well)), (2, .int (iI (dM v k0))), (4, .int (iI (j : Int)))]) hx hb dX5_boardOfWell_131 hl rfl (by decide) rfl (fun ls hl => ?_)
                    refine rv_iinc (k := 5) (lv' := [(4, .int (iI ((j : Int) + 1))), (3, .int (iI ((bwC dps (v 21) (v 22) (dM v k0) (ix v k0 : Int) j : Int) + 1))), (5, .int (iI 0)), (0, .ref (ad 7)), (1, .int (iI well)), (2, .int (iI (dM v k0)))]) hx hb dX5_boardOfWell_134 hl rfl (by decide) rfl (fun ls hl => ?_)
                    refine lv_goto (tgt := 55) hx hb dX5_boardOfWell_137 (by decide) ?_
                    exact ih55 (j + 1) (by omega) (by omega) _ _ (by rw [bwC]; first | (rw [cF_pos (by omega)]; omega) | (rw [cF_neg (by omega)]; omega)) (by omega) ls (lv_sub hl [3, 4, 5, 1, 0] rfl)
              · refine rv_iconst hx hb dX5_boardOfWell_102 ?_
                refine lv_goto (tgt := 107) hx hb dX5_boardOfWell_103 (by decide) ?_
                refine lv_istore (lv' := [(5, .int (iI 1)), (0, .ref (ad 7)), (1, .int (iI well)), (2, .int (iI (dM v k0))), (3, .int (iI (bwC dps (v 21) (v 22) (dM v k0) (ix v k0 : Int) j : Int))), (4, .int (iI (j : Int)))]) hx hb dX5_boardOfWell_107 hl (by decide) rfl (fun ls hl => ?_)
                refine lv_iload hx hb dX5_boardOfWell_109 (lv_at hl 0 rfl) ?_
                refine rv_if_ne (tgt := 131) hx hb dX5_boardOfWell_111 (by decide) (by decide) (fun _ => ?_) (fun q => absurd q (by decide))
                refine rv_iinc (k := 4) (lv' := [(3, .int (iI ((bwC dps (v 21) (v 22) (dM v k0) (ix v k0 : Int) j : Int) + 1))), (5, .int (iI 1)), (0, .ref (ad 7)), (1, .int (iI well)), (2, .int (iI (dM v k0))), (4, .int (iI (j : Int)))]) hx hb dX5_boardOfWell_131 hl rfl (by decide) rfl (fun ls hl => ?_)
                refine rv_iinc (k := 5) (lv' := [(4, .int (iI ((j : Int) + 1))), (3, .int (iI ((bwC dps (v 21) (v 22) (dM v k0) (ix v k0 : Int) j : Int) + 1))), (5, .int (iI 1)), (0, .ref (ad 7)), (1, .int (iI well)), (2, .int (iI (dM v k0)))]) hx hb dX5_boardOfWell_134 hl rfl (by decide) rfl (fun ls hl => ?_)
                refine lv_goto (tgt := 55) hx hb dX5_boardOfWell_137 (by decide) ?_
                exact ih55 (j + 1) (by omega) (by omega) _ _ (by rw [bwC]; first | (rw [cF_pos (by omega)]; omega) | (rw [cF_neg (by omega)]; omega)) (by omega) ls (lv_sub hl [3, 4, 5, 1, 0] rfl)
      exact loop55 (_ + 1) 0 (by omega) (Nat.lt_succ_self _) _ _ rfl rfl ls (lv_sub hl [3, 4, 2, 1, 0] rfl)
    · refine rv_bipush hx hb dX5_boardOfWell_47 (by decide) ?_
      subst hQ
      exact W.iret hx hb hr (fun t9 ht9 hW9 => ⟨_, rfl, by rw [whB, cif_neg (by omega)], ht9⟩) (fun _ h => absurd h List.not_mem_nil) dX5_boardOfWell_49

