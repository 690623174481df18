/-! Reader: the whole text -/

abbrev rm_X4_readItem : Room := { frames := 4, cells := 2, slots := 38, locals := 99 }
set_option maxHeartbeats 8000000 in
set_option maxRecDepth 100000 in
/-- readItem -/
theorem c_X4_readItem (l : Launch) (D : va_G) (cs : Nat → ClassId) (ad : Nat → Nat) (sz : Nat) (rlen : Int) (rpc : Int) (run_ : Int) (rbo : Int) (rcw : Int) (tx : Nat → Int) (gp : Nat → Option Nat) (nu : Nat → Int) (M : Nat → Prop) (v : Nat → Int) (p : Int) (hnu : ∀ j : Nat, j < 4 → 0 ≤ nu j ∧ nu j ≤ 999) (hlen : 0 ≤ rlen ∧ rlen ≤ 200) (htx : okTx tx rlen) (hM : ∀ q, inAd ad 1 5 q → M q) (hp : 0 ≤ p ∧ p < rlen) : Met l yX4_readItem (Cond.code yX4_readItem cX4_readItem 8 (some .int) :: TB) rm_X4_readItem (va_Pc [.ref (ad 2), .int (iI p)] (MPre D cs sz (rW1 cs ad rlen rpc run_ rbo rcw tx gp nu) (fun U H => ((∀ q, M q → q < H.size) ∧ RdS D cs M H v rpc run_ rbo rcw gp) ∧ PZ U H M))) (va_Qi (fun (r u : Int32) => r = u) (fun r t => ∃ (rpc2 : Int) (run2 : Int) (rbo2 : Int) (rcw2 : Int) (gp2 : Nat → Option Nat) (nu2 : Nat → Int), (r = iI (cif (okItem tx rlen (v 20) (bt tx rlen p) (p + 1)) (nxItem tx rlen (bt tx rlen p) (p + 1)) (-1))) ∧ ((okItem tx rlen (v 20) (bt tx rlen p) (p + 1)) → RdS D cs M t.heap (stItem tx rlen v (bt tx rlen p) (p + 1)) rpc2 run2 rbo2 rcw2 gp2) ∧ (∀ j : Nat, j < 4 → 0 ≤ nu2 j ∧ nu2 j ≤ 999) ∧ va_P D classes (rW1 cs ad rlen rpc2 run2 rbo2 rcw2 tx gp2 nu2) t.heap ∧ va_D (va_A (rW1 cs ad rlen rpc run_ rbo rcw tx gp nu) sz) (rW1 cs ad rlen rpc2 run2 rbo2 rcw2 tx gp2 nu2)) (va_A (rW1 cs ad rlen rpc run_ rbo rcw tx gp nu) sz)) 2 38 (va_A (rW1 cs ad rlen rpc run_ rbo rcw tx gp nu) sz) := by
  refine enter (cc := cX4_readItem) (maxL := 8) (ret := (some .int)) (by decide) (Nat.le_of_ble_eq_true rfl) ?_
  intro pg ev s m below meth c Q ls hx hb hml hown hts hr hlocks hnm ⟨hsz, hP, hD0, hK, hX0⟩ hl hQ
  have ht : ∀ w ∈ TB, w.before _ s = true := fun w h => hts w (List.mem_cons_of_mem _ h)
  subst hsz
  have hD := hD0.self (sz := s.heap.size)
  obtain ⟨A, hAe⟩ : ∃ A, va_A (rW1 cs ad rlen rpc run_ rbo rcw tx gp nu) s.heap.size = A := ⟨_, rfl⟩
  rw [hAe] at hD
  have hA : ∀ q : Nat, s.heap.size ≤ q → A q := fun q h => by rw [← hAe]; exact Or.inr h
  obtain ⟨H, hH⟩ : ∃ H, H = s.heap := ⟨_, rfl⟩
  obtain ⟨locs, hlocs⟩ : ∃ locs : List Loc, locs = [] := ⟨_, rfl⟩
  have hS : va_S A s.heap H locs := by rw [hH, hlocs]; exact va_S.rf
  rw [← hH] at hP
  suffices hgo : W pg l ev rm_X4_readItem s m [.ref (ad 2), .int (iI p)].toArray below meth c H locs 0 0 Q (F0 m 0 ls []) by rw [hH, hlocs] at hgo; exact hgo
  have hl : lv_has ls 8 [(0, .ref (ad 2)), (1, .int (iI p))] := hl
  have hbb := bt_bd (i := p) htx (by omega)
  have hnbb := nbOf_bd (bt tx rlen p)
  obtain ⟨hvL, hr0, hr1, hr2, hr3, -⟩ := id hX0.1.2
  refine lv_aload_n hx hb dX4_readItem_0 rfl (lv_at hl 0 rfl) ?_
  refine lv_iload_n hx hb dX4_readItem_1 rfl (lv_at hl 1 rfl) ?_
  refine vp_callSi (W.runV (As := [.int (iI p)]) (rest := []) ⟨hx, hb, hml, hown, hts⟩ (c_X4_letterAt l D cs (ad 2) (ad 1) _ rlen tx p (by omega)) (cwV 1 hts (gV tb_238 tb_240 tbs_1 tb_2 tb_241) rfl rfl rfl (by decide +kernel) ⟨Nat.le_of_ble_eq_true rfl, Nat.le_of_ble_eq_true rfl⟩) (preV_rdT hK ⟨hP.sub [1, 0] rfl, rfl, rfl, hlen, htx⟩) rfl rfl hl.1 rfl (lv_room (Nat.le_of_ble_eq_true rfl)) dX4_readItem_2 ⟨Nat.le_of_ble_eq_true rfl, Nat.le_of_ble_eq_true rfl⟩) (fun r9 hr9 => ?_)
  obtain ⟨rfl, hx2_0⟩ := hr9
  refine lv_istore_n (lv' := [(2, .int (iI (bt tx rlen p))), (0, .ref (ad 2)), (1, .int (iI p))]) hx hb dX4_readItem_5 rfl hl (by decide) rfl (fun ls hl => ?_)
  refine lv_iload_n hx hb dX4_readItem_6 rfl (lv_at hl 0 rfl) ?_
  refine vp_callSi (W.runS (As := [.int (iI (bt tx rlen p))]) (rest := []) ⟨hx, hb, hml, hown, hts⟩ (c_X4_numbersOf l (bt tx rlen p) (by omega)) (va_cwS 1 hts (gS tb_242 tb_243 tb_2 tb_244) rfl rfl rfl (by decide +kernel) ⟨Nat.le_of_ble_eq_true rfl, Nat.le_of_ble_eq_true rfl⟩) preS0 rfl rfl hl.1 rfl (lv_room (Nat.le_of_ble_eq_true rfl)) dX4_readItem_7 ⟨Nat.le_of_ble_eq_true rfl, Nat.le_of_ble_eq_true rfl⟩) (fun r9 hr9 => ?_)
  subst hr9
  refine lv_istore_n (lv' := [(3, .int (iI (nbOf (bt tx rlen p)))), (2, .int (iI (bt tx rlen p))), (0, .ref (ad 2)), (1, .int (iI p))]) hx hb dX4_readItem_10 rfl hl (by decide) rfl (fun ls hl => ?_)
  refine lv_iload_n hx hb dX4_readItem_11 rfl (lv_at hl 0 rfl) ?_
  refine rv_iconst hx hb dX4_readItem_12 ?_
  refine rv_icmp_ge (tgt := 18) hx hb dX4_readItem_13 (by decide) (by omega) (fun h13 => ?_) (fun h13 => ?_)
  · refine lv_iload_n hx hb dX4_readItem_18 rfl (lv_at hl 3 rfl) ?_
    refine rv_iconst hx hb dX4_readItem_19 ?_
    refine rv_iadd hx hb dX4_readItem_20 ?_
    refine lv_istore (lv' := [(4, .int (iI (p + 1))), (3, .int (iI (nbOf (bt tx rlen p)))), (2, .int (iI (bt tx rlen p))), (0, .ref (ad 2)), (1, .int (iI p))]) hx hb dX4_readItem_21 hl (by decide) rfl (fun ls hl => ?_)
    refine rv_iconst hx hb dX4_readItem_23 ?_
    refine lv_istore (lv' := [(5, .int (iI 0)), (4, .int (iI (p + 1))), (3, .int (iI (nbOf (bt tx rlen p)))), (2, .int (iI (bt tx rlen p))), (0, .ref (ad 2)), (1, .int (iI p))]) hx hb dX4_readItem_24 hl (by decide) rfl (fun ls hl => ?_)
    have loop26 : ∀ (fuel26 : Nat) (i : Nat) (NU : Nat → Int), ((i : Int) ≤ nbOf (bt tx rlen p)) → (∀ j : Nat, j < i → NU j = nV tx rlen (nxk tx rlen (p + 1) j)) → (∀ j : Nat, j < i → okNum tx rlen (nxk tx rlen (p + 1) j) (cif ((j : Int) + 1 = nbOf (bt tx rlen p)) 59 44)) → (∀ j : Nat, j < 4 → 0 ≤ NU j ∧ NU j ≤ 999) → 5 - i < fuel26 → ∀ (x4 x5 : Int), x4 = nxk tx rlen (p + 1) i → x5 = (i : Int) → ∀ (H : Heap) (locs : List Loc), va_P D classes (rW1 cs ad rlen rpc run_ rbo rcw tx gp NU) H → va_D A (rW1 cs ad rlen rpc run_ rbo rcw tx gp NU) → va_S A s.heap H locs → ∀ ls : Array Slot, lv_has ls 8 [(0, .ref (ad 2)), (1, .int (iI p)), (2, .int (iI (bt tx rlen p))), (3, .int (iI (nbOf (bt tx rlen p)))), (4, .int (iI x4)), (5, .int (iI x5))] → W pg l ev rm_X4_readItem s m [.ref (ad 2), .int (iI p)].toArray below meth c H locs 0 0 Q (F0 m 26 ls []) := by
      intro fuel26
      induction fuel26 with
      | zero => intro i NU hi hq hon hNU hfuel26; exact absurd hfuel26 (Nat.not_lt_zero _)
      | succ fuel26 ih26 =>
        intro i NU hi hq hon hNU hfuel26 x4 x5 ex4 ex5 H locs hP hD hS ls hl
        subst ex4 ex5
        refine lv_iload hx hb dX4_readItem_26 (lv_at hl 5 rfl) ?_
        refine lv_iload_n hx hb dX4_readItem_28 rfl (lv_at hl 3 rfl) ?_
        refine rv_icmp_ge (tgt := 114) hx hb dX4_readItem_29 (by decide) (by omega) (fun h29 => ?_) (fun h29 => ?_)
        · refine lv_aload_n hx hb dX4_readItem_114 rfl (lv_at hl 0 rfl) ?_
          refine lv_iload_n hx hb dX4_readItem_115 rfl (lv_at hl 2 rfl) ?_
          have hFc := va_free (wc := (rW1 cs ad rlen rpc run_ rbo rcw tx gp NU)) hD hS hA [0, 1, 2, 3] rfl
          refine va_calli (va_runV (As := [.int (iI (bt tx rlen p))]) (rest := []) ⟨hx, hb, hml, hown, hts⟩ (c_X4_keepItem l D cs ad H.size rlen rpc run_ rbo rcw tx gp NU M v (bt tx rlen p) hNU hM (by unfold nbOf at h13; by_cases z : bt tx rlen p = 113 ∨ bt tx rlen p = 114 ∨ bt tx rlen p = 108; omega; rw [cif_neg z] at h13; by_cases z2 : bt tx rlen p = 98; omega; rw [cif_neg z2] at h13; by_cases z3 : bt tx rlen p = 117; omega; rw [cif_neg z3] at h13; omega)) (cwV 1 hts (gV tb_257 tb_259 tbs_5 tb_2 tb_260) rfl rfl rfl (by decide +kernel) ⟨Nat.le_of_ble_eq_true rfl, Nat.le_of_ble_eq_true rfl⟩) (preV_M (X := fun U H => ((∀ q, M q → q < H.size) ∧ RdS D cs M H v rpc run_ rbo rcw gp) ∧ PZ U H M) (Stb_and Stb_H (PZ_stb M)) hK (va_recv hK hP (ci := 3) (q0 := 1) rfl rfl) hP hD ⟨⟨(fun q z => Nat.lt_of_lt_of_le (hX0.1.1 q z) hS.1), RdS.inS hX0.1.2 (fun q z => hM q (Mw_rW q z)) hAe hS⟩, PZ.inS hX0.2 (fun q z => hM q (Mw_rW q z)) hAe hS⟩) rfl rfl hl.1 rfl (lv_room (Nat.le_of_ble_eq_true rfl)) dX4_readItem_116 ⟨Nat.le_of_ble_eq_true rfl, Nat.le_of_ble_eq_true rfl⟩) hS (fun q _ h => hFc q h) hFc (fun r9 u9 t9 H9 locs ht9 hvm9 hw9 hB9 hz9 hk9 hS => ?_)
          obtain rfl := hw9
          obtain ⟨rpc2_116, run2_116, rbo2_116, rcw2_116, gp2_116, hf116_0, hf116_1, hP1, hD1⟩ := hB9
          rw [ht9] at hP1
          rw [ht9] at hf116_1
          have hP := hP1
          have hD := hD1.weaken (fun _ _ _ h => hFc _ h)
          generalize H9 = H at *
          have hP : va_P D classes (rW1 cs ad rlen rpc2_116 run2_116 rbo2_116 rcw2_116 tx gp2_116 NU) H := hP
          have hD : va_D A (rW1 cs ad rlen rpc2_116 run2_116 rbo2_116 rcw2_116 tx gp2_116 NU) := hD
          rcases hf116_0 with ⟨rfl, hb116⟩ | ⟨rfl, hb116⟩
          · refine rv_if_eq (tgt := 127) hx hb dX4_readItem_119 (by decide) (by decide) (fun q => absurd q (by decide)) (fun _ => ?_)
            refine lv_iload hx hb dX4_readItem_122 (lv_at hl 4 rfl) ?_
            refine lv_goto (tgt := 128) hx hb dX4_readItem_124 (by decide) ?_
            subst hQ
            exact W.iret hx hb hr (fun t9 ht9 hW9 => ⟨⟨_, _, rfl, rfl, ⟨rpc2_116, run2_116, rbo2_116, rcw2_116, gp2_116, NU, by rw [cif_pos (okItem_of (fun j hj => hon j (by omega)) (by omega) (okKp_congr (fun j hj => hq j (by omega)) (by omega) hb116)), nxItem_k (by omega), show (nbOf (bt tx rlen p)).toNat = i by omega], fun q => by rw [ht9, stItem_kp, ← kpV_congr (v := v) (nu := NU) (fun j hj => hq j (by omega)) (by omega)]; exact hf116_1 hb116, hNU, by rw [ht9]; exact hP, by rw [hAe]; exact hD⟩⟩, by rw [hAe]; exact hS.F ht9⟩) (by rw [hAe]; exact hS.2.2) dX4_readItem_128
          · refine rv_if_eq (tgt := 127) hx hb dX4_readItem_119 (by decide) (by decide) (fun _ => ?_) (fun q => absurd q (by decide))
            refine rv_iconst hx hb dX4_readItem_127 ?_
            subst hQ
            exact W.iret hx hb hr (fun t9 ht9 hW9 => ⟨⟨_, _, rfl, rfl, ⟨rpc2_116, run2_116, rbo2_116, rcw2_116, gp2_116, NU, by rw [cif_neg (fun q => hb116 (okKp_congr (fun j hj => (hq j (by omega)).symm) (by omega) (okItem_to q).2))], fun q => absurd q (fun q => hb116 (okKp_congr (fun j hj => (hq j (by omega)).symm) (by omega) (okItem_to q).2)), hNU, by rw [ht9]; exact hP, by rw [hAe]; exact hD⟩⟩, by rw [hAe]; exact hS.F ht9⟩) (by rw [hAe]; exact hS.2.2) dX4_readItem_128
        · refine lv_iload hx hb dX4_readItem_32 (lv_at hl 5 rfl) ?_
          refine lv_aload_n hx hb dX4_readItem_34 rfl (lv_at hl 0 rfl) ?_
          refine va_get (D := D) (ci := 3) (v := .ref (ad 4)) (C := RX4) (T := TX4) (N := 8) hx hb ht inTB_X4 hown hK hP 1 rfl rfl 1 (by decide) (ht _ tb_29) (fun _ h9 => h9) rfl dX4_readItem_35 ?_
          refine rv_alen hx hb hK hP 3 0 rfl rfl dX4_readItem_38 ?_
          refine rv_icmp_ge (tgt := 114) hx hb dX4_readItem_39 (by decide) (by omega) (fun h39 => False.elim (by omega)) (fun h39 => ?_)
          have hkb := nxk_bd tx rlen (p + 1) i
          have hd3 := nD_le tx rlen (nxk tx rlen (p + 1) i)
          have hvv := nV_bd tx rlen (nxk tx rlen (p + 1) i)
          refine lv_aload_n hx hb dX4_readItem_42 rfl (lv_at hl 0 rfl) ?_
          refine lv_iload hx hb dX4_readItem_43 (lv_at hl 4 rfl) ?_
          refine vp_callSi (W.runV (As := [.int (iI (nxk tx rlen (p + 1) i))]) (rest := []) ⟨hx, hb, hml, hown, hts⟩ (c_X4_endOfFigures l D cs (ad 2) (ad 1) _ rlen tx (nxk tx rlen (p + 1) i) (by omega)) (cwV 1 hts (gV tb_245 tb_247 tbs_2 tb_2 tb_248) rfl rfl rfl (by decide +kernel) ⟨Nat.le_of_ble_eq_true rfl, Nat.le_of_ble_eq_true rfl⟩) (preV_rdT hK ⟨hP.sub [1, 0] rfl, rfl, rfl, hlen, htx⟩) rfl rfl hl.1 rfl (lv_room (Nat.le_of_ble_eq_true rfl)) dX4_readItem_45 ⟨Nat.le_of_ble_eq_true rfl, Nat.le_of_ble_eq_true rfl⟩) (fun r9 hr9 => ?_)
          subst hr9
          refine lv_istore (lv' := [(6, .int (iI ((nxk tx rlen (p + 1) i) + (nD tx rlen (nxk tx rlen (p + 1) i) : Int)))), (0, .ref (ad 2)), (1, .int (iI p)), (2, .int (iI (bt tx rlen p))), (3, .int (iI (nbOf (bt tx rlen p)))), (4, .int (iI (nxk tx rlen (p + 1) i))), (5, .int (iI (i : Int)))]) hx hb dX4_readItem_48 hl (by decide) rfl (fun ls hl => ?_)
          refine lv_iload hx hb dX4_readItem_50 (lv_at hl 6 rfl) ?_
          refine lv_iload_n hx hb dX4_readItem_52 rfl (lv_at hl 4 rfl) ?_
          refine rv_iconst hx hb dX4_readItem_53 ?_
          refine rv_isub hx hb dX4_readItem_54 ?_
          refine rv_icmp_ne (tgt := 63) hx hb dX4_readItem_55 (by decide) (by omega) (fun h55 => ?_) (fun h55 => ?_)
          · refine rv_bipush hx hb dX4_readItem_63 (by decide) ?_
            refine lv_istore (lv' := [(7, .int (iI 44)), (6, .int (iI ((nxk tx rlen (p + 1) i) + (nD tx rlen (nxk tx rlen (p + 1) i) : Int)))), (0, .ref (ad 2)), (1, .int (iI p)), (2, .int (iI (bt tx rlen p))), (3, .int (iI (nbOf (bt tx rlen p)))), (4, .int (iI (nxk tx rlen (p + 1) i))), (5, .int (iI (i : Int)))]) hx hb dX4_readItem_65 hl (by decide) rfl (fun ls hl => ?_)
            refine lv_iload hx hb dX4_readItem_67 (lv_at hl 1 rfl) ?_
            refine lv_iload hx hb dX4_readItem_69 (lv_at hl 6 rfl) ?_
            refine rv_icmp_eq (tgt := 85) hx hb dX4_readItem_71 (by decide) (by omega) (fun h71 => ?_) (fun h71 => ?_)
            · refine rv_iconst hx hb dX4_readItem_85 ?_
              refine W.widen (k := 2) (n := 38) (by omega) (by omega) ?_
              subst hQ
              exact W.iret hx hb hr (fun t9 ht9 hW9 => ⟨⟨_, _, rfl, rfl, ⟨rpc, run_, rbo, rcw, gp, NU, by rw [cif_neg (fun q => by have hz := (okItem_to q).1 i (by omega); first | (rw [cif_pos (by omega)] at hz; first | (have := hz.1; omega) | exact h82 hz.2) | (rw [cif_neg (by omega)] at hz; first | (have := hz.1; omega) | exact h82 hz.2))], fun q => absurd q (fun q => by have hz := (okItem_to q).1 i (by omega); first | (rw [cif_pos (by omega)] at hz; first | (have := hz.1; omega) | exact h82 hz.2) | (rw [cif_neg (by omega)] at hz; first | (have := hz.1; omega) | exact h82 hz.2)), hNU, by rw [ht9]; exact hP, by rw [hAe]; exact hD⟩⟩, by rw [hAe]; exact hS.F ht9⟩) (by rw [hAe]; exact hS.2.2) dX4_readItem_86
            · have hb9 := bt_bd (i := (nxk tx rlen (p + 1) i) + (nD tx rlen (nxk tx rlen (p + 1) i) : Int)) htx (by omega)
              refine lv_aload_n hx hb dX4_readItem_74 rfl (lv_at hl 2 rfl) ?_
              refine lv_iload hx hb dX4_readItem_75 (lv_at hl 1 rfl) ?_
              refine vp_callSi (W.runV (As := [.int (iI ((nxk tx rlen (p + 1) i) + (nD tx rlen (nxk tx rlen (p + 1) i) : Int)))]) (rest := []) ⟨hx, hb, hml, hown, hts⟩ (c_X4_letterAt l D cs (ad 2) (ad 1) _ rlen tx ((nxk tx rlen (p + 1) i) + (nD tx rlen (nxk tx rlen (p + 1) i) : Int)) (by omega)) (cwV 1 hts (gV tb_238 tb_240 tbs_1 tb_2 tb_241) rfl rfl rfl (by decide +kernel) ⟨Nat.le_of_ble_eq_true rfl, Nat.le_of_ble_eq_true rfl⟩) (preV_rdT hK ⟨hP.sub [1, 0] rfl, rfl, rfl, hlen, htx⟩) rfl rfl hl.1 rfl (lv_room (Nat.le_of_ble_eq_true rfl)) dX4_readItem_77 ⟨Nat.le_of_ble_eq_true rfl, Nat.le_of_ble_eq_true rfl⟩) (fun r9 hr9 => ?_)
              obtain ⟨rfl, hx77_0⟩ := hr9
              refine lv_iload hx hb dX4_readItem_80 (lv_at hl 0 rfl) ?_
              refine rv_icmp_eq (tgt := 87) hx hb dX4_readItem_82 (by decide) (by omega) (fun h82 => ?_) (fun h82 => ?_)
              · refine lv_aload_n hx hb dX4_readItem_87 rfl (lv_at hl 2 rfl) ?_
                refine va_get (D := D) (ci := 3) (v := .ref (ad 4)) (C := RX4) (T := TX4) (N := 8) hx hb ht inTB_X4 hown hK hP 1 rfl rfl 1 (by decide) (ht _ tb_29) (fun _ h9 => h9) rfl dX4_readItem_88 ?_
                refine lv_iload hx hb dX4_readItem_91 (lv_at hl 7 rfl) ?_
                refine lv_aload_n hx hb dX4_readItem_93 rfl (lv_at hl 2 rfl) ?_
                refine lv_iload hx hb dX4_readItem_94 (lv_at hl 6 rfl) ?_
                refine lv_iload hx hb dX4_readItem_96 (lv_at hl 1 rfl) ?_
                refine vp_callSi (W.runV (As := [.int (iI (nxk tx rlen (p + 1) i)), .int (iI ((nxk tx rlen (p + 1) i) + (nD tx rlen (nxk tx rlen (p + 1) i) : Int)))]) (rest := [.int (iI (i : Int)), .ref (ad 4)]) ⟨hx, hb, hml, hown, hts⟩ (c_X4_valueOf l D cs (ad 2) (ad 1) _ rlen tx (nxk tx rlen (p + 1) i) ((nxk tx rlen (p + 1) i) + (nD tx rlen (nxk tx rlen (p + 1) i) : Int)) (by omega) rfl) (cwV 2 hts (gV tb_253 tb_255 tbs_4 tb_2 tb_256) rfl rfl rfl (by decide +kernel) ⟨Nat.le_of_ble_eq_true rfl, Nat.le_of_ble_eq_true rfl⟩) (preV_rdT hK ⟨hP.sub [1, 0] rfl, rfl, rfl, hlen, htx⟩) rfl rfl hl.1 rfl (lv_room (Nat.le_of_ble_eq_true rfl)) dX4_readItem_98 ⟨Nat.le_of_ble_eq_true rfl, Nat.le_of_ble_eq_true rfl⟩) (fun r9 hr9 => ?_)
                subst hr9
                refine rv_iast hx hb hK hP hD hS 3 0 rfl rfl i rfl (by omega) dX4_readItem_101 (fun H locs hP hD hS => ?_)
                have hP : va_P D classes (rW1 cs ad rlen rpc run_ rbo rcw tx gp (upI NU i (nV tx rlen (nxk tx rlen (p + 1) i)))) H := hP
                have hD : va_D A (rW1 cs ad rlen rpc run_ rbo rcw tx gp (upI NU i (nV tx rlen (nxk tx rlen (p + 1) i)))) := hD
                refine lv_iload hx hb dX4_readItem_102 (lv_at hl 1 rfl) ?_
                refine rv_iconst hx hb dX4_readItem_104 ?_
                refine rv_iadd hx hb dX4_readItem_105 ?_
                refine lv_istore (lv' := [(4, .int (iI ((nxk tx rlen (p + 1) i) + (nD tx rlen (nxk tx rlen (p + 1) i) : Int) + 1))), (7, .int (iI 44)), (6, .int (iI ((nxk tx rlen (p + 1) i) + (nD tx rlen (nxk tx rlen (p + 1) i) : Int)))), (0, .ref (ad 2)), (1, .int (iI p)), (2, .int (iI (bt tx rlen p))), (3, .int (iI (nbOf (bt tx rlen p)))), (5, .int (iI (i : Int)))]) hx hb dX4_readItem_106 hl (by decide) rfl (fun ls hl => ?_)
                refine rv_iinc (k := 7) (lv' := [(5, .int (iI ((i : Int) + 1))), (4, .int (iI ((nxk tx rlen (p + 1) i) + (nD tx rlen (nxk tx rlen (p + 1) i) : Int) + 1))), (7, .int (iI 44)), (6, .int (iI ((nxk tx rlen (p + 1) i) + (nD tx rlen (nxk tx rlen (p + 1) i) : Int)))), (0, .ref (ad 2)), (1, .int (iI p)), (2, .int (iI (bt tx rlen p))), (3, .int (iI (nbOf (bt tx rlen p))))]) hx hb dX4_readItem_108 hl rfl (by decide) rfl (fun ls hl => ?_)
                refine lv_goto (tgt := 26) hx hb dX4_readItem_111 (by decide) ?_
                exact ih26 (i + 1) (upI NU i (nV tx rlen (nxk tx rlen (p + 1) i))) (by omega) (fun j h => by by_cases z : j = i; rw [z, upI_s]; rw [upI_n z]; exact hq j (by omega)) (fun j h => by by_cases z : j = i; (subst z; first | (rw [cif_pos (by omega)]; exact ⟨by omega, h82⟩) | (rw [cif_neg (by omega)]; exact ⟨by omega, h82⟩)); (exact hon j (by omega))) (fun j h => by by_cases z : j = i; rw [z, upI_s]; exact hvv; rw [upI_n z]; exact hNU j h) (by omega) _ _ rfl (by omega) H locs hP hD hS ls (lv_sub hl [4, 5, 6, 7, 1, 0] rfl)
              · refine rv_iconst hx hb dX4_readItem_85 ?_
                refine W.widen (k := 2) (n := 38) (by omega) (by omega) ?_
                subst hQ
                exact W.iret hx hb hr (fun t9 ht9 hW9 => ⟨⟨_, _, rfl, rfl, ⟨rpc, run_, rbo, rcw, gp, NU, by rw [cif_neg (fun q => by have hz := (okItem_to q).1 i (by omega); first | (rw [cif_pos (by omega)] at hz; first | (have := hz.1; omega) | exact h82 hz.2) | (rw [cif_neg (by omega)] at hz; first | (have := hz.1; omega) | exact h82 hz.2))], fun q => absurd q (fun q => by have hz := (okItem_to q).1 i (by omega); first | (rw [cif_pos (by omega)] at hz; first | (have := hz.1; omega) | exact h82 hz.2) | (rw [cif_neg (by omega)] at hz; first | (have := hz.1; omega) | exact h82 hz.2)), hNU, by rw [ht9]; exact hP, by rw [hAe]; exact hD⟩⟩, by rw [hAe]; exact hS.F ht9⟩) (by rw [hAe]; exact hS.2.2) dX4_readItem_86
          · refine rv_bipush hx hb dX4_readItem_58 (by decide) ?_
            refine lv_goto (tgt := 65) hx hb dX4_readItem_60 (by decide) ?_
            refine lv_istore (lv' := [(7, .int (iI 59)), (6, .int (iI ((nxk tx rlen (p + 1) i) + (nD tx rlen (nxk tx rlen (p + 1) i) : Int)))), (0, .ref (ad 2)), (1, .int (iI p)), (2, .int (iI (bt tx rlen p))), (3, .int (iI (nbOf (bt tx rlen p)))), (4, .int (iI (nxk tx rlen (p + 1) i))), (5, .int (iI (i : Int)))]) hx hb dX4_readItem_65 hl (by decide) rfl (fun ls hl => ?_)
            refine lv_iload hx hb dX4_readItem_67 (lv_at hl 1 rfl) ?_
            refine lv_iload hx hb dX4_readItem_69 (lv_at hl 6 rfl) ?_
            refine rv_icmp_eq (tgt := 85) hx hb dX4_readItem_71 (by decide) (by omega) (fun h71 => ?_) (fun h71 => ?_)
            · refine rv_iconst hx hb dX4_readItem_85 ?_
              refine W.widen (k := 2) (n := 38) (by omega) (by omega) ?_
              subst hQ
              exact W.iret hx hb hr (fun t9 ht9 hW9 => ⟨⟨_, _, rfl, rfl, ⟨rpc, run_, rbo, rcw, gp, NU, by rw [cif_neg (fun q => by have hz := (okItem_to q).1 i (by omega); first | (rw [cif_pos (by omega)] at hz; first | (have := hz.1; omega) | exact h82 hz.2) | (rw [cif_neg (by omega)] at hz; first | (have := hz.1; omega) | exact h82 hz.2))], fun q => absurd q (fun q => by have hz := (okItem_to q).1 i (by omega); first | (rw [cif_pos (by omega)] at hz; first | (have := hz.1; omega) | exact h82 hz.2) | (rw [cif_neg (by omega)] at hz; first | (have := hz.1; omega) | exact h82 hz.2)), hNU, by rw [ht9]; exact hP, by rw [hAe]; exact hD⟩⟩, by rw [hAe]; exact hS.F ht9⟩) (by rw [hAe]; exact hS.2.2) dX4_readItem_86
            · have hb9 := bt_bd (i := (nxk tx rlen (p + 1) i) + (nD tx rlen (nxk tx rlen (p + 1) i) : Int)) htx (by omega)
              refine lv_aload_n hx hb dX4_readItem_74 rfl (lv_at hl 2 rfl) ?_
              refine lv_iload hx hb dX4_readItem_75 (lv_at hl 1 rfl) ?_
              refine vp_callSi (W.runV (As := [.int (iI ((nxk tx rlen (p + 1) i) + (nD tx rlen (nxk tx rlen (p + 1) i) : Int)))]) (rest := []) ⟨hx, hb, hml, hown, hts⟩ (c_X4_letterAt l D cs (ad 2) (ad 1) _ rlen tx ((nxk tx rlen (p + 1) i) + (nD tx rlen (nxk tx rlen (p + 1) i) : Int)) (by omega)) (cwV 1 hts (gV tb_238 tb_240 tbs_1 tb_2 tb_241) rfl rfl rfl (by decide +kernel) ⟨Nat.le_of_ble_eq_true rfl, Nat.le_of_ble_eq_true rfl⟩) (preV_rdT hK ⟨hP.sub [1, 0] rfl, rfl, rfl, hlen, htx⟩) rfl rfl hl.1 rfl (lv_room (Nat.le_of_ble_eq_true rfl)) dX4_readItem_77 ⟨Nat.le_of_ble_eq_true rfl, Nat.le_of_ble_eq_true rfl⟩) (fun r9 hr9 => ?_)
              obtain ⟨rfl, hx77_0⟩ := hr9
              refine lv_iload hx hb dX4_readItem_80 (lv_at hl 0 rfl) ?_
              refine rv_icmp_eq (tgt := 87) hx hb dX4_readItem_82 (by decide) (by omega) (fun h82 => ?_) (fun h82 => ?_)
              · refine lv_aload_n hx hb dX4_readItem_87 rfl (lv_at hl 2 rfl) ?_
                refine va_get (D := D) (ci := 3) (v := .ref (ad 4)) (C := RX4) (T := TX4) (N := 8) hx hb ht inTB_X4 hown hK hP 1 rfl rfl 1 (by decide) (ht _ tb_29) (fun _ h9 => h9) rfl dX4_readItem_88 ?_
                refine lv_iload hx hb dX4_readItem_91 (lv_at hl 7 rfl) ?_
                refine lv_aload_n hx hb dX4_readItem_93 rfl (lv_at hl 2 rfl) ?_
                refine lv_iload hx hb dX4_readItem_94 (lv_at hl 6 rfl) ?_
                refine lv_iload hx hb dX4_readItem_96 (lv_at hl 1 rfl) ?_
                refine vp_callSi (W.runV (As := [.int (iI (nxk tx rlen (p + 1) i)), .int (iI ((nxk tx rlen (p + 1) i) + (nD tx rlen (nxk tx rlen (p + 1) i) : Int)))]) (rest := [.int (iI (i : Int)), .ref (ad 4)]) ⟨hx, hb, hml, hown, hts⟩ (c_X4_valueOf l D cs (ad 2) (ad 1) _ rlen tx (nxk tx rlen (p + 1) i) ((nxk tx rlen (p + 1) i) + (nD tx rlen (nxk tx rlen (p + 1) i) : Int)) (by omega) rfl) (cwV 2 hts (gV tb_253 tb_255 tbs_4 tb_2 tb_256) rfl rfl rfl (by decide +kernel) ⟨Nat.le_of_ble_eq_true rfl, Nat.le_of_ble_eq_true rfl⟩) (preV_rdT hK ⟨hP.sub [1, 0] rfl, rfl, rfl, hlen, htx⟩) rfl rfl hl.1 rfl (lv_room (Nat.le_of_ble_eq_true rfl)) dX4_readItem_98 ⟨Nat.le_of_ble_eq_true rfl, Nat.le_of_ble_eq_true rfl⟩) (fun r9 hr9 => ?_)
                subst hr9
                refine rv_iast hx hb hK hP hD hS 3 0 rfl rfl i rfl (by omega) dX4_readItem_101 (fun H locs hP hD hS => ?_)
                have hP : va_P D classes (rW1 cs ad rlen rpc run_ rbo rcw tx gp (upI NU i (nV tx rlen (nxk tx rlen (p + 1) i)))) H := hP
                have hD : va_D A (rW1 cs ad rlen rpc run_ rbo rcw tx gp (upI NU i (nV tx rlen (nxk tx rlen (p + 1) i)))) := hD
                refine lv_iload hx hb dX4_readItem_102 (lv_at hl 1 rfl) ?_
                refine rv_iconst hx hb dX4_readItem_104 ?_
                refine rv_iadd hx hb dX4_readItem_105 ?_
                refine lv_istore (lv' := [(4, .int (iI ((nxk tx rlen (p + 1) i) + (nD tx rlen (nxk tx rlen (p + 1) i) : Int) + 1))), (7, .int (iI 59)), (6, .int (iI ((nxk tx rlen (p + 1) i) + (nD tx rlen (nxk tx rlen (p + 1) i) : Int)))), (0, .ref (ad 2)), (1, .int (iI p)), (2, .int (iI (bt tx rlen p))), (3, .int (iI (nbOf (bt tx rlen p)))), (5, .int (iI (i : Int)))]) hx hb dX4_readItem_106 hl (by decide) rfl (fun ls hl => ?_)
                refine rv_iinc (k := 7) (lv' := [(5, .int (iI ((i : Int) + 1))), (4, .int (iI ((nxk tx rlen (p + 1) i) + (nD tx rlen (nxk tx rlen (p + 1) i) : Int) + 1))), (7, .int (iI 59)), (6, .int (iI ((nxk tx rlen (p + 1) i) + (nD tx rlen (nxk tx rlen (p + 1) i) : Int)))), (0, .ref (ad 2)), (1, .int (iI p)), (2, .int (iI (bt tx rlen p))), (3, .int (iI (nbOf (bt tx rlen p))))]) hx hb dX4_readItem_108 hl rfl (by decide) rfl (fun ls hl => ?_)
                refine lv_goto (tgt := 26) hx hb dX4_readItem_111 (by decide) ?_
                exact ih26 (i + 1) (upI NU i (nV tx rlen (nxk tx rlen (p + 1) i))) (by omega) (fun j h => by by_cases z : j = i; rw [z, upI_s]; rw [upI_n z]; exact hq j (by omega)) (fun j h => by by_cases z : j = i; (subst z; first | (rw [cif_pos (by omega)]; exact ⟨by omega, h82⟩) | (rw [cif_neg (by omega)]; exact ⟨by omega, h82⟩)); (exact hon j (by omega))) (fun j h => by by_cases z : j = i; rw [z, upI_s]; exact hvv; rw [upI_n z]; exact hNU j h) (by omega) _ _ rfl (by omega) H locs hP hD hS ls (lv_sub hl [4, 5, 6, 7, 1, 0] rfl)
              · refine rv_iconst hx hb dX4_readItem_85 ?_
                refine W.widen (k := 2) (n := 38) (by omega) (by omega) ?_
                subst hQ
                exact W.iret hx hb hr (fun t9 ht9 hW9 => ⟨⟨_, _, rfl, rfl, ⟨rpc, run_, rbo, rcw, gp, NU, by rw [cif_neg (fun q => by have hz := (okItem_to q).1 i (by omega); first | (rw [cif_pos (by omega)] at hz; first | (have := hz.1; omega) | exact h82 hz.2) | (rw [cif_neg (by omega)] at hz; first | (have := hz.1; omega) | exact h82 hz.2))], fun q => absurd q (fun q => by have hz := (okItem_to q).1 i (by omega); first | (rw [cif_pos (by omega)] at hz; first | (have := hz.1; omega) | exact h82 hz.2) | (rw [cif_neg (by omega)] at hz; first | (have := hz.1; omega) | exact h82 hz.2)), hNU, by rw [ht9]; exact hP, by rw [hAe]; exact hD⟩⟩, by rw [hAe]; exact hS.F ht9⟩) (by rw [hAe]; exact hS.2.2) dX4_readItem_86
    exact loop26 (_ + 1) 0 nu (by omega) (fun j h => absurd h (Nat.not_lt_zero _)) (fun j h => absurd h (Nat.not_lt_zero _)) hnu (Nat.lt_succ_self _) _ _ rfl rfl H locs hP hD hS ls (lv_sub hl [4, 5, 3, 2, 1, 0] rfl)
  · refine rv_iconst hx hb dX4_readItem_16 ?_
    refine W.widen (k := 2) (n := 38) (by omega) (by omega) ?_
    subst hQ
    exact W.iret hx hb hr (fun t9 ht9 hW9 => ⟨⟨_, _, rfl, rfl, ⟨rpc, run_, rbo, rcw, gp, nu, by rw [cif_neg (fun q => by have := okItem_nb q; omega)], fun q => absurd q (fun q => by have := okItem_nb q; omega), hnu, by rw [ht9]; exact hP, by rw [hAe]; exact hD⟩⟩, by rw [hAe]; exact hS.F ht9⟩) (by rw [hAe]; exact hS.2.2) dX4_readItem_17

abbrev rm_X4_firstFault : Room := { frames := 5, cells := 234, slots := 4446, locals := 126 }
set_option maxHeartbeats 8000000 in
set_option maxRecDepth 100000 in
/-- firstFault -/
theorem c_X4_firstFault (l : Launch) (D : va_G) (cs : Nat → ClassId) (ad : Nat → Nat) (sz : Nat) (rlen : Int) (rpc : Int) (run_ : Int) (rbo : Int) (rcw : Int) (rt : Value) (tx : Nat → Int) (gp : Nat → Option Nat) (nu : Nat → Int) (M : Nat → Prop) (len : Int) (hnu : ∀ j : Nat, j < 4 → 0 ≤ nu j ∧ nu j ≤ 999) (hlen : 0 ≤ len ∧ len ≤ 200) (htx : okTx tx len) (hM : ∀ q, inAd ad 1 5 q → M q) : Met l yX4_firstFault (Cond.code yX4_firstFault cX4_firstFault 5 (some .int) :: TB) rm_X4_firstFault (va_Pc [.ref (ad 2), .ref (ad 1), .int (iI len)] (MPre D cs sz (rW cs ad rlen rpc run_ rbo rcw rt tx gp nu) (fun U H => (∀ q, M q → q < H.size) ∧ PZ U H M))) (va_Qi (fun (r u : Int32) => r = u) (fun r t => ∃ (rpc2 : Int) (run2 : Int) (rbo2 : Int) (rcw2 : Int) (gp2 : Nat → Option Nat) (nu2 : Nat → Int), (r = iI (flt tx len 201 0 0)) ∧ (flt tx len 201 0 0 = -4 → RdS D cs M t.heap (lst tx len 201 0 rd0) rpc2 run2 rbo2 rcw2 gp2) ∧ (∀ j : Nat, j < 4 → 0 ≤ nu2 j ∧ nu2 j ≤ 999) ∧ (-4 ≤ flt tx len 201 0 0 ∧ flt tx len 201 0 0 < 1000) ∧ va_P D classes (rW cs ad len rpc2 run2 rbo2 rcw2 (.ref (ad 1)) tx gp2 nu2) t.heap ∧ va_D (va_A (rW cs ad rlen rpc run_ rbo rcw rt tx gp nu) sz) (rW cs ad len rpc2 run2 rbo2 rcw2 (.ref (ad 1)) tx gp2 nu2)) (va_A (rW cs ad rlen rpc run_ rbo rcw rt tx gp nu) sz)) 234 4446 (va_A (rW cs ad rlen rpc run_ rbo rcw rt tx gp nu) sz) := by
  refine enter (cc := cX4_firstFault) (maxL := 5) (ret := (some .int)) (by decide) (Nat.le_of_ble_eq_true rfl) ?_
  intro pg ev s m below meth c Q ls hx hb hml hown hts hr hlocks hnm ⟨hsz, hP, hD0, hK, hX0⟩ hl hQ
  have ht : ∀ w ∈ TB, w.before _ s = true := fun w h => hts w (List.mem_cons_of_mem _ h)
  subst hsz
  have hD := hD0.self (sz := s.heap.size)
  obtain ⟨A, hAe⟩ : ∃ A, va_A (rW cs ad rlen rpc run_ rbo rcw rt tx gp nu) s.heap.size = A := ⟨_, rfl⟩
  rw [hAe] at hD
  have hA : ∀ q : Nat, s.heap.size ≤ q → A q := fun q h => by rw [← hAe]; exact Or.inr h
  obtain ⟨H, hH⟩ : ∃ H, H = s.heap := ⟨_, rfl⟩
  obtain ⟨locs, hlocs⟩ : ∃ locs : List Loc, locs = [] := ⟨_, rfl⟩
  have hS : va_S A s.heap H locs := by rw [hH, hlocs]; exact va_S.rf
  rw [← hH] at hP
  suffices hgo : W pg l ev rm_X4_firstFault s m [.ref (ad 2), .ref (ad 1), .int (iI len)].toArray below meth c H locs 0 0 Q (F0 m 0 ls []) by rw [hH, hlocs] at hgo; exact hgo
  have hl : lv_has ls 5 [(0, .ref (ad 2)), (1, .ref (ad 1)), (2, .int (iI len))] := hl
  refine lv_aload_n hx hb dX4_firstFault_0 rfl (lv_at hl 0 rfl) ?_
  refine lv_aload_n hx hb dX4_firstFault_1 rfl (lv_at hl 1 rfl) ?_
  refine va_put (D := D) (ci := 3) (v := .ref (ad 1)) (ty := tyX4 2) (C := RX4) (T := TX4) (N := 8) hx hb ht inTB_X4 tyX4 tyX4_ok nmX4 hown hK hP hD hS 1 rfl rfl 2 (by decide) (ht _ tb_30) (fun _ h9 => h9) rfl (tyX4_ok 2 (by decide)) rfl rfl (Nat.le_of_ble_eq_true rfl) dX4_firstFault_2 (fun H locs hP hD hS => ?_)
  have hP : va_P D classes (rW cs ad rlen rpc run_ rbo rcw (.ref (ad 1)) tx gp nu) H := hP
  have hD : va_D A (rW cs ad rlen rpc run_ rbo rcw (.ref (ad 1)) tx gp nu) := hD
  refine lv_aload_n hx hb dX4_firstFault_5 rfl (lv_at hl 0 rfl) ?_
  refine lv_iload_n hx hb dX4_firstFault_6 rfl (lv_at hl 2 rfl) ?_
  refine va_put (D := D) (ci := 3) (v := .int (iI len)) (ty := tyX4 3) (C := RX4) (T := TX4) (N := 8) hx hb ht inTB_X4 tyX4 tyX4_ok nmX4 hown hK hP hD hS 1 rfl rfl 3 (by decide) (ht _ tb_31) (fun _ h9 => h9) rfl (tyX4_ok 3 (by decide)) rfl rfl (Nat.le_of_ble_eq_true rfl) dX4_firstFault_7 (fun H locs hP hD hS => ?_)
  have hP : va_P D classes (rW cs ad len rpc run_ rbo rcw (.ref (ad 1)) tx gp nu) H := hP
  have hD : va_D A (rW cs ad len rpc run_ rbo rcw (.ref (ad 1)) tx gp nu) := hD
  refine lv_aload_n hx hb dX4_firstFault_10 rfl (lv_at hl 0 rfl) ?_
  refine rv_iconst hx hb dX4_firstFault_11 ?_
  refine va_put (D := D) (ci := 3) (v := .int (iI 0)) (ty := tyX4 4) (C := RX4) (T := TX4) (N := 8) hx hb ht inTB_X4 tyX4 tyX4_ok nmX4 hown hK hP hD hS 1 rfl rfl 4 (by decide) (ht _ tb_32) (fun _ h9 => h9) rfl (tyX4_ok 4 (by decide)) rfl rfl (Nat.le_of_ble_eq_true rfl) dX4_firstFault_12 (fun H locs hP hD hS => ?_)
  have hP : va_P D classes (rW cs ad len 0 run_ rbo rcw (.ref (ad 1)) tx gp nu) H := hP
  have hD : va_D A (rW cs ad len 0 run_ rbo rcw (.ref (ad 1)) tx gp nu) := hD
  refine lv_aload_n hx hb dX4_firstFault_15 rfl (lv_at hl 0 rfl) ?_
  refine rv_iconst hx hb dX4_firstFault_16 ?_
  refine va_put (D := D) (ci := 3) (v := .int (iI 3)) (ty := tyX4 5) (C := RX4) (T := TX4) (N := 8) hx hb ht inTB_X4 tyX4 tyX4_ok nmX4 hown hK hP hD hS 1 rfl rfl 5 (by decide) (ht _ tb_33) (fun _ h9 => h9) rfl (tyX4_ok 5 (by decide)) rfl rfl (Nat.le_of_ble_eq_true rfl) dX4_firstFault_17 (fun H locs hP hD hS => ?_)
  have hP : va_P D classes (rW cs ad len 0 3 rbo rcw (.ref (ad 1)) tx gp nu) H := hP
  have hD : va_D A (rW cs ad len 0 3 rbo rcw (.ref (ad 1)) tx gp nu) := hD
  refine lv_aload_n hx hb dX4_firstFault_20 rfl (lv_at hl 0 rfl) ?_
  refine rv_bipush hx hb dX4_firstFault_21 (by decide) ?_
  refine va_put (D := D) (ci := 3) (v := .int (iI 100)) (ty := tyX4 6) (C := RX4) (T := TX4) (N := 8) hx hb ht inTB_X4 tyX4 tyX4_ok nmX4 hown hK hP hD hS 1 rfl rfl 6 (by decide) (ht _ tb_34) (fun _ h9 => h9) rfl (tyX4_ok 6 (by decide)) rfl rfl (Nat.le_of_ble_eq_true rfl) dX4_firstFault_23 (fun H locs hP hD hS => ?_)
  have hP : va_P D classes (rW cs ad len 0 3 100 rcw (.ref (ad 1)) tx gp nu) H := hP
  have hD : va_D A (rW cs ad len 0 3 100 rcw (.ref (ad 1)) tx gp nu) := hD
  refine lv_aload_n hx hb dX4_firstFault_26 rfl (lv_at hl 0 rfl) ?_
  refine rv_iconst hx hb dX4_firstFault_27 ?_
  refine va_put (D := D) (ci := 3) (v := .int (iI 1)) (ty := tyX4 7) (C := RX4) (T := TX4) (N := 8) hx hb ht inTB_X4 tyX4 tyX4_ok nmX4 hown hK hP hD hS 1 rfl rfl 7 (by decide) (ht _ tb_35) (fun _ h9 => h9) rfl (tyX4_ok 7 (by decide)) rfl rfl (Nat.le_of_ble_eq_true rfl) dX4_firstFault_28 (fun H locs hP hD hS => ?_)
  have hP : va_P D classes (rW cs ad len 0 3 100 1 (.ref (ad 1)) tx gp nu) H := hP
  have hD : va_D A (rW cs ad len 0 3 100 1 (.ref (ad 1)) tx gp nu) := hD
  refine rv_iconst hx hb dX4_firstFault_31 ?_
  refine lv_istore_n (lv' := [(3, .int (iI 0)), (0, .ref (ad 2)), (1, .ref (ad 1)), (2, .int (iI len))]) hx hb dX4_firstFault_32 rfl hl (by decide) rfl (fun ls hl => ?_)
  refine rv_iconst hx hb dX4_firstFault_33 ?_
  refine lv_istore (lv' := [(4, .int (iI 0)), (3, .int (iI 0)), (0, .ref (ad 2)), (1, .ref (ad 1)), (2, .int (iI len))]) hx hb dX4_firstFault_34 hl (by decide) rfl (fun ls hl => ?_)
  have loop36 : ∀ (fuel36 : Nat) (k : Nat) (n : Nat) (i : Int) (e3 : Int) (V1 : Nat → Int) (g1 : Int) (g2 : Int) (g3 : Int) (g4 : Int) (G5 : Nat → Option Nat) (N1 : Nat → Int), (0 ≤ i ∧ i ≤ 230) → (2 * (n : Int) ≤ i) → (len - i ≤ (k : Int)) → (flt tx len k i (V1 20) = flt tx len 201 0 0) → (lst tx len k i V1 = lst tx len 201 0 rd0) → (∀ j : Nat, j < 4 → 0 ≤ N1 j ∧ N1 j ≤ 999) → (300 - i).toNat < fuel36 → ∀ (H : Heap) (locs : List Loc), va_P D classes (rW cs ad len g1 g2 g3 g4 (.ref (ad 1)) tx G5 N1) H → va_D A (rW cs ad len g1 g2 g3 g4 (.ref (ad 1)) tx G5 N1) → va_S A s.heap H locs → (RdS D cs M H V1 g1 g2 g3 g4 G5) → ∀ ls : Array Slot, lv_has ls 5 [(0, .ref (ad 2)), (1, .ref (ad 1)), (2, .int (iI len)), (3, .int (iI e3)), (4, .int (iI i))] → W pg l ev rm_X4_firstFault s m [.ref (ad 2), .ref (ad 1), .int (iI len)].toArray below meth c H locs (2 * n) (38 * n) Q (F0 m 36 ls []) := by
    intro fuel36
    induction fuel36 with
    | zero => intro k n i e3 V1 g1 g2 g3 g4 G5 N1 hi hn hk hfl hls hN1 hfuel36; exact absurd hfuel36 (Nat.not_lt_zero _)
    | succ fuel36 ih36 =>
      intro k n i e3 V1 g1 g2 g3 g4 G5 N1 hi hn hk hfl hls hN1 hfuel36 H locs hP hD hS hrd ls hl
      refine lv_iload hx hb dX4_firstFault_36 (lv_at hl 4 rfl) ?_
      refine lv_aload_n hx hb dX4_firstFault_38 rfl (lv_at hl 0 rfl) ?_
      refine va_get (D := D) (ci := 3) (v := .int (iI len)) (C := RX4) (T := TX4) (N := 8) hx hb ht inTB_X4 hown hK hP 1 rfl rfl 3 (by decide) (ht _ tb_31) (fun _ h9 => h9) rfl dX4_firstFault_39 ?_
      refine rv_icmp_ge (tgt := 67) hx hb dX4_firstFault_42 (by decide) (by omega) (fun h42 => ?_) (fun h42 => ?_)
      · refine rv_bipush hx hb dX4_firstFault_67 (by decide) ?_
        refine W.widen (k := 234) (n := 4446) (by omega) (by omega) ?_
        subst hQ
        exact W.iret hx hb hr (fun t9 ht9 hW9 => ⟨⟨_, _, rfl, rfl, ⟨g1, g2, g3, g4, G5, N1, by rw [← hfl]; cases k with | zero => rfl | succ k => rw [flt, cif_neg (by omega)], fun q => by rw [ht9, ← hls]; cases k with | zero => exact hrd | succ k => rw [lst, cF_neg (by omega)]; exact hrd, hN1, by rw [← hfl]; cases k with | zero => exact (show (-4 : Int) ≤ -4 ∧ (-4 : Int) < 1000 by decide) | succ k => rw [flt, cif_neg (by omega)]; decide, by rw [ht9]; exact hP, by rw [hAe]; exact hD⟩⟩, by rw [hAe]; exact hS.F ht9⟩) (by rw [hAe]; exact hS.2.2) dX4_firstFault_69
      · refine lv_aload_n hx hb dX4_firstFault_45 rfl (lv_at hl 0 rfl) ?_
        refine lv_iload hx hb dX4_firstFault_46 (lv_at hl 4 rfl) ?_
        have hFc := va_free (wc := (rW1 cs ad len g1 g2 g3 g4 tx G5 N1)) hD hS hA [0, 1, 2, 3] rfl
        refine va_calli (va_runV (As := [.int (iI i)]) (rest := []) ⟨hx, hb, hml, hown, hts⟩ (c_X4_readItem l D cs ad H.size len g1 g2 g3 g4 tx G5 N1 M V1 i hN1 hlen htx hM (by omega)) (cwV 1 hts (gV tb_234 tb_236 tbs_0 tb_2 tb_237) rfl rfl rfl (by decide +kernel) ⟨Nat.le_of_ble_eq_true rfl, Nat.le_of_ble_eq_true rfl⟩) (preV_M (X := fun U H => ((∀ q, M q → q < H.size) ∧ RdS D cs M H V1 g1 g2 g3 g4 G5) ∧ PZ U H M) (Stb_and Stb_H (PZ_stb M)) hK (va_recv hK hP (ci := 3) (q0 := 1) rfl rfl) hP hD ⟨⟨(fun q z => Nat.lt_of_lt_of_le (hX0.1 q z) hS.1), hrd⟩, PZ.inS hX0.2 (fun q z => hM q (Mw_rW q z)) hAe hS⟩) rfl rfl hl.1 rfl (lv_room (Nat.le_of_ble_eq_true rfl)) dX4_firstFault_48 ⟨by simp only [rm_X4_firstFault]; omega, by simp only [rm_X4_firstFault]; omega⟩) hS (fun q _ h => hFc q h) hFc (fun r9 u9 t9 H9 locs ht9 hvm9 hw9 hB9 hz9 hk9 hS => ?_)
        obtain rfl := hw9
        obtain ⟨rpc2_48, run2_48, rbo2_48, rcw2_48, gp2_48, nu2_48, hf48_0, hf48_1, hf48_2, hP1, hD1⟩ := hB9
        rw [ht9] at hP1
        rw [ht9] at hf48_1
        have hP := hP1
        have hD := hD1.weaken (fun _ _ _ h => hFc _ h)
        generalize H9 = H at *
        have hP : va_P D classes (rW cs ad len rpc2_48 run2_48 rbo2_48 rcw2_48 (.ref (ad 1)) tx gp2_48 nu2_48) H := hP
        have hD : va_D A (rW cs ad len rpc2_48 run2_48 rbo2_48 rcw2_48 (.ref (ad 1)) tx gp2_48 nu2_48) := hD
        have hni := nxItem_gt tx len (bt tx len i) (i + 1)
        have hrb : (-1 ≤ cif (okItem tx len (V1 20) (bt tx len i) (i + 1)) (nxItem tx len (bt tx len i) (i + 1)) (-1)) ∧ cif (okItem tx len (V1 20) (bt tx len i) (i + 1)) (nxItem tx len (bt tx len i) (i + 1)) (-1) ≤ 1000 := by by_cases z : okItem tx len (V1 20) (bt tx len i) (i + 1); rw [cif_pos z]; omega; rw [cif_neg z]; omega
        subst hf48_0
        refine lv_istore_n (lv' := [(3, .int (iI (cif (okItem tx len (V1 20) (bt tx len i) (i + 1)) (nxItem tx len (bt tx len i) (i + 1)) (-1)))), (0, .ref (ad 2)), (1, .ref (ad 1)), (2, .int (iI len)), (4, .int (iI i))]) hx hb dX4_firstFault_51 rfl hl (by decide) rfl (fun ls hl => ?_)
        refine lv_iload_n hx hb dX4_firstFault_52 rfl (lv_at hl 0 rfl) ?_
        refine lv_iload hx hb dX4_firstFault_53 (lv_at hl 4 rfl) ?_
        refine rv_icmp_gt (tgt := 61) hx hb dX4_firstFault_55 (by decide) (by omega) (fun h55 => ?_) (fun h55 => ?_)
        · have hok : okItem tx len (V1 20) (bt tx len i) (i + 1) := Classical.byContradiction (fun z => by rw [cif_neg z] at h55; omega)
          refine lv_iload_n hx hb dX4_firstFault_61 rfl (lv_at hl 0 rfl) ?_
          refine lv_istore (lv' := [(4, .int (iI (cif (okItem tx len (V1 20) (bt tx len i) (i + 1)) (nxItem tx len (bt tx len i) (i + 1)) (-1)))), (3, .int (iI (cif (okItem tx len (V1 20) (bt tx len i) (i + 1)) (nxItem tx len (bt tx len i) (i + 1)) (-1)))), (0, .ref (ad 2)), (1, .ref (ad 1)), (2, .int (iI len))]) hx hb dX4_firstFault_62 hl (by decide) rfl (fun ls hl => ?_)
          refine lv_goto (tgt := 36) hx hb dX4_firstFault_64 (by decide) ?_
          have hce : cif (okItem tx len (V1 20) (bt tx len i) (i + 1)) (nxItem tx len (bt tx len i) (i + 1)) (-1) = nxItem tx len (bt tx len i) (i + 1) := cif_pos hok
          have hrd2 := hf48_1 hok
          rw [show k = (k - 1) + 1 by omega, flt, cif_pos (by omega), cif_pos hok] at hfl
          rw [show k = (k - 1) + 1 by omega, lst, cF_pos (by omega)] at hls
          refine W.widen (k := 2 * (n + 1)) (n := 38 * (n + 1)) (by omega) (by omega) ?_
          exact ih36 (k - 1) (n + 1) (cif (okItem tx len (V1 20) (bt tx len i) (i + 1)) (nxItem tx len (bt tx len i) (i + 1)) (-1)) (cif (okItem tx len (V1 20) (bt tx len i) (i + 1)) (nxItem tx len (bt tx len i) (i + 1)) (-1)) (stItem tx len V1 (bt tx len i) (i + 1)) rpc2_48 run2_48 rbo2_48 rcw2_48 gp2_48 nu2_48 (by rw [hce]; omega) (by rw [hce]; omega) (by rw [hce]; omega) (by rw [hce, st_20 hrd.1.1 hok]; exact hfl) (by rw [hce]; exact hls) hf48_2 (by rw [hce]; omega) H locs hP hD hS hrd2 ls (lv_sub hl [2, 3, 4, 1, 0] rfl)
        · have hnok : ¬ (okItem tx len (V1 20) (bt tx len i) (i + 1)) := fun z => by rw [cif_pos z] at h55; omega
          refine lv_iload hx hb dX4_firstFault_58 (lv_at hl 4 rfl) ?_
          refine W.widen (k := 234) (n := 4446) (by omega) (by omega) ?_
          subst hQ
          exact W.iret hx hb hr (fun t9 ht9 hW9 => ⟨⟨_, _, rfl, rfl, ⟨rpc2_48, run2_48, rbo2_48, rcw2_48, gp2_48, nu2_48, by rw [← hfl, show k = (k - 1) + 1 by omega, flt, cif_pos (by omega), cif_neg hnok], fun q => by rw [← hfl, show k = (k - 1) + 1 by omega, flt, cif_pos (by omega), cif_neg hnok] at q; omega, hf48_2, by rw [← hfl, show k = (k - 1) + 1 by omega, flt, cif_pos (by omega), cif_neg hnok]; omega, by rw [ht9]; exact hP, by rw [hAe]; exact hD⟩⟩, by rw [hAe]; exact hS.F ht9⟩) (by rw [hAe]; exact hS.2.2) dX4_firstFault_60
  exact loop36 (_ + 1) 201 0 0 0 rd0 0 3 100 1 gp nu (by omega) (by omega) (by omega) rfl rfl hnu (Nat.lt_succ_self _) H locs hP hD hS ⟨vL_rd0, rfl, rfl, rfl, rfl, fun q hq => by have h2 : rd0 20 = 0 := rfl; rw [h2] at hq; omega⟩ ls (lv_sub hl [2, 3, 4, 1, 0] rfl)

abbrev rm_X4_planRead : Room := { frames := 2, cells := 2, slots := 8, locals := 36 }
set_option maxHeartbeats 8000000 in
set_option maxRecDepth 100000 in
/-- planRead -/
theorem c_X4_planRead (l : Launch) (D : va_G) (cs : Nat → ClassId) (ad : Nat → Nat) (sz : Nat) (rlen : Int) (rpc : Int) (run_ : Int) (rbo : Int) (rcw : Int) (tx : Nat → Int) (gp : Nat → Option Nat) (nu : Nat → Int) (M : Nat → Prop) (v : Nat → Int) (hM : ∀ q, inAd ad 1 5 q → M q) : Met l yX4_planRead (Cond.code yX4_planRead cX4_planRead 3 (some (.object "SoundWells$Plan")) :: TB) rm_X4_planRead (va_Pc [.ref (ad 2)] (MPre D cs sz (rW1 cs ad rlen rpc run_ rbo rcw tx gp nu) (fun U H => ((∀ q, M q → q < H.size) ∧ RdS D cs M H v rpc run_ rbo rcw gp) ∧ ST U))) (va_Qr (fun _ : Unit => True) (fun _ r t => (PlanAt D cs M t.heap r v) ∧ va_P D classes (rW1 cs ad rlen rpc run_ rbo rcw tx gp nu) t.heap ∧ va_D (va_A (rW1 cs ad rlen rpc run_ rbo rcw tx gp nu) sz) (rW1 cs ad rlen rpc run_ rbo rcw tx gp nu)) (va_A (rW1 cs ad rlen rpc run_ rbo rcw tx gp nu) sz)) 2 8 (va_A (rW1 cs ad rlen rpc run_ rbo rcw tx gp nu) sz) := by
  refine enter (cc := cX4_planRead) (maxL := 3) (ret := (some (.object "SoundWells$Plan"))) (by decide) (Nat.le_of_ble_eq_true rfl) ?_
  intro pg ev s m below meth c Q ls hx hb hml hown hts hr hlocks hnm ⟨hsz, hP, hD0, hK, hX0⟩ hl hQ
  have ht : ∀ w ∈ TB, w.before _ s = true := fun w h => hts w (List.mem_cons_of_mem _ h)
  subst hsz
  have hD := hD0.self (sz := s.heap.size)
  obtain ⟨A, hAe⟩ : ∃ A, va_A (rW1 cs ad rlen rpc run_ rbo rcw tx gp nu) s.heap.size = A := ⟨_, rfl⟩
  rw [hAe] at hD
  have hA : ∀ q : Nat, s.heap.size ≤ q → A q := fun q h => by rw [← hAe]; exact Or.inr h
  obtain ⟨H, hH⟩ : ∃ H, H = s.heap := ⟨_, rfl⟩
  obtain ⟨locs, hlocs⟩ : ∃ locs : List Loc, locs = [] := ⟨_, rfl⟩
  have hS : va_S A s.heap H locs := by rw [hH, hlocs]; exact va_S.rf
  rw [← hH] at hP
  suffices hgo : W pg l ev rm_X4_planRead s m [.ref (ad 2)].toArray below meth c H locs 0 0 Q (F0 m 0 ls []) by rw [hH, hlocs] at hgo; exact hgo
  have hl : lv_has ls 3 [(0, .ref (ad 2))] := hl
  have hAO2 := hX0.2.1
  obtain ⟨hvL, hr0, hr1, hr2, hr3, hr4⟩ := id hX0.1.2
  obtain ⟨hv20, hv21, hv22, hv23, hvp⟩ := id hvL
  refine rv_iconst hx hb dX4_planRead_0 ?_
  refine lv_aload_n hx hb dX4_planRead_1 rfl (lv_at hl 0 rfl) ?_
  refine va_get (D := D) (ci := 3) (v := .int (iI rpc)) (C := RX4) (T := TX4) (N := 8) hx hb ht inTB_X4 hown hK hP 1 rfl rfl 4 (by decide) (ht _ tb_32) (fun _ h9 => h9) rfl dX4_planRead_2 ?_
  refine lv_aload_n hx hb dX4_planRead_5 rfl (lv_at hl 0 rfl) ?_
  refine va_get (D := D) (ci := 3) (v := .ref (ad 3)) (C := RX4) (T := TX4) (N := 8) hx hb ht inTB_X4 hown hK hP 1 rfl rfl 0 (by decide) (ht _ tb_28) (fun _ h9 => h9) rfl dX4_planRead_6 ?_
  refine rv_alen hx hb hK hP 2 2 rfl rfl dX4_planRead_9 ?_
  refine rv_mmin hx hb (hml.trans hl.1.symm) hown (ht _ tb_298) (ht _ tb_299) (ht _ tb_9) (ht _ tb_300) (Nat.le_of_ble_eq_true rfl) (Nat.le_of_ble_eq_true rfl) (Nat.le_of_ble_eq_true rfl) (Nat.le_of_ble_eq_true rfl) (by omega) dX4_planRead_10 ?_
  refine rv_mmax hx hb (hml.trans hl.1.symm) hown (ht _ tb_301) (ht _ tb_302) (ht _ tb_9) (ht _ tb_303) (Nat.le_of_ble_eq_true rfl) (Nat.le_of_ble_eq_true rfl) (Nat.le_of_ble_eq_true rfl) (Nat.le_of_ble_eq_true rfl) (by unfold mnI; split <;> omega) dX4_planRead_13 ?_
  refine rv_newq (C := "SoundWells$Panel") (t0 := 2) (cT := cs 2) hx hb hown (ht _ tb_26) hAO2 hK rfl hP hD hS hA ((v 20).toNat) (by unfold mxI mnI; split <;> split <;> omega) (by omega) (Nat.le_of_ble_eq_true rfl) (by simp only [rm_X4_planRead]; omega) dX4_planRead_16 (fun q16 H hP hD hS => ?_)
  have hP : va_P D classes (rW1 cs ad rlen rpc run_ rbo rcw tx gp nu ++ [(q16, raC (cs 2) ((v 20).toNat) (fun _ => none))]) H := hP
  have hD : va_D A (rW1 cs ad rlen rpc run_ rbo rcw tx gp nu ++ [(q16, raC (cs 2) ((v 20).toNat) (fun _ => none))]) := hD
  refine W.widen (k := 1) (n := 4) (by omega) (by omega) ?_
  refine lv_astore_n (lv' := [(1, .ref q16), (0, .ref (ad 2))]) hx hb dX4_planRead_19 rfl hl (by decide) rfl (fun ls hl => ?_)
  refine rv_iconst hx hb dX4_planRead_20 ?_
  refine lv_istore_n (lv' := [(2, .int (iI 0)), (1, .ref q16), (0, .ref (ad 2))]) hx hb dX4_planRead_21 rfl hl (by decide) rfl (fun ls hl => ?_)
  have loop22 : ∀ (fuel22 : Nat) (i : Nat) (G : Nat → Option Nat), ((i : Int) ≤ v 20) → (∀ j : Nat, j < i → G j = gp j) → (v 20 - (i : Int)).toNat < fuel22 → ∀ (x2 : Int), x2 = (i : Int) → ∀ (H : Heap) (locs : List Loc), va_P D classes (rW1 cs ad rlen rpc run_ rbo rcw tx gp nu ++ [(q16, raC (cs 2) ((v 20).toNat) G)]) H → va_D A (rW1 cs ad rlen rpc run_ rbo rcw tx gp nu ++ [(q16, raC (cs 2) ((v 20).toNat) G)]) → va_S A s.heap H locs → ∀ ls : Array Slot, lv_has ls 3 [(0, .ref (ad 2)), (1, .ref q16), (2, .int (iI x2))] → W pg l ev rm_X4_planRead s m [.ref (ad 2)].toArray below meth c H locs 1 4 Q (F0 m 22 ls []) := by
    intro fuel22
    induction fuel22 with
    | zero => intro i G hi hG hfuel22; exact absurd hfuel22 (Nat.not_lt_zero _)
    | succ fuel22 ih22 =>
      intro i G hi hG hfuel22 x2 ex2 H locs hP hD hS ls hl
      subst ex2
      refine lv_iload_n hx hb dX4_planRead_22 rfl (lv_at hl 2 rfl) ?_
      refine lv_aload_n hx hb dX4_planRead_23 rfl (lv_at hl 1 rfl) ?_
      refine rv_alen hx hb hK hP 4 2 rfl rfl dX4_planRead_24 ?_
      refine rv_icmp_ge (tgt := 43) hx hb dX4_planRead_25 (by decide) (by omega) (fun h25 => ?_) (fun h25 => ?_)
      · refine va_new (ci := 2) (fs := [.null, .int (iI 0), .int (iI 0), .int (iI 0)]) (C := RX3) (T := TX3) (N := 4) hx hb ht inTB_X3 tyX3 tyX3_ok hown (ht _ tb_304) (ht _ tb_173) (ht _ tb_7) hK hP hD hS hA rfl (fun j hj => by rcases (show j = 0 ∨ j = 1 ∨ j = 2 ∨ j = 3 by omega) with rfl | rfl | rfl | rfl <;> rfl) (Nat.le_of_ble_eq_true rfl) (Nat.le_of_ble_eq_true rfl) dX4_planRead_43 (fun q43 H hP hD hS => ?_)
        have hP : va_P D classes (rW1 cs ad rlen rpc run_ rbo rcw tx gp nu ++ [(q16, raC (cs 2) ((v 20).toNat) G), (q43, .inr (2, [.null, .int (iI 0), .int (iI 0), .int (iI 0)]))]) H := hP
        have hD : va_D A (rW1 cs ad rlen rpc run_ rbo rcw tx gp nu ++ [(q16, raC (cs 2) ((v 20).toNat) G), (q43, .inr (2, [.null, .int (iI 0), .int (iI 0), .int (iI 0)]))]) := hD
        refine lv_dup hx hb dX4_planRead_46 rfl ?_
        refine lv_aload_n hx hb dX4_planRead_47 rfl (lv_at hl 1 rfl) ?_
        refine lv_aload_n hx hb dX4_planRead_48 rfl (lv_at hl 0 rfl) ?_
        refine va_get (D := D) (ci := 3) (v := .int (iI run_)) (C := RX4) (T := TX4) (N := 8) hx hb ht inTB_X4 hown hK hP 1 rfl rfl 5 (by decide) (ht _ tb_33) (fun _ h9 => h9) rfl dX4_planRead_49 ?_
        refine lv_aload_n hx hb dX4_planRead_52 rfl (lv_at hl 0 rfl) ?_
        refine va_get (D := D) (ci := 3) (v := .int (iI rbo)) (C := RX4) (T := TX4) (N := 8) hx hb ht inTB_X4 hown hK hP 1 rfl rfl 6 (by decide) (ht _ tb_34) (fun _ h9 => h9) rfl dX4_planRead_53 ?_
        refine lv_aload_n hx hb dX4_planRead_56 rfl (lv_at hl 0 rfl) ?_
        refine va_get (D := D) (ci := 3) (v := .int (iI rcw)) (C := RX4) (T := TX4) (N := 8) hx hb ht inTB_X4 hown hK hP 1 rfl rfl 7 (by decide) (ht _ tb_35) (fun _ h9 => h9) rfl dX4_planRead_57 ?_
        have hFc := va_free (wc := [(q43, .inr (2, [.null, .int (iI 0), .int (iI 0), .int (iI 0)]))]) hD hS hA [5] rfl
        have hPc := hP.sub (ws' := [(q43, .inr (2, [.null, .int (iI 0), .int (iI 0), .int (iI 0)]))]) [5] rfl
        have hDc := hD.sub (ws' := [(q43, .inr (2, [.null, .int (iI 0), .int (iI 0), .int (iI 0)]))]) [5] (by decide) rfl
        refine va_callv (va_runI (As := [.ref q16, .int (iI run_), .int (iI rbo), .int (iI rcw)]) (rest := [.ref q43]) ⟨hx, hb, hml, hown, hts⟩ (c_X3_init l D cs H.size q43 q16 run_ rbo rcw) (cwI 4 hts (gTB tb_176) rfl rfl rfl (ht _ tb_7) (ht _ tb_305) (ht _ tb_175) rfl (by decide +kernel) ⟨Nat.le_of_ble_eq_true rfl, Nat.le_of_ble_eq_true rfl⟩) (preS_M (X := fun _ _ => True) Stb_T hK hPc hDc trivial) rfl rfl hl.1 rfl (lv_room (Nat.le_of_ble_eq_true rfl)) dX4_planRead_60 ⟨Nat.le_of_ble_eq_true rfl, Nat.le_of_ble_eq_true rfl⟩) hS (fun q _ h => hFc q h) hFc (fun u9 t9 H9 locs ht9 hvm9 hw9 hB9 hz9 hk9 hS => ?_)
        obtain ⟨hP1, hD1⟩ := hB9
        rw [ht9] at hP1
        obtain ⟨hPj, hDj⟩ := va_join (wr := [_, _, _, _, _]) hP hD [5] [0, 1, 2, 3, 4] rfl rfl (by decide) (by decide) hk9 hFc hP1 hD1
        generalize H9 = H at *
        have hP : va_P D classes (rW1 cs ad rlen rpc run_ rbo rcw tx gp nu ++ [(q16, raC (cs 2) ((v 20).toNat) G), (q43, .inr (2, [.ref q16, .int (iI run_), .int (iI rbo), .int (iI rcw)]))]) H := hPj
        have hD : va_D A (rW1 cs ad rlen rpc run_ rbo rcw tx gp nu ++ [(q16, raC (cs 2) ((v 20).toNat) G), (q43, .inr (2, [.ref q16, .int (iI run_), .int (iI rbo), .int (iI rcw)]))]) := hDj
        obtain ⟨_, _, _, _, _, hgy⟩ := RdS.inS hX0.1.2 (fun q z => hM q (Mw_rW q z)) hAe hS
        subst hQ
        exact W.aret (v := .ref q43) hx hb hr (Or.inl ⟨_, rfl⟩) (Or.inr ⟨_, rfl⟩) (fun t9 ht9 hW9 => ⟨⟨(), _, rfl, trivial, ⟨by rw [ht9]; refine ⟨hvL, q16, G, ?_, newM2 (i := 5) hAe hX0.1.1 hD rfl rfl (Nat.le_of_ble_eq_true rfl), newM2 (i := 4) hAe hX0.1.1 hD rfl rfl (Nat.le_of_ble_eq_true rfl), fun q hq => ?_⟩; (rw [← hr1, ← hr2, ← hr3]; exact va_P.of2 (hP 5 _ rfl) (hP 4 _ rfl)); (rw [hG q (by omega)]; exact hgy q hq), by rw [ht9]; exact hP.sub [0, 1, 2, 3] rfl, by rw [hAe]; exact hD.sub [0, 1, 2, 3] (by decide) rfl⟩⟩, by rw [hAe]; exact hS.F ht9⟩) (by rw [hAe]; exact hS.2.2) dX4_planRead_63
      · refine lv_aload_n hx hb dX4_planRead_28 rfl (lv_at hl 1 rfl) ?_
        refine lv_iload_n hx hb dX4_planRead_29 rfl (lv_at hl 2 rfl) ?_
        obtain ⟨_, _, _, _, _, hgy⟩ := RdS.inS hX0.1.2 (fun q z => hM q (Mw_rW q z)) hAe hS
        obtain ⟨y, hy, hpy⟩ := hgy i (by omega)
        refine lv_aload_n hx hb dX4_planRead_30 rfl (lv_at hl 0 rfl) ?_
        refine va_get (D := D) (ci := 3) (v := .ref (ad 3)) (C := RX4) (T := TX4) (N := 8) hx hb ht inTB_X4 hown hK hP 1 rfl rfl 0 (by decide) (ht _ tb_28) (fun _ h9 => h9) rfl dX4_planRead_31 ?_
        refine lv_iload_n hx hb dX4_planRead_34 rfl (lv_at hl 2 rfl) ?_
        refine rv_aald (y := y) hx hb hK hP 2 2 rfl rfl i rfl (by omega) hy dX4_planRead_35 ?_
        refine rv_aast hx hb hK hP hD hS 4 2 rfl rfl (by obtain ⟨hz, rz, rowz, hz1, -⟩ := hpy; exact any_of (r := (RX1, TX1, 7)) hK rfl hz1.two.1) i rfl (by omega) dX4_planRead_36 (fun H locs hP hD hS => ?_)
        have hP : va_P D classes (rW1 cs ad rlen rpc run_ rbo rcw tx gp nu ++ [(q16, raC (cs 2) ((v 20).toNat) (va_up G i (some y)))]) H := hP
        have hD : va_D A (rW1 cs ad rlen rpc run_ rbo rcw tx gp nu ++ [(q16, raC (cs 2) ((v 20).toNat) (va_up G i (some y)))]) := hD
        refine rv_iinc (k := 2) (lv' := [(2, .int (iI ((i : Int) + 1))), (0, .ref (ad 2)), (1, .ref q16)]) hx hb dX4_planRead_37 hl rfl (by decide) rfl (fun ls hl => ?_)
        refine lv_goto (tgt := 22) hx hb dX4_planRead_40 (by decide) ?_
        exact ih22 (i + 1) (va_up G i (some y)) (by omega) (fun j h => by by_cases z : j = i; (subst z; rw [va_up_s, hy]); (rw [va_up_n z]; exact hG j (by omega))) (by omega) _ (by omega) H locs hP hD hS ls (lv_sub hl [1, 2, 0] rfl)
  exact loop22 (_ + 1) 0 (fun _ => none) (by omega) (fun j h => absurd h (Nat.not_lt_zero _)) (Nat.lt_succ_self _) _ rfl H locs hP hD hS ls (lv_sub hl [2, 1, 0] rfl)

