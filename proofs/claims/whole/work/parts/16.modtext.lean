/-! the model: reading the text -/

abbrev rm_X7_number : Room := { frames := 1, cells := 0, slots := 0, locals := 25 }
set_option maxHeartbeats 8000000 in
set_option maxRecDepth 100000 in
/-- number -/
theorem c_X7_number (l : Launch) (D : va_G) (cs : Nat → ClassId) (ad : Nat → Nat) (sz : Nat) (len : Int) (spot : Int) (un : Int) (bo : Int) (cu : Int) (lo : Int) (wh : Int) (tx : Nat → Int) (now : Nat → Int) (rd : Nat → Int) (bf : Nat → Int) (bl : Nat → Int) (us : Nat → Int) (lg : Nat → Int) (bd : Nat → Int) (dp : Nat → Int) (to_ : Int) (lw : Int) (hg : Int) (en : Int) (hlen : 0 ≤ len ∧ len ≤ 200) (htx : okTx tx len) (hsp : 0 ≤ spot ∧ spot ≤ 300) (hto : 0 ≤ to_ ∧ to_ < 24) (hlw : -2147483648 ≤ lw ∧ lw < 2147483648) (hhg : -2147483648 ≤ hg ∧ hg < 2147483648) (hen : -2147483648 ≤ en ∧ en < 2147483648) : Met l yX7_number (Cond.code yX7_number cX7_number 8 (some .boolean) :: TB) rm_X7_number (va_Pc [.ref (ad 0), .int (iI to_), .int (iI lw), .int (iI hg), .int (iI en)] (MPre D cs sz (mW cs ad len spot un bo cu lo wh tx now rd bf bl us lg bd dp) (fun _ _ => True))) (va_Qi (fun (r u : Int32) => r = u) (fun r t => ((r = iI 1 ∧ (0 < nD tx len spot ∧ (lw ≤ nV tx len spot ∧ nV tx len spot ≤ hg) ∧ bt tx len (spot + (nD tx len spot : Int)) = en)) ∨ (r = iI 0 ∧ ¬ (0 < nD tx len spot ∧ (lw ≤ nV tx len spot ∧ nV tx len spot ≤ hg) ∧ bt tx len (spot + (nD tx len spot : Int)) = en))) ∧ va_P D classes (mW cs ad len (nx tx len spot) un bo cu lo wh tx now (upI rd to_.toNat (nV tx len spot)) bf bl us lg bd dp) t.heap ∧ va_D (va_A (mW cs ad len spot un bo cu lo wh tx now rd bf bl us lg bd dp) sz) (mW cs ad len (nx tx len spot) un bo cu lo wh tx now (upI rd to_.toNat (nV tx len spot)) bf bl us lg bd dp)) (va_A (mW cs ad len spot un bo cu lo wh tx now rd bf bl us lg bd dp) sz)) 0 0 (va_A (mW cs ad len spot un bo cu lo wh tx now rd bf bl us lg bd dp) sz) := by
  refine enter (cc := cX7_number) (maxL := 8) (ret := (some .boolean)) (by decide) (Nat.le_of_ble_eq_true rfl) ?_
  intro pg ev s m below meth c Q ls hx hb hml hown hts hr hlocks hnm ⟨hsz, hP, hD0, hK, hX0⟩ hl hQ
  have ht : ∀ w ∈ TB, w.before _ s = true := fun w h => hts w (List.mem_cons_of_mem _ h)
  subst hsz
  have hD := hD0.self (sz := s.heap.size)
  obtain ⟨A, hAe⟩ : ∃ A, va_A (mW cs ad len spot un bo cu lo wh tx now rd bf bl us lg bd dp) s.heap.size = A := ⟨_, rfl⟩
  rw [hAe] at hD
  have hA : ∀ q : Nat, s.heap.size ≤ q → A q := fun q h => by rw [← hAe]; exact Or.inr h
  obtain ⟨H, hH⟩ : ∃ H, H = s.heap := ⟨_, rfl⟩
  obtain ⟨locs, hlocs⟩ : ∃ locs : List Loc, locs = [] := ⟨_, rfl⟩
  have hS : va_S A s.heap H locs := by rw [hH, hlocs]; exact va_S.rf
  rw [← hH] at hP
  suffices hgo : W pg l ev rm_X7_number s m [.ref (ad 0), .int (iI to_), .int (iI lw), .int (iI hg), .int (iI en)].toArray below meth c H locs 0 0 Q (F0 m 0 ls []) by rw [hH, hlocs] at hgo; exact hgo
  have hl : lv_has ls 8 [(0, .ref (ad 0)), (1, .int (iI to_)), (2, .int (iI lw)), (3, .int (iI hg)), (4, .int (iI en))] := hl
  refine rv_iconst hx hb dX7_number_0 ?_
  refine lv_istore (lv' := [(5, .int (iI 0)), (0, .ref (ad 0)), (1, .int (iI to_)), (2, .int (iI lw)), (3, .int (iI hg)), (4, .int (iI en))]) hx hb dX7_number_1 hl (by decide) rfl (fun ls hl => ?_)
  refine rv_iconst hx hb dX7_number_3 ?_
  refine lv_istore (lv' := [(6, .int (iI 0)), (5, .int (iI 0)), (0, .ref (ad 0)), (1, .int (iI to_)), (2, .int (iI lw)), (3, .int (iI hg)), (4, .int (iI en))]) hx hb dX7_number_4 hl (by decide) rfl (fun ls hl => ?_)
  have loop6 : ∀ (fuel6 : Nat) (n : Nat) (sp : Int), (n ≤ 3) → (sp = spot + (n : Int)) → (∀ j : Nat, j < n → isDg (bt tx len (spot + (j : Int)))) → 4 - n < fuel6 → ∀ (x5 x6 : Int), x5 = nVn tx len spot n → x6 = (n : Int) → ∀ (H : Heap) (locs : List Loc), va_P D classes (mW cs ad len sp un bo cu lo wh tx now rd bf bl us lg bd dp) H → va_D A (mW cs ad len sp un bo cu lo wh tx now rd bf bl us lg bd dp) → va_S A s.heap H locs → ∀ ls : Array Slot, lv_has ls 8 [(0, .ref (ad 0)), (1, .int (iI to_)), (2, .int (iI lw)), (3, .int (iI hg)), (4, .int (iI en)), (5, .int (iI x5)), (6, .int (iI x6))] → W pg l ev rm_X7_number s m [.ref (ad 0), .int (iI to_), .int (iI lw), .int (iI hg), .int (iI en)].toArray below meth c H locs 0 0 Q (F0 m 6 ls []) := by
    intro fuel6
    induction fuel6 with
    | zero => intro n sp hn hsp2 hdg hfuel6; exact absurd hfuel6 (Nat.not_lt_zero _)
    | succ fuel6 ih6 =>
      intro n sp hn hsp2 hdg hfuel6 x5 x6 ex5 ex6 H locs hP hD hS ls hl
      subst ex5 ex6
      have hvb := nVn_bd hn hdg
      have hbt := bt_bd (i := sp) htx (by omega)
      refine lv_iload hx hb dX7_number_6 (lv_at hl 6 rfl) ?_
      refine rv_iconst hx hb dX7_number_8 ?_
      refine rv_icmp_ge (tgt := 68) hx hb dX7_number_9 (by decide) (by omega) (fun h9 => ?_) (fun h9 => ?_)
      · have hnD : nD tx len spot = n := nD_eq hn hdg (by first | exact Or.inl (by omega) | (right; rw [← hsp2]; exact hb27))
        have e1 : nx tx len spot = sp + 1 := by rw [nx, hnD]; omega
        have e2 : nV tx len spot = nVn tx len spot n := by rw [nV, hnD]
        refine lv_aload_n hx hb dX7_number_68 rfl (lv_at hl 0 rfl) ?_
        refine va_get (D := D) (ci := 6) (v := .ref (ad 3)) (C := RX7) (T := TX7) (N := 16) hx hb ht inTB_X7 hown hK hP 0 rfl rfl 4 (by decide) (ht _ tb_592) (fun _ h9 => h9) rfl dX7_number_69 ?_
        refine lv_iload_n hx hb dX7_number_72 rfl (lv_at hl 1 rfl) ?_
        refine lv_iload hx hb dX7_number_73 (lv_at hl 5 rfl) ?_
        refine rv_iast hx hb hK hP hD hS 3 0 rfl rfl to_.toNat (by omega) (by omega) dX7_number_75 (fun H locs hP hD hS => ?_)
        have hP : va_P D classes (mW cs ad len sp un bo cu lo wh tx now (upI rd to_.toNat (nVn tx len spot n)) bf bl us lg bd dp) H := hP
        have hD : va_D A (mW cs ad len sp un bo cu lo wh tx now (upI rd to_.toNat (nVn tx len spot n)) bf bl us lg bd dp) := hD
        refine lv_iload hx hb dX7_number_76 (lv_at hl 6 rfl) ?_
        refine rv_if_le (tgt := 111) hx hb dX7_number_78 (by decide) (by omega) (fun h78 => ?_) (fun h78 => ?_)
        · refine rv_iconst hx hb dX7_number_111 ?_
          refine lv_istore (lv' := [(7, .int (iI 0)), (0, .ref (ad 0)), (1, .int (iI to_)), (2, .int (iI lw)), (3, .int (iI hg)), (4, .int (iI en)), (5, .int (iI (nVn tx len spot n))), (6, .int (iI (n : Int)))]) hx hb dX7_number_112 hl (by decide) rfl (fun ls hl => ?_)
          refine lv_aload_n hx hb dX7_number_114 rfl (lv_at hl 1 rfl) ?_
          refine lv_dup hx hb dX7_number_115 rfl ?_
          refine va_get (D := D) (ci := 6) (v := .int (iI sp)) (C := RX7) (T := TX7) (N := 16) hx hb ht inTB_X7 hown hK hP 0 rfl rfl 2 (by decide) (ht _ tb_590) (fun _ h9 => h9) rfl dX7_number_116 ?_
          refine rv_iconst hx hb dX7_number_119 ?_
          refine rv_iadd hx hb dX7_number_120 ?_
          refine va_put (D := D) (ci := 6) (v := .int (iI (sp + 1))) (ty := tyX7 2) (C := RX7) (T := TX7) (N := 16) hx hb ht inTB_X7 tyX7 tyX7_ok nmX7 hown hK hP hD hS 0 rfl rfl 2 (by decide) (ht _ tb_590) (fun _ h9 => h9) rfl (tyX7_ok 2 (by decide)) rfl rfl (Nat.le_of_ble_eq_true rfl) dX7_number_121 (fun H locs hP hD hS => ?_)
          have hP : va_P D classes (mW cs ad len (sp + 1) un bo cu lo wh tx now (upI rd to_.toNat (nVn tx len spot n)) bf bl us lg bd dp) H := hP
          have hD : va_D A (mW cs ad len (sp + 1) un bo cu lo wh tx now (upI rd to_.toNat (nVn tx len spot n)) bf bl us lg bd dp) := hD
          refine lv_iload hx hb dX7_number_124 (lv_at hl 0 rfl) ?_
          subst hQ
          exact W.zret (ty := .boolean) hx hb hr (by decide) (fun t9 ht9 hW9 => ⟨⟨_, _, rfl, rfl, ⟨Or.inr ⟨rfl, fun q => by rw [hnD, e2, ← hsp2] at q; omega⟩, by rw [ht9]; (first | rw [e1, e2] | rw [e1] | skip); exact hP, by rw [hAe]; (first | rw [e1, e2] | rw [e1] | skip); exact hD⟩⟩, by rw [hAe]; exact hS.F ht9⟩) (by rw [hAe]; exact hS.2.2) dX7_number_126
        · refine lv_iload hx hb dX7_number_81 (lv_at hl 5 rfl) ?_
          refine rv_i2l hx hb dX7_number_83 (by omega) ?_
          refine lv_iload_n hx hb dX7_number_84 rfl (lv_at hl 2 rfl) ?_
          refine rv_i2l hx hb dX7_number_85 (by omega) ?_
          refine lv_iload_n hx hb dX7_number_86 rfl (lv_at hl 3 rfl) ?_
          refine rv_i2l hx hb dX7_number_87 (by omega) ?_
          refine vp_callSi (W.runS (As := [.long (lI (nVn tx len spot n)), .long (lI lw), .long (lI hg)]) (rest := []) ⟨hx, hb, hml, hown, hts⟩ (c_X7_in l (nVn tx len spot n) lw hg (by omega) (by omega) (by omega)) (va_cwS 3 hts (gS tb_649 tb_650 tb_8 tb_651) rfl rfl rfl (by decide +kernel) ⟨Nat.le_of_ble_eq_true rfl, Nat.le_of_ble_eq_true rfl⟩) preS0 rfl rfl hl.1 rfl (lv_room (Nat.le_of_ble_eq_true rfl)) dX7_number_88 ⟨Nat.le_of_ble_eq_true rfl, Nat.le_of_ble_eq_true rfl⟩) (fun r9 hr9 => ?_)
          rcases hr9 with ⟨rfl, hb88⟩ | ⟨rfl, hb88⟩
          · refine rv_if_eq (tgt := 111) hx hb dX7_number_91 (by decide) (by decide) (fun q => absurd q (by decide)) (fun _ => ?_)
            refine lv_aload_n hx hb dX7_number_94 rfl (lv_at hl 0 rfl) ?_
            refine lv_aload_n hx hb dX7_number_95 rfl (lv_at hl 0 rfl) ?_
            refine va_get (D := D) (ci := 6) (v := .int (iI sp)) (C := RX7) (T := TX7) (N := 16) hx hb ht inTB_X7 hown hK hP 0 rfl rfl 2 (by decide) (ht _ tb_590) (fun _ h9 => h9) rfl dX7_number_96 ?_
            refine vp_callSi (W.runV (As := [.int (iI sp)]) (rest := []) ⟨hx, hb, hml, hown, hts⟩ (c_X7_byteAt l D cs (ad 0) (ad 1) _ len tx sp (by omega)) (cwV 1 hts (gV tb_693 tb_695 tbs_19 tb_8 tb_696) rfl rfl rfl (by decide +kernel) ⟨Nat.le_of_ble_eq_true rfl, Nat.le_of_ble_eq_true rfl⟩) (preV_modT hK ⟨hP.sub [0, 1] rfl, rfl, rfl, hlen⟩) rfl rfl hl.1 rfl (lv_room (Nat.le_of_ble_eq_true rfl)) dX7_number_99 ⟨Nat.le_of_ble_eq_true rfl, Nat.le_of_ble_eq_true rfl⟩) (fun r9 hr9 => ?_)
            subst hr9
            refine lv_iload hx hb dX7_number_102 (lv_at hl 4 rfl) ?_
            refine rv_icmp_ne (tgt := 111) hx hb dX7_number_104 (by decide) (by omega) (fun h104 => ?_) (fun h104 => ?_)
            · refine rv_iconst hx hb dX7_number_111 ?_
              refine lv_istore (lv' := [(7, .int (iI 0)), (0, .ref (ad 0)), (1, .int (iI to_)), (2, .int (iI lw)), (3, .int (iI hg)), (4, .int (iI en)), (5, .int (iI (nVn tx len spot n))), (6, .int (iI (n : Int)))]) hx hb dX7_number_112 hl (by decide) rfl (fun ls hl => ?_)
              refine lv_aload_n hx hb dX7_number_114 rfl (lv_at hl 1 rfl) ?_
              refine lv_dup hx hb dX7_number_115 rfl ?_
              refine va_get (D := D) (ci := 6) (v := .int (iI sp)) (C := RX7) (T := TX7) (N := 16) hx hb ht inTB_X7 hown hK hP 0 rfl rfl 2 (by decide) (ht _ tb_590) (fun _ h9 => h9) rfl dX7_number_116 ?_
              refine rv_iconst hx hb dX7_number_119 ?_
              refine rv_iadd hx hb dX7_number_120 ?_
              refine va_put (D := D) (ci := 6) (v := .int (iI (sp + 1))) (ty := tyX7 2) (C := RX7) (T := TX7) (N := 16) hx hb ht inTB_X7 tyX7 tyX7_ok nmX7 hown hK hP hD hS 0 rfl rfl 2 (by decide) (ht _ tb_590) (fun _ h9 => h9) rfl (tyX7_ok 2 (by decide)) rfl rfl (Nat.le_of_ble_eq_true rfl) dX7_number_121 (fun H locs hP hD hS => ?_)
              have hP : va_P D classes (mW cs ad len (sp + 1) un bo cu lo wh tx now (upI rd to_.toNat (nVn tx len spot n)) bf bl us lg bd dp) H := hP
              have hD : va_D A (mW cs ad len (sp + 1) un bo cu lo wh tx now (upI rd to_.toNat (nVn tx len spot n)) bf bl us lg bd dp) := hD
              refine lv_iload hx hb dX7_number_124 (lv_at hl 0 rfl) ?_
              subst hQ
              exact W.zret (ty := .boolean) hx hb hr (by decide) (fun t9 ht9 hW9 => ⟨⟨_, _, rfl, rfl, ⟨Or.inr ⟨rfl, fun q => by rw [hnD, e2, ← hsp2] at q; omega⟩, by rw [ht9]; (first | rw [e1, e2] | rw [e1] | skip); exact hP, by rw [hAe]; (first | rw [e1, e2] | rw [e1] | skip); exact hD⟩⟩, by rw [hAe]; exact hS.F ht9⟩) (by rw [hAe]; exact hS.2.2) dX7_number_126
            · refine rv_iconst hx hb dX7_number_107 ?_
              refine lv_goto (tgt := 112) hx hb dX7_number_108 (by decide) ?_
              refine lv_istore (lv' := [(7, .int (iI 1)), (0, .ref (ad 0)), (1, .int (iI to_)), (2, .int (iI lw)), (3, .int (iI hg)), (4, .int (iI en)), (5, .int (iI (nVn tx len spot n))), (6, .int (iI (n : Int)))]) hx hb dX7_number_112 hl (by decide) rfl (fun ls hl => ?_)
              refine lv_aload_n hx hb dX7_number_114 rfl (lv_at hl 1 rfl) ?_
              refine lv_dup hx hb dX7_number_115 rfl ?_
              refine va_get (D := D) (ci := 6) (v := .int (iI sp)) (C := RX7) (T := TX7) (N := 16) hx hb ht inTB_X7 hown hK hP 0 rfl rfl 2 (by decide) (ht _ tb_590) (fun _ h9 => h9) rfl dX7_number_116 ?_
              refine rv_iconst hx hb dX7_number_119 ?_
              refine rv_iadd hx hb dX7_number_120 ?_
              refine va_put (D := D) (ci := 6) (v := .int (iI (sp + 1))) (ty := tyX7 2) (C := RX7) (T := TX7) (N := 16) hx hb ht inTB_X7 tyX7 tyX7_ok nmX7 hown hK hP hD hS 0 rfl rfl 2 (by decide) (ht _ tb_590) (fun _ h9 => h9) rfl (tyX7_ok 2 (by decide)) rfl rfl (Nat.le_of_ble_eq_true rfl) dX7_number_121 (fun H locs hP hD hS => ?_)
              have hP : va_P D classes (mW cs ad len (sp + 1) un bo cu lo wh tx now (upI rd to_.toNat (nVn tx len spot n)) bf bl us lg bd dp) H := hP
              have hD : va_D A (mW cs ad len (sp + 1) un bo cu lo wh tx now (upI rd to_.toNat (nVn tx len spot n)) bf bl us lg bd dp) := hD
              refine lv_iload hx hb dX7_number_124 (lv_at hl 0 rfl) ?_
              subst hQ
              exact W.zret (ty := .boolean) hx hb hr (by decide) (fun t9 ht9 hW9 => ⟨⟨_, _, rfl, rfl, ⟨Or.inl ⟨rfl, by rw [hnD]; omega, by rw [e2]; omega, by rw [hnD, ← hsp2]; exact h104⟩, by rw [ht9]; (first | rw [e1, e2] | rw [e1] | skip); exact hP, by rw [hAe]; (first | rw [e1, e2] | rw [e1] | skip); exact hD⟩⟩, by rw [hAe]; exact hS.F ht9⟩) (by rw [hAe]; exact hS.2.2) dX7_number_126
          · refine rv_if_eq (tgt := 111) hx hb dX7_number_91 (by decide) (by decide) (fun _ => ?_) (fun q => absurd q (by decide))
            refine rv_iconst hx hb dX7_number_111 ?_
            refine lv_istore (lv' := [(7, .int (iI 0)), (0, .ref (ad 0)), (1, .int (iI to_)), (2, .int (iI lw)), (3, .int (iI hg)), (4, .int (iI en)), (5, .int (iI (nVn tx len spot n))), (6, .int (iI (n : Int)))]) hx hb dX7_number_112 hl (by decide) rfl (fun ls hl => ?_)
            refine lv_aload_n hx hb dX7_number_114 rfl (lv_at hl 1 rfl) ?_
            refine lv_dup hx hb dX7_number_115 rfl ?_
            refine va_get (D := D) (ci := 6) (v := .int (iI sp)) (C := RX7) (T := TX7) (N := 16) hx hb ht inTB_X7 hown hK hP 0 rfl rfl 2 (by decide) (ht _ tb_590) (fun _ h9 => h9) rfl dX7_number_116 ?_
            refine rv_iconst hx hb dX7_number_119 ?_
            refine rv_iadd hx hb dX7_number_120 ?_
            refine va_put (D := D) (ci := 6) (v := .int (iI (sp + 1))) (ty := tyX7 2) (C := RX7) (T := TX7) (N := 16) hx hb ht inTB_X7 tyX7 tyX7_ok nmX7 hown hK hP hD hS 0 rfl rfl 2 (by decide) (ht _ tb_590) (fun _ h9 => h9) rfl (tyX7_ok 2 (by decide)) rfl rfl (Nat.le_of_ble_eq_true rfl) dX7_number_121 (fun H locs hP hD hS => ?_)
            have hP : va_P D classes (mW cs ad len (sp + 1) un bo cu lo wh tx now (upI rd to_.toNat (nVn tx len spot n)) bf bl us lg bd dp) H := hP
            have hD : va_D A (mW cs ad len (sp + 1) un bo cu lo wh tx now (upI rd to_.toNat (nVn tx len spot n)) bf bl us lg bd dp) := hD
            refine lv_iload hx hb dX7_number_124 (lv_at hl 0 rfl) ?_
            subst hQ
            exact W.zret (ty := .boolean) hx hb hr (by decide) (fun t9 ht9 hW9 => ⟨⟨_, _, rfl, rfl, ⟨Or.inr ⟨rfl, fun q => by rw [hnD, e2, ← hsp2] at q; omega⟩, by rw [ht9]; (first | rw [e1, e2] | rw [e1] | skip); exact hP, by rw [hAe]; (first | rw [e1, e2] | rw [e1] | skip); exact hD⟩⟩, by rw [hAe]; exact hS.F ht9⟩) (by rw [hAe]; exact hS.2.2) dX7_number_126
      · refine lv_aload_n hx hb dX7_number_12 rfl (lv_at hl 0 rfl) ?_
        refine lv_aload_n hx hb dX7_number_13 rfl (lv_at hl 0 rfl) ?_
        refine va_get (D := D) (ci := 6) (v := .int (iI sp)) (C := RX7) (T := TX7) (N := 16) hx hb ht inTB_X7 hown hK hP 0 rfl rfl 2 (by decide) (ht _ tb_590) (fun _ h9 => h9) rfl dX7_number_14 ?_
        refine vp_callSi (W.runV (As := [.int (iI sp)]) (rest := []) ⟨hx, hb, hml, hown, hts⟩ (c_X7_byteAt l D cs (ad 0) (ad 1) _ len tx sp (by omega)) (cwV 1 hts (gV tb_693 tb_695 tbs_19 tb_8 tb_696) rfl rfl rfl (by decide +kernel) ⟨Nat.le_of_ble_eq_true rfl, Nat.le_of_ble_eq_true rfl⟩) (preV_modT hK ⟨hP.sub [0, 1] rfl, rfl, rfl, hlen⟩) rfl rfl hl.1 rfl (lv_room (Nat.le_of_ble_eq_true rfl)) dX7_number_17 ⟨Nat.le_of_ble_eq_true rfl, Nat.le_of_ble_eq_true rfl⟩) (fun r9 hr9 => ?_)
        subst hr9
        refine rv_i2l hx hb dX7_number_20 (by omega) ?_
        refine lv_ldc2 (v := lI 48) hx hb hown (ht _ tb_697) dX7_number_21 ?_
        refine lv_ldc2 (v := lI 57) hx hb hown (ht _ tb_698) dX7_number_24 ?_
        refine vp_callSi (W.runS (As := [.long (lI (bt tx len sp)), .long (lI 48), .long (lI 57)]) (rest := []) ⟨hx, hb, hml, hown, hts⟩ (c_X7_in l (bt tx len sp) 48 57 (by omega) (by omega) (by omega)) (va_cwS 3 hts (gS tb_649 tb_650 tb_8 tb_651) rfl rfl rfl (by decide +kernel) ⟨Nat.le_of_ble_eq_true rfl, Nat.le_of_ble_eq_true rfl⟩) preS0 rfl rfl hl.1 rfl (lv_room (Nat.le_of_ble_eq_true rfl)) dX7_number_27 ⟨Nat.le_of_ble_eq_true rfl, Nat.le_of_ble_eq_true rfl⟩) (fun r9 hr9 => ?_)
        rcases hr9 with ⟨rfl, hb27⟩ | ⟨rfl, hb27⟩
        · refine rv_if_eq (tgt := 68) hx hb dX7_number_30 (by decide) (by decide) (fun q => absurd q (by decide)) (fun _ => ?_)
          refine rv_bipush hx hb dX7_number_33 (by decide) ?_
          refine lv_iload hx hb dX7_number_35 (lv_at hl 5 rfl) ?_
          refine rv_imul hx hb dX7_number_37 ?_
          refine lv_aload_n hx hb dX7_number_38 rfl (lv_at hl 0 rfl) ?_
          refine lv_aload_n hx hb dX7_number_39 rfl (lv_at hl 0 rfl) ?_
          refine va_get (D := D) (ci := 6) (v := .int (iI sp)) (C := RX7) (T := TX7) (N := 16) hx hb ht inTB_X7 hown hK hP 0 rfl rfl 2 (by decide) (ht _ tb_590) (fun _ h9 => h9) rfl dX7_number_40 ?_
          refine vp_callSi (W.runV (As := [.int (iI sp)]) (rest := [.int (iI (10 * nVn tx len spot n))]) ⟨hx, hb, hml, hown, hts⟩ (c_X7_byteAt l D cs (ad 0) (ad 1) _ len tx sp (by omega)) (cwV 1 hts (gV tb_693 tb_695 tbs_19 tb_8 tb_696) rfl rfl rfl (by decide +kernel) ⟨Nat.le_of_ble_eq_true rfl, Nat.le_of_ble_eq_true rfl⟩) (preV_modT hK ⟨hP.sub [0, 1] rfl, rfl, rfl, hlen⟩) rfl rfl hl.1 rfl (lv_room (Nat.le_of_ble_eq_true rfl)) dX7_number_43 ⟨Nat.le_of_ble_eq_true rfl, Nat.le_of_ble_eq_true rfl⟩) (fun r9 hr9 => ?_)
          subst hr9
          refine rv_iadd hx hb dX7_number_46 ?_
          refine rv_bipush hx hb dX7_number_47 (by decide) ?_
          refine rv_isub hx hb dX7_number_49 ?_
          refine lv_istore (lv' := [(5, .int (iI (((10 * nVn tx len spot n) + bt tx len sp) - 48))), (0, .ref (ad 0)), (1, .int (iI to_)), (2, .int (iI lw)), (3, .int (iI hg)), (4, .int (iI en)), (6, .int (iI (n : Int)))]) hx hb dX7_number_50 hl (by decide) rfl (fun ls hl => ?_)
          refine lv_aload_n hx hb dX7_number_52 rfl (lv_at hl 1 rfl) ?_
          refine lv_dup hx hb dX7_number_53 rfl ?_
          refine va_get (D := D) (ci := 6) (v := .int (iI sp)) (C := RX7) (T := TX7) (N := 16) hx hb ht inTB_X7 hown hK hP 0 rfl rfl 2 (by decide) (ht _ tb_590) (fun _ h9 => h9) rfl dX7_number_54 ?_
          refine rv_iconst hx hb dX7_number_57 ?_
          refine rv_iadd hx hb dX7_number_58 ?_
          refine va_put (D := D) (ci := 6) (v := .int (iI (sp + 1))) (ty := tyX7 2) (C := RX7) (T := TX7) (N := 16) hx hb ht inTB_X7 tyX7 tyX7_ok nmX7 hown hK hP hD hS 0 rfl rfl 2 (by decide) (ht _ tb_590) (fun _ h9 => h9) rfl (tyX7_ok 2 (by decide)) rfl rfl (Nat.le_of_ble_eq_true rfl) dX7_number_59 (fun H locs hP hD hS => ?_)
          have hP : va_P D classes (mW cs ad len (sp + 1) un bo cu lo wh tx now rd bf bl us lg bd dp) H := hP
          have hD : va_D A (mW cs ad len (sp + 1) un bo cu lo wh tx now rd bf bl us lg bd dp) := hD
          refine rv_iinc (k := 6) (lv' := [(6, .int (iI ((n : Int) + 1))), (5, .int (iI (((10 * nVn tx len spot n) + bt tx len sp) - 48))), (0, .ref (ad 0)), (1, .int (iI to_)), (2, .int (iI lw)), (3, .int (iI hg)), (4, .int (iI en))]) hx hb dX7_number_62 hl rfl (by decide) rfl (fun ls hl => ?_)
          refine lv_goto (tgt := 6) hx hb dX7_number_65 (by decide) ?_
          exact ih6 (n + 1) (sp + 1) (by omega) (by omega) (fun j h => by rcases Nat.lt_or_ge j n with q | q; exact hdg j q; rw [show j = n by omega, ← hsp2]; exact hb27) (by omega) _ _ (by rw [nVn, ← hsp2]) (by omega) H locs hP hD hS ls (lv_sub hl [2, 3, 4, 5, 6, 1, 0] rfl)
        · refine rv_if_eq (tgt := 68) hx hb dX7_number_30 (by decide) (by decide) (fun _ => ?_) (fun q => absurd q (by decide))
          have hnD : nD tx len spot = n := nD_eq hn hdg (by first | exact Or.inl (by omega) | (right; rw [← hsp2]; exact hb27))
          have e1 : nx tx len spot = sp + 1 := by rw [nx, hnD]; omega
          have e2 : nV tx len spot = nVn tx len spot n := by rw [nV, hnD]
          refine lv_aload_n hx hb dX7_number_68 rfl (lv_at hl 0 rfl) ?_
          refine va_get (D := D) (ci := 6) (v := .ref (ad 3)) (C := RX7) (T := TX7) (N := 16) hx hb ht inTB_X7 hown hK hP 0 rfl rfl 4 (by decide) (ht _ tb_592) (fun _ h9 => h9) rfl dX7_number_69 ?_
          refine lv_iload_n hx hb dX7_number_72 rfl (lv_at hl 1 rfl) ?_
          refine lv_iload hx hb dX7_number_73 (lv_at hl 5 rfl) ?_
          refine rv_iast hx hb hK hP hD hS 3 0 rfl rfl to_.toNat (by omega) (by omega) dX7_number_75 (fun H locs hP hD hS => ?_)
          have hP : va_P D classes (mW cs ad len sp un bo cu lo wh tx now (upI rd to_.toNat (nVn tx len spot n)) bf bl us lg bd dp) H := hP
          have hD : va_D A (mW cs ad len sp un bo cu lo wh tx now (upI rd to_.toNat (nVn tx len spot n)) bf bl us lg bd dp) := hD
          refine lv_iload hx hb dX7_number_76 (lv_at hl 6 rfl) ?_
          refine rv_if_le (tgt := 111) hx hb dX7_number_78 (by decide) (by omega) (fun h78 => ?_) (fun h78 => ?_)
          · refine rv_iconst hx hb dX7_number_111 ?_
            refine lv_istore (lv' := [(7, .int (iI 0)), (0, .ref (ad 0)), (1, .int (iI to_)), (2, .int (iI lw)), (3, .int (iI hg)), (4, .int (iI en)), (5, .int (iI (nVn tx len spot n))), (6, .int (iI (n : Int)))]) hx hb dX7_number_112 hl (by decide) rfl (fun ls hl => ?_)
            refine lv_aload_n hx hb dX7_number_114 rfl (lv_at hl 1 rfl) ?_
            refine lv_dup hx hb dX7_number_115 rfl ?_
            refine va_get (D := D) (ci := 6) (v := .int (iI sp)) (C := RX7) (T := TX7) (N := 16) hx hb ht inTB_X7 hown hK hP 0 rfl rfl 2 (by decide) (ht _ tb_590) (fun _ h9 => h9) rfl dX7_number_116 ?_
            refine rv_iconst hx hb dX7_number_119 ?_
            refine rv_iadd hx hb dX7_number_120 ?_
            refine va_put (D := D) (ci := 6) (v := .int (iI (sp + 1))) (ty := tyX7 2) (C := RX7) (T := TX7) (N := 16) hx hb ht inTB_X7 tyX7 tyX7_ok nmX7 hown hK hP hD hS 0 rfl rfl 2 (by decide) (ht _ tb_590) (fun _ h9 => h9) rfl (tyX7_ok 2 (by decide)) rfl rfl (Nat.le_of_ble_eq_true rfl) dX7_number_121 (fun H locs hP hD hS => ?_)
            have hP : va_P D classes (mW cs ad len (sp + 1) un bo cu lo wh tx now (upI rd to_.toNat (nVn tx len spot n)) bf bl us lg bd dp) H := hP
            have hD : va_D A (mW cs ad len (sp + 1) un bo cu lo wh tx now (upI rd to_.toNat (nVn tx len spot n)) bf bl us lg bd dp) := hD
            refine lv_iload hx hb dX7_number_124 (lv_at hl 0 rfl) ?_
            subst hQ
            exact W.zret (ty := .boolean) hx hb hr (by decide) (fun t9 ht9 hW9 => ⟨⟨_, _, rfl, rfl, ⟨Or.inr ⟨rfl, fun q => by rw [hnD, e2, ← hsp2] at q; omega⟩, by rw [ht9]; (first | rw [e1, e2] | rw [e1] | skip); exact hP, by rw [hAe]; (first | rw [e1, e2] | rw [e1] | skip); exact hD⟩⟩, by rw [hAe]; exact hS.F ht9⟩) (by rw [hAe]; exact hS.2.2) dX7_number_126
          · refine lv_iload hx hb dX7_number_81 (lv_at hl 5 rfl) ?_
            refine rv_i2l hx hb dX7_number_83 (by omega) ?_
            refine lv_iload_n hx hb dX7_number_84 rfl (lv_at hl 2 rfl) ?_
            refine rv_i2l hx hb dX7_number_85 (by omega) ?_
            refine lv_iload_n hx hb dX7_number_86 rfl (lv_at hl 3 rfl) ?_
            refine rv_i2l hx hb dX7_number_87 (by omega) ?_
            refine vp_callSi (W.runS (As := [.long (lI (nVn tx len spot n)), .long (lI lw), .long (lI hg)]) (rest := []) ⟨hx, hb, hml, hown, hts⟩ (c_X7_in l (nVn tx len spot n) lw hg (by omega) (by omega) (by omega)) (va_cwS 3 hts (gS tb_649 tb_650 tb_8 tb_651) rfl rfl rfl (by decide +kernel) ⟨Nat.le_of_ble_eq_true rfl, Nat.le_of_ble_eq_true rfl⟩) preS0 rfl rfl hl.1 rfl (lv_room (Nat.le_of_ble_eq_true rfl)) dX7_number_88 ⟨Nat.le_of_ble_eq_true rfl, Nat.le_of_ble_eq_true rfl⟩) (fun r9 hr9 => ?_)
            rcases hr9 with ⟨rfl, hb88⟩ | ⟨rfl, hb88⟩
            · refine rv_if_eq (tgt := 111) hx hb dX7_number_91 (by decide) (by decide) (fun q => absurd q (by decide)) (fun _ => ?_)
              refine lv_aload_n hx hb dX7_number_94 rfl (lv_at hl 0 rfl) ?_
              refine lv_aload_n hx hb dX7_number_95 rfl (lv_at hl 0 rfl) ?_
              refine va_get (D := D) (ci := 6) (v := .int (iI sp)) (C := RX7) (T := TX7) (N := 16) hx hb ht inTB_X7 hown hK hP 0 rfl rfl 2 (by decide) (ht _ tb_590) (fun _ h9 => h9) rfl dX7_number_96 ?_
              refine vp_callSi (W.runV (As := [.int (iI sp)]) (rest := []) ⟨hx, hb, hml, hown, hts⟩ (c_X7_byteAt l D cs (ad 0) (ad 1) _ len tx sp (by omega)) (cwV 1 hts (gV tb_693 tb_695 tbs_19 tb_8 tb_696) rfl rfl rfl (by decide +kernel) ⟨Nat.le_of_ble_eq_true rfl, Nat.le_of_ble_eq_true rfl⟩) (preV_modT hK ⟨hP.sub [0, 1] rfl, rfl, rfl, hlen⟩) rfl rfl hl.1 rfl (lv_room (Nat.le_of_ble_eq_true rfl)) dX7_number_99 ⟨Nat.le_of_ble_eq_true rfl, Nat.le_of_ble_eq_true rfl⟩) (fun r9 hr9 => ?_)
              subst hr9
              refine lv_iload hx hb dX7_number_102 (lv_at hl 4 rfl) ?_
              refine rv_icmp_ne (tgt := 111) hx hb dX7_number_104 (by decide) (by omega) (fun h104 => ?_) (fun h104 => ?_)
              · refine rv_iconst hx hb dX7_number_111 ?_
                refine lv_istore (lv' := [(7, .int (iI 0)), (0, .ref (ad 0)), (1, .int (iI to_)), (2, .int (iI lw)), (3, .int (iI hg)), (4, .int (iI en)), (5, .int (iI (nVn tx len spot n))), (6, .int (iI (n : Int)))]) hx hb dX7_number_112 hl (by decide) rfl (fun ls hl => ?_)
                refine lv_aload_n hx hb dX7_number_114 rfl (lv_at hl 1 rfl) ?_
                refine lv_dup hx hb dX7_number_115 rfl ?_
                refine va_get (D := D) (ci := 6) (v := .int (iI sp)) (C := RX7) (T := TX7) (N := 16) hx hb ht inTB_X7 hown hK hP 0 rfl rfl 2 (by decide) (ht _ tb_590) (fun _ h9 => h9) rfl dX7_number_116 ?_
                refine rv_iconst hx hb dX7_number_119 ?_
                refine rv_iadd hx hb dX7_number_120 ?_
                refine va_put (D := D) (ci := 6) (v := .int (iI (sp + 1))) (ty := tyX7 2) (C := RX7) (T := TX7) (N := 16) hx hb ht inTB_X7 tyX7 tyX7_ok nmX7 hown hK hP hD hS 0 rfl rfl 2 (by decide) (ht _ tb_590) (fun _ h9 => h9) rfl (tyX7_ok 2 (by decide)) rfl rfl (Nat.le_of_ble_eq_true rfl) dX7_number_121 (fun H locs hP hD hS => ?_)
                have hP : va_P D classes (mW cs ad len (sp + 1) un bo cu lo wh tx now (upI rd to_.toNat (nVn tx len spot n)) bf bl us lg bd dp) H := hP
                have hD : va_D A (mW cs ad len (sp + 1) un bo cu lo wh tx now (upI rd to_.toNat (nVn tx len spot n)) bf bl us lg bd dp) := hD
                refine lv_iload hx hb dX7_number_124 (lv_at hl 0 rfl) ?_
                subst hQ
                exact W.zret (ty := .boolean) hx hb hr (by decide) (fun t9 ht9 hW9 => ⟨⟨_, _, rfl, rfl, ⟨Or.inr ⟨rfl, fun q => by rw [hnD, e2, ← hsp2] at q; omega⟩, by rw [ht9]; (first | rw [e1, e2] | rw [e1] | skip); exact hP, by rw [hAe]; (first | rw [e1, e2] | rw [e1] | skip); exact hD⟩⟩, by rw [hAe]; exact hS.F ht9⟩) (by rw [hAe]; exact hS.2.2) dX7_number_126
              · refine rv_iconst hx hb dX7_number_107 ?_
                refine lv_goto (tgt := 112) hx hb dX7_number_108 (by decide) ?_
                refine lv_istore (lv' := [(7, .int (iI 1)), (0, .ref (ad 0)), (1, .int (iI to_)), (2, .int (iI lw)), (3, .int (iI hg)), (4, .int (iI en)), (5, .int (iI (nVn tx len spot n))), (6, .int (iI (n : Int)))]) hx hb dX7_number_112 hl (by decide) rfl (fun ls hl => ?_)
                refine lv_aload_n hx hb dX7_number_114 rfl (lv_at hl 1 rfl) ?_
                refine lv_dup hx hb dX7_number_115 rfl ?_
                refine va_get (D := D) (ci := 6) (v := .int (iI sp)) (C := RX7) (T := TX7) (N := 16) hx hb ht inTB_X7 hown hK hP 0 rfl rfl 2 (by decide) (ht _ tb_590) (fun _ h9 => h9) rfl dX7_number_116 ?_
                refine rv_iconst hx hb dX7_number_119 ?_
                refine rv_iadd hx hb dX7_number_120 ?_
                refine va_put (D := D) (ci := 6) (v := .int (iI (sp + 1))) (ty := tyX7 2) (C := RX7) (T := TX7) (N := 16) hx hb ht inTB_X7 tyX7 tyX7_ok nmX7 hown hK hP hD hS 0 rfl rfl 2 (by decide) (ht _ tb_590) (fun _ h9 => h9) rfl (tyX7_ok 2 (by decide)) rfl rfl (Nat.le_of_ble_eq_true rfl) dX7_number_121 (fun H locs hP hD hS => ?_)
                have hP : va_P D classes (mW cs ad len (sp + 1) un bo cu lo wh tx now (upI rd to_.toNat (nVn tx len spot n)) bf bl us lg bd dp) H := hP
                have hD : va_D A (mW cs ad len (sp + 1) un bo cu lo wh tx now (upI rd to_.toNat (nVn tx len spot n)) bf bl us lg bd dp) := hD
                refine lv_iload hx hb dX7_number_124 (lv_at hl 0 rfl) ?_
                subst hQ
                exact W.zret (ty := .boolean) hx hb hr (by decide) (fun t9 ht9 hW9 => ⟨⟨_, _, rfl, rfl, ⟨Or.inl ⟨rfl, by rw [hnD]; omega, by rw [e2]; omega, by rw [hnD, ← hsp2]; exact h104⟩, by rw [ht9]; (first | rw [e1, e2] | rw [e1] | skip); exact hP, by rw [hAe]; (first | rw [e1, e2] | rw [e1] | skip); exact hD⟩⟩, by rw [hAe]; exact hS.F ht9⟩) (by rw [hAe]; exact hS.2.2) dX7_number_126
            · refine rv_if_eq (tgt := 111) hx hb dX7_number_91 (by decide) (by decide) (fun _ => ?_) (fun q => absurd q (by decide))
              refine rv_iconst hx hb dX7_number_111 ?_
              refine lv_istore (lv' := [(7, .int (iI 0)), (0, .ref (ad 0)), (1, .int (iI to_)), (2, .int (iI lw)), (3, .int (iI hg)), (4, .int (iI en)), (5, .int (iI (nVn tx len spot n))), (6, .int (iI (n : Int)))]) hx hb dX7_number_112 hl (by decide) rfl (fun ls hl => ?_)
              refine lv_aload_n hx hb dX7_number_114 rfl (lv_at hl 1 rfl) ?_
              refine lv_dup hx hb dX7_number_115 rfl ?_
              refine va_get (D := D) (ci := 6) (v := .int (iI sp)) (C := RX7) (T := TX7) (N := 16) hx hb ht inTB_X7 hown hK hP 0 rfl rfl 2 (by decide) (ht _ tb_590) (fun _ h9 => h9) rfl dX7_number_116 ?_
              refine rv_iconst hx hb dX7_number_119 ?_
              refine rv_iadd hx hb dX7_number_120 ?_
              refine va_put (D := D) (ci := 6) (v := .int (iI (sp + 1))) (ty := tyX7 2) (C := RX7) (T := TX7) (N := 16) hx hb ht inTB_X7 tyX7 tyX7_ok nmX7 hown hK hP hD hS 0 rfl rfl 2 (by decide) (ht _ tb_590) (fun _ h9 => h9) rfl (tyX7_ok 2 (by decide)) rfl rfl (Nat.le_of_ble_eq_true rfl) dX7_number_121 (fun H locs hP hD hS => ?_)
              have hP : va_P D classes (mW cs ad len (sp + 1) un bo cu lo wh tx now (upI rd to_.toNat (nVn tx len spot n)) bf bl us lg bd dp) H := hP
              have hD : va_D A (mW cs ad len (sp + 1) un bo cu lo wh tx now (upI rd to_.toNat (nVn tx len spot n)) bf bl us lg bd dp) := hD
              refine lv_iload hx hb dX7_number_124 (lv_at hl 0 rfl) ?_
              subst hQ
              exact W.zret (ty := .boolean) hx hb hr (by decide) (fun t9 ht9 hW9 => ⟨⟨_, _, rfl, rfl, ⟨Or.inr ⟨rfl, fun q => by rw [hnD, e2, ← hsp2] at q; omega⟩, by rw [ht9]; (first | rw [e1, e2] | rw [e1] | skip); exact hP, by rw [hAe]; (first | rw [e1, e2] | rw [e1] | skip); exact hD⟩⟩, by rw [hAe]; exact hS.F ht9⟩) (by rw [hAe]; exact hS.2.2) dX7_number_126
  exact loop6 (_ + 1) 0 spot (by omega) (by omega) (fun j h => absurd h (Nat.not_lt_zero _)) (Nat.lt_succ_self _) _ _ rfl rfl H locs hP hD hS ls (lv_sub hl [2, 3, 4, 5, 6, 1, 0] rfl)

abbrev rm_X7_panelItem : Room := { frames := 3, cells := 0, slots := 0, locals := 70 }
set_option maxHeartbeats 8000000 in
set_option maxRecDepth 100000 in
/-- panelItem -/
theorem c_X7_panelItem (l : Launch) (D : va_G) (cs : Nat → ClassId) (ad : Nat → Nat) (sz : Nat) (len : Int) (spot : Int) (un : Int) (bo : Int) (cu : Int) (lo : Int) (wh : Int) (tx : Nat → Int) (now : Nat → Int) (rd : Nat → Int) (bf : Nat → Int) (bl : Nat → Int) (us : Nat → Int) (lg : Nat → Int) (bd : Nat → Int) (dp : Nat → Int) (k : Int) (hlen : 0 ≤ len ∧ len ≤ 200) (htx : okTx tx len) (hsp : 0 ≤ spot ∧ spot ≤ 250) (hk : 0 ≤ k ∧ k ≤ 2) (h20 : 0 ≤ rd 20 ∧ rd 20 ≤ 4) : Met l yX7_panelItem (Cond.code yX7_panelItem cX7_panelItem 4 (some .boolean) :: TB) rm_X7_panelItem (va_Pc [.ref (ad 0), .int (iI k)] (MPre D cs sz (mW cs ad len spot un bo cu lo wh tx now rd bf bl us lg bd dp) (fun _ _ => True))) (va_Qi (fun (r u : Int32) => r = u) (fun r t => ∃ (rd2 : Nat → Int) (spot2 : Int), ((r = iI 1 ∧ (rd 20 < 4 ∧ okPan tx len k spot)) ∨ (r = iI 0 ∧ ¬ (rd 20 < 4 ∧ okPan tx len k spot))) ∧ ((rd 20 < 4 ∧ okPan tx len k spot) → rd2 = setPt tx len rd k spot ∧ spot2 = nx4 tx len spot) ∧ va_P D classes (mW cs ad len spot2 un bo cu lo wh tx now rd2 bf bl us lg bd dp) t.heap ∧ va_D (va_A (mW cs ad len spot un bo cu lo wh tx now rd bf bl us lg bd dp) sz) (mW cs ad len spot2 un bo cu lo wh tx now rd2 bf bl us lg bd dp)) (va_A (mW cs ad len spot un bo cu lo wh tx now rd bf bl us lg bd dp) sz)) 0 0 (va_A (mW cs ad len spot un bo cu lo wh tx now rd bf bl us lg bd dp) sz) := by
  refine enter (cc := cX7_panelItem) (maxL := 4) (ret := (some .boolean)) (by decide) (Nat.le_of_ble_eq_true rfl) ?_
  intro pg ev s m below meth c Q ls hx hb hml hown hts hr hlocks hnm ⟨hsz, hP, hD0, hK, hX0⟩ hl hQ
  have ht : ∀ w ∈ TB, w.before _ s = true := fun w h => hts w (List.mem_cons_of_mem _ h)
  subst hsz
  have hD := hD0.self (sz := s.heap.size)
  obtain ⟨A, hAe⟩ : ∃ A, va_A (mW cs ad len spot un bo cu lo wh tx now rd bf bl us lg bd dp) s.heap.size = A := ⟨_, rfl⟩
  rw [hAe] at hD
  have hA : ∀ q : Nat, s.heap.size ≤ q → A q := fun q h => by rw [← hAe]; exact Or.inr h
  obtain ⟨H, hH⟩ : ∃ H, H = s.heap := ⟨_, rfl⟩
  obtain ⟨locs, hlocs⟩ : ∃ locs : List Loc, locs = [] := ⟨_, rfl⟩
  have hS : va_S A s.heap H locs := by rw [hH, hlocs]; exact va_S.rf
  rw [← hH] at hP
  suffices hgo : W pg l ev rm_X7_panelItem s m [.ref (ad 0), .int (iI k)].toArray below meth c H locs 0 0 Q (F0 m 0 ls []) by rw [hH, hlocs] at hgo; exact hgo
  have hl : lv_has ls 4 [(0, .ref (ad 0)), (1, .int (iI k))] := hl
  have i1 : (5 * rd 20 + 1).toNat = 5 * (rd 20).toNat + 1 := by omega
  have i2 : (5 * rd 20 + 2).toNat = 5 * (rd 20).toNat + 2 := by omega
  have i3 : (5 * rd 20 + 3).toNat = 5 * (rd 20).toNat + 3 := by omega
  have i4 : (5 * rd 20 + 4).toNat = 5 * (rd 20).toNat + 4 := by omega
  refine lv_aload_n hx hb dX7_panelItem_0 rfl (lv_at hl 0 rfl) ?_
  refine va_get (D := D) (ci := 6) (v := .ref (ad 3)) (C := RX7) (T := TX7) (N := 16) hx hb ht inTB_X7 hown hK hP 0 rfl rfl 4 (by decide) (ht _ tb_592) (fun _ h9 => h9) rfl dX7_panelItem_1 ?_
  refine rv_bipush hx hb dX7_panelItem_4 (by decide) ?_
  refine rv_iald hx hb hK hP 3 0 rfl rfl 20 rfl (by omega) dX7_panelItem_6 ?_
  refine lv_istore_n (lv' := [(2, .int (iI (rd 20))), (0, .ref (ad 0)), (1, .int (iI k))]) hx hb dX7_panelItem_7 rfl hl (by decide) rfl (fun ls hl => ?_)
  refine lv_iload_n hx hb dX7_panelItem_8 rfl (lv_at hl 0 rfl) ?_
  refine rv_iconst hx hb dX7_panelItem_9 ?_
  refine rv_icmp_ne (tgt := 15) hx hb dX7_panelItem_10 (by decide) (by omega) (fun h10 => ?_) (fun h10 => ?_)
  · refine lv_aload_n hx hb dX7_panelItem_15 rfl (lv_at hl 1 rfl) ?_
    refine va_get (D := D) (ci := 6) (v := .ref (ad 3)) (C := RX7) (T := TX7) (N := 16) hx hb ht inTB_X7 hown hK hP 0 rfl rfl 4 (by decide) (ht _ tb_592) (fun _ h9 => h9) rfl dX7_panelItem_16 ?_
    refine rv_bipush hx hb dX7_panelItem_19 (by decide) ?_
    refine lv_dup2_11 hx hb dX7_panelItem_21 rfl rfl ?_
    refine rv_iald hx hb hK hP 3 0 rfl rfl 20 rfl (by omega) dX7_panelItem_22 ?_
    refine rv_iconst hx hb dX7_panelItem_23 ?_
    refine rv_iadd hx hb dX7_panelItem_24 ?_
    refine rv_iast hx hb hK hP hD hS 3 0 rfl rfl 20 rfl (by omega) dX7_panelItem_25 (fun H locs hP hD hS => ?_)
    have hP : va_P D classes (mW cs ad len spot un bo cu lo wh tx now (upI rd 20 ((rd 20) + 1)) bf bl us lg bd dp) H := hP
    have hD : va_D A (mW cs ad len spot un bo cu lo wh tx now (upI rd 20 ((rd 20) + 1)) bf bl us lg bd dp) := hD
    refine lv_aload_n hx hb dX7_panelItem_26 rfl (lv_at hl 1 rfl) ?_
    refine va_get (D := D) (ci := 6) (v := .ref (ad 3)) (C := RX7) (T := TX7) (N := 16) hx hb ht inTB_X7 hown hK hP 0 rfl rfl 4 (by decide) (ht _ tb_592) (fun _ h9 => h9) rfl dX7_panelItem_27 ?_
    refine rv_iconst hx hb dX7_panelItem_30 ?_
    refine lv_iload_n hx hb dX7_panelItem_31 rfl (lv_at hl 0 rfl) ?_
    refine rv_imul hx hb dX7_panelItem_32 ?_
    refine lv_iload_n hx hb dX7_panelItem_33 rfl (lv_at hl 2 rfl) ?_
    refine rv_iast hx hb hK hP hD hS 3 0 rfl rfl (5 * (rd 20).toNat) (by omega) (by omega) dX7_panelItem_34 (fun H locs hP hD hS => ?_)
    have hP : va_P D classes (mW cs ad len spot un bo cu lo wh tx now (upI (upI rd 20 ((rd 20) + 1)) (5 * (rd 20).toNat) k) bf bl us lg bd dp) H := hP
    have hD : va_D A (mW cs ad len spot un bo cu lo wh tx now (upI (upI rd 20 ((rd 20) + 1)) (5 * (rd 20).toNat) k) bf bl us lg bd dp) := hD
    refine lv_aload_n hx hb dX7_panelItem_35 rfl (lv_at hl 1 rfl) ?_
    refine rv_iconst hx hb dX7_panelItem_36 ?_
    refine lv_iload_n hx hb dX7_panelItem_37 rfl (lv_at hl 0 rfl) ?_
    refine rv_imul hx hb dX7_panelItem_38 ?_
    refine rv_iconst hx hb dX7_panelItem_39 ?_
    refine rv_iadd hx hb dX7_panelItem_40 ?_
    refine rv_iconst hx hb dX7_panelItem_41 ?_
    refine rv_bipush hx hb dX7_panelItem_42 (by decide) ?_
    refine rv_bipush hx hb dX7_panelItem_44 (by decide) ?_
    have hFc := va_free (wc := (mW cs ad len spot un bo cu lo wh tx now (upI (upI rd 20 ((rd 20) + 1)) (5 * (rd 20).toNat) k) bf bl us lg bd dp)) hD hS hA [0, 1, 2, 3, 4, 5, 6, 7, 8, 9] rfl
    refine va_calli (va_runV (As := [.int (iI ((5 * (rd 20)) + 1)), .int (iI 3), .int (iI 31), .int (iI 44)]) (rest := []) ⟨hx, hb, hml, hown, hts⟩ (c_X7_number l D cs ad H.size len spot un bo cu lo wh tx now (upI (upI rd 20 ((rd 20) + 1)) (5 * (rd 20).toNat) k) bf bl us lg bd dp ((5 * (rd 20)) + 1) 3 31 44 hlen htx (by omega) (by omega) (by omega) (by omega) (by omega)) (cwV 4 hts (gV tb_689 tb_691 tbs_18 tb_8 tb_692) rfl rfl rfl (by decide +kernel) ⟨Nat.le_of_ble_eq_true rfl, Nat.le_of_ble_eq_true rfl⟩) (preV_M (X := fun _ _ => True) Stb_T hK (va_recv hK hP (ci := 6) (q0 := 0) rfl rfl) hP hD trivial) rfl rfl hl.1 rfl (lv_room (Nat.le_of_ble_eq_true rfl)) dX7_panelItem_46 ⟨Nat.le_of_ble_eq_true rfl, Nat.le_of_ble_eq_true rfl⟩) hS (fun q _ h => hFc q h) hFc (fun r9 u9 t9 H9 locs ht9 hvm9 hw9 hB9 hz9 hk9 hS => ?_)
    obtain rfl := hw9
    obtain ⟨hf46_0, hP1, hD1⟩ := hB9
    rw [ht9] at hP1
    have hP := hP1
    have hD := hD1.weaken (fun _ _ _ h => hFc _ h)
    generalize H9 = H at hP hS hz9 hk9 ht9 ⊢
    have hP : va_P D classes (mW cs ad len (nx tx len spot) un bo cu lo wh tx now (upI (upI (upI rd 20 ((rd 20) + 1)) (5 * (rd 20).toNat) k) ((5 * (rd 20)) + 1).toNat (nV tx len spot)) bf bl us lg bd dp) H := hP
    have hD : va_D A (mW cs ad len (nx tx len spot) un bo cu lo wh tx now (upI (upI (upI rd 20 ((rd 20) + 1)) (5 * (rd 20).toNat) k) ((5 * (rd 20)) + 1).toNat (nV tx len spot)) bf bl us lg bd dp) := hD
    have hnx_46 := nx_gt tx len spot
    have hnv_46 := nV_bd tx len spot
    rcases hf46_0 with ⟨rfl, hb46⟩ | ⟨rfl, hb46⟩
    · refine rv_if_eq (tgt := 68) hx hb dX7_panelItem_49 (by decide) (by decide) (fun q => absurd q (by decide)) (fun _ => ?_)
      refine lv_aload_n hx hb dX7_panelItem_52 rfl (lv_at hl 1 rfl) ?_
      refine va_get (D := D) (ci := 6) (v := .ref (ad 3)) (C := RX7) (T := TX7) (N := 16) hx hb ht inTB_X7 hown hK hP 0 rfl rfl 4 (by decide) (ht _ tb_592) (fun _ h9 => h9) rfl dX7_panelItem_53 ?_
      refine rv_iconst hx hb dX7_panelItem_56 ?_
      refine lv_iload_n hx hb dX7_panelItem_57 rfl (lv_at hl 0 rfl) ?_
      refine rv_imul hx hb dX7_panelItem_58 ?_
      refine rv_iconst hx hb dX7_panelItem_59 ?_
      refine rv_iadd hx hb dX7_panelItem_60 ?_
      refine rv_iald hx hb hK hP 3 0 rfl rfl ((5 * (rd 20) + 1).toNat) (by omega) (by omega) dX7_panelItem_61 ?_
      refine rv_top (y := (nV tx len spot)) upI_s ?_
      refine vp_callSi (W.runS (As := [.int (iI (nV tx len spot))]) (rest := []) ⟨hx, hb, hml, hown, hts⟩ (c_X7_isPrime l (nV tx len spot) (by omega)) (va_cwS 1 hts (gS tb_641 tb_642 tb_8 tb_643) rfl rfl rfl (by decide +kernel) ⟨Nat.le_of_ble_eq_true rfl, Nat.le_of_ble_eq_true rfl⟩) preS0 rfl rfl hl.1 rfl (lv_room (Nat.le_of_ble_eq_true rfl)) dX7_panelItem_62 ⟨Nat.le_of_ble_eq_true rfl, Nat.le_of_ble_eq_true rfl⟩) (fun r9 hr9 => ?_)
      rcases hr9 with ⟨rfl, hb62⟩ | ⟨rfl, hb62⟩
      · refine rv_if_ne (tgt := 70) hx hb dX7_panelItem_65 (by decide) (by decide) (fun _ => ?_) (fun q => absurd q (by decide))
        have hnb := isPr_bd hb62
        refine lv_aload_n hx hb dX7_panelItem_70 rfl (lv_at hl 1 rfl) ?_
        refine va_get (D := D) (ci := 6) (v := .ref (ad 3)) (C := RX7) (T := TX7) (N := 16) hx hb ht inTB_X7 hown hK hP 0 rfl rfl 4 (by decide) (ht _ tb_592) (fun _ h9 => h9) rfl dX7_panelItem_71 ?_
        refine rv_iconst hx hb dX7_panelItem_74 ?_
        refine lv_iload_n hx hb dX7_panelItem_75 rfl (lv_at hl 0 rfl) ?_
        refine rv_imul hx hb dX7_panelItem_76 ?_
        refine rv_iconst hx hb dX7_panelItem_77 ?_
        refine rv_iadd hx hb dX7_panelItem_78 ?_
        refine rv_iald hx hb hK hP 3 0 rfl rfl ((5 * (rd 20) + 1).toNat) (by omega) (by omega) dX7_panelItem_79 ?_
        refine rv_top (y := (nV tx len spot)) upI_s ?_
        refine lv_istore_n (lv' := [(3, .int (iI (nV tx len spot))), (2, .int (iI (rd 20))), (0, .ref (ad 0)), (1, .int (iI k))]) hx hb dX7_panelItem_80 rfl hl (by decide) rfl (fun ls hl => ?_)
        refine lv_aload_n hx hb dX7_panelItem_81 rfl (lv_at hl 2 rfl) ?_
        refine rv_iconst hx hb dX7_panelItem_82 ?_
        refine lv_iload_n hx hb dX7_panelItem_83 rfl (lv_at hl 1 rfl) ?_
        refine rv_imul hx hb dX7_panelItem_84 ?_
        refine rv_iconst hx hb dX7_panelItem_85 ?_
        refine rv_iadd hx hb dX7_panelItem_86 ?_
        refine rv_iconst hx hb dX7_panelItem_87 ?_
        refine rv_sipush hx hb dX7_panelItem_88 (by decide) ?_
        refine rv_bipush hx hb dX7_panelItem_91 (by decide) ?_
        have hFc := va_free (wc := (mW cs ad len (nx tx len spot) un bo cu lo wh tx now (upI (upI (upI rd 20 ((rd 20) + 1)) (5 * (rd 20).toNat) k) ((5 * (rd 20)) + 1).toNat (nV tx len spot)) bf bl us lg bd dp)) hD hS hA [0, 1, 2, 3, 4, 5, 6, 7, 8, 9] rfl
        refine va_calli (va_runV (As := [.int (iI ((5 * (rd 20)) + 2)), .int (iI 1), .int (iI 999), .int (iI 44)]) (rest := []) ⟨hx, hb, hml, hown, hts⟩ (c_X7_number l D cs ad H.size len (nx tx len spot) un bo cu lo wh tx now (upI (upI (upI rd 20 ((rd 20) + 1)) (5 * (rd 20).toNat) k) ((5 * (rd 20)) + 1).toNat (nV tx len spot)) bf bl us lg bd dp ((5 * (rd 20)) + 2) 1 999 44 hlen htx (by omega) (by omega) (by omega) (by omega) (by omega)) (cwV 4 hts (gV tb_689 tb_691 tbs_18 tb_8 tb_692) rfl rfl rfl (by decide +kernel) ⟨Nat.le_of_ble_eq_true rfl, Nat.le_of_ble_eq_true rfl⟩) (preV_M (X := fun _ _ => True) Stb_T hK (va_recv hK hP (ci := 6) (q0 := 0) rfl rfl) hP hD trivial) rfl rfl hl.1 rfl (lv_room (Nat.le_of_ble_eq_true rfl)) dX7_panelItem_93 ⟨Nat.le_of_ble_eq_true rfl, Nat.le_of_ble_eq_true rfl⟩) hS (fun q _ h => hFc q h) hFc (fun r9 u9 t9 H9 locs ht9 hvm9 hw9 hB9 hz9 hk9 hS => ?_)
        obtain rfl := hw9
        obtain ⟨hf93_0, hP1, hD1⟩ := hB9
        rw [ht9] at hP1
        have hP := hP1
        have hD := hD1.weaken (fun _ _ _ h => hFc _ h)
        generalize H9 = H at hP hS hz9 hk9 ht9 ⊢
        have hP : va_P D classes (mW cs ad len (nx tx len (nx tx len spot)) un bo cu lo wh tx now (upI (upI (upI (upI rd 20 ((rd 20) + 1)) (5 * (rd 20).toNat) k) ((5 * (rd 20)) + 1).toNat (nV tx len spot)) ((5 * (rd 20)) + 2).toNat (nV tx len (nx tx len spot))) bf bl us lg bd dp) H := hP
        have hD : va_D A (mW cs ad len (nx tx len (nx tx len spot)) un bo cu lo wh tx now (upI (upI (upI (upI rd 20 ((rd 20) + 1)) (5 * (rd 20).toNat) k) ((5 * (rd 20)) + 1).toNat (nV tx len spot)) ((5 * (rd 20)) + 2).toNat (nV tx len (nx tx len spot))) bf bl us lg bd dp) := hD
        have hnx_93 := nx_gt tx len (nx tx len spot)
        have hnv_93 := nV_bd tx len (nx tx len spot)
        rcases hf93_0 with ⟨rfl, hb93⟩ | ⟨rfl, hb93⟩
        · refine rv_if_eq (tgt := 156) hx hb dX7_panelItem_96 (by decide) (by decide) (fun q => absurd q (by decide)) (fun _ => ?_)
          refine lv_iload_n hx hb dX7_panelItem_99 rfl (lv_at hl 3 rfl) ?_
          refine lv_iload_n hx hb dX7_panelItem_100 rfl (lv_at hl 0 rfl) ?_
          refine lv_aload_n hx hb dX7_panelItem_101 rfl (lv_at hl 2 rfl) ?_
          refine va_get (D := D) (ci := 6) (v := .ref (ad 3)) (C := RX7) (T := TX7) (N := 16) hx hb ht inTB_X7 hown hK hP 0 rfl rfl 4 (by decide) (ht _ tb_592) (fun _ h9 => h9) rfl dX7_panelItem_102 ?_
          refine rv_iconst hx hb dX7_panelItem_105 ?_
          refine lv_iload_n hx hb dX7_panelItem_106 rfl (lv_at hl 1 rfl) ?_
          refine rv_imul hx hb dX7_panelItem_107 ?_
          refine rv_iconst hx hb dX7_panelItem_108 ?_
          refine rv_iadd hx hb dX7_panelItem_109 ?_
          refine rv_iald hx hb hK hP 3 0 rfl rfl ((5 * (rd 20) + 2).toNat) (by omega) (by omega) dX7_panelItem_110 ?_
          refine rv_top (y := (nV tx len (nx tx len spot))) upI_s ?_
          refine vp_callSi (W.runS (As := [.int (iI k), .int (iI (nV tx len spot)), .int (iI (nV tx len (nx tx len spot)))]) (rest := []) ⟨hx, hb, hml, hown, hts⟩ (c_X7_mayBe l k (nV tx len spot) (nV tx len (nx tx len spot)) hk hb62 (by omega)) (va_cwS 3 hts (gS tb_699 tb_700 tb_8 tb_701) rfl rfl rfl (by decide +kernel) ⟨Nat.le_of_ble_eq_true rfl, Nat.le_of_ble_eq_true rfl⟩) preS0 rfl rfl hl.1 rfl (lv_room (Nat.le_of_ble_eq_true rfl)) dX7_panelItem_111 ⟨Nat.le_of_ble_eq_true rfl, Nat.le_of_ble_eq_true rfl⟩) (fun r9 hr9 => ?_)
          rcases hr9 with ⟨rfl, hb111⟩ | ⟨rfl, hb111⟩
          · refine rv_if_eq (tgt := 156) hx hb dX7_panelItem_114 (by decide) (by decide) (fun q => absurd q (by decide)) (fun _ => ?_)
            refine lv_aload_n hx hb dX7_panelItem_117 rfl (lv_at hl 2 rfl) ?_
            refine rv_iconst hx hb dX7_panelItem_118 ?_
            refine lv_iload_n hx hb dX7_panelItem_119 rfl (lv_at hl 1 rfl) ?_
            refine rv_imul hx hb dX7_panelItem_120 ?_
            refine rv_iconst hx hb dX7_panelItem_121 ?_
            refine rv_iadd hx hb dX7_panelItem_122 ?_
            refine rv_iconst hx hb dX7_panelItem_123 ?_
            refine lv_iload_n hx hb dX7_panelItem_124 rfl (lv_at hl 0 rfl) ?_
            refine rv_iconst hx hb dX7_panelItem_125 ?_
            refine rv_isub hx hb dX7_panelItem_126 ?_
            refine rv_bipush hx hb dX7_panelItem_127 (by decide) ?_
            have hFc := va_free (wc := (mW cs ad len (nx tx len (nx tx len spot)) un bo cu lo wh tx now (upI (upI (upI (upI rd 20 ((rd 20) + 1)) (5 * (rd 20).toNat) k) ((5 * (rd 20)) + 1).toNat (nV tx len spot)) ((5 * (rd 20)) + 2).toNat (nV tx len (nx tx len spot))) bf bl us lg bd dp)) hD hS hA [0, 1, 2, 3, 4, 5, 6, 7, 8, 9] rfl
            refine va_calli (va_runV (As := [.int (iI ((5 * (rd 20)) + 3)), .int (iI 0), .int (iI (nV tx len spot - 1)), .int (iI 44)]) (rest := []) ⟨hx, hb, hml, hown, hts⟩ (c_X7_number l D cs ad H.size len (nx tx len (nx tx len spot)) un bo cu lo wh tx now (upI (upI (upI (upI rd 20 ((rd 20) + 1)) (5 * (rd 20).toNat) k) ((5 * (rd 20)) + 1).toNat (nV tx len spot)) ((5 * (rd 20)) + 2).toNat (nV tx len (nx tx len spot))) bf bl us lg bd dp ((5 * (rd 20)) + 3) 0 (nV tx len spot - 1) 44 hlen htx (by omega) (by omega) (by omega) (by omega) (by omega)) (cwV 4 hts (gV tb_689 tb_691 tbs_18 tb_8 tb_692) rfl rfl rfl (by decide +kernel) ⟨Nat.le_of_ble_eq_true rfl, Nat.le_of_ble_eq_true rfl⟩) (preV_M (X := fun _ _ => True) Stb_T hK (va_recv hK hP (ci := 6) (q0 := 0) rfl rfl) hP hD trivial) rfl rfl hl.1 rfl (lv_room (Nat.le_of_ble_eq_true rfl)) dX7_panelItem_129 ⟨Nat.le_of_ble_eq_true rfl, Nat.le_of_ble_eq_true rfl⟩) hS (fun q _ h => hFc q h) hFc (fun r9 u9 t9 H9 locs ht9 hvm9 hw9 hB9 hz9 hk9 hS => ?_)
            obtain rfl := hw9
            obtain ⟨hf129_0, hP1, hD1⟩ := hB9
            rw [ht9] at hP1
            have hP := hP1
            have hD := hD1.weaken (fun _ _ _ h => hFc _ h)
            generalize H9 = H at hP hS hz9 hk9 ht9 ⊢
            have hP : va_P D classes (mW cs ad len (nx tx len (nx tx len (nx tx len spot))) un bo cu lo wh tx now (upI (upI (upI (upI (upI rd 20 ((rd 20) + 1)) (5 * (rd 20).toNat) k) ((5 * (rd 20)) + 1).toNat (nV tx len spot)) ((5 * (rd 20)) + 2).toNat (nV tx len (nx tx len spot))) ((5 * (rd 20)) + 3).toNat (nV tx len (nx tx len (nx tx len spot)))) bf bl us lg bd dp) H := hP
            have hD : va_D A (mW cs ad len (nx tx len (nx tx len (nx tx len spot))) un bo cu lo wh tx now (upI (upI (upI (upI (upI rd 20 ((rd 20) + 1)) (5 * (rd 20).toNat) k) ((5 * (rd 20)) + 1).toNat (nV tx len spot)) ((5 * (rd 20)) + 2).toNat (nV tx len (nx tx len spot))) ((5 * (rd 20)) + 3).toNat (nV tx len (nx tx len (nx tx len spot)))) bf bl us lg bd dp) := hD
            have hnx_129 := nx_gt tx len (nx tx len (nx tx len spot))
            have hnv_129 := nV_bd tx len (nx tx len (nx tx len spot))
            rcases hf129_0 with ⟨rfl, hb129⟩ | ⟨rfl, hb129⟩
            · refine rv_if_eq (tgt := 156) hx hb dX7_panelItem_132 (by decide) (by decide) (fun q => absurd q (by decide)) (fun _ => ?_)
              refine lv_aload_n hx hb dX7_panelItem_135 rfl (lv_at hl 2 rfl) ?_
              refine rv_iconst hx hb dX7_panelItem_136 ?_
              refine lv_iload_n hx hb dX7_panelItem_137 rfl (lv_at hl 1 rfl) ?_
              refine rv_imul hx hb dX7_panelItem_138 ?_
              refine rv_iconst hx hb dX7_panelItem_139 ?_
              refine rv_iadd hx hb dX7_panelItem_140 ?_
              refine rv_iconst hx hb dX7_panelItem_141 ?_
              refine rv_bipush hx hb dX7_panelItem_142 (by decide) ?_
              refine rv_bipush hx hb dX7_panelItem_144 (by decide) ?_
              have hFc := va_free (wc := (mW cs ad len (nx tx len (nx tx len (nx tx len spot))) un bo cu lo wh tx now (upI (upI (upI (upI (upI rd 20 ((rd 20) + 1)) (5 * (rd 20).toNat) k) ((5 * (rd 20)) + 1).toNat (nV tx len spot)) ((5 * (rd 20)) + 2).toNat (nV tx len (nx tx len spot))) ((5 * (rd 20)) + 3).toNat (nV tx len (nx tx len (nx tx len spot)))) bf bl us lg bd dp)) hD hS hA [0, 1, 2, 3, 4, 5, 6, 7, 8, 9] rfl
              refine va_calli (va_runV (As := [.int (iI ((5 * (rd 20)) + 4)), .int (iI 1), .int (iI 40), .int (iI 59)]) (rest := []) ⟨hx, hb, hml, hown, hts⟩ (c_X7_number l D cs ad H.size len (nx tx len (nx tx len (nx tx len spot))) un bo cu lo wh tx now (upI (upI (upI (upI (upI rd 20 ((rd 20) + 1)) (5 * (rd 20).toNat) k) ((5 * (rd 20)) + 1).toNat (nV tx len spot)) ((5 * (rd 20)) + 2).toNat (nV tx len (nx tx len spot))) ((5 * (rd 20)) + 3).toNat (nV tx len (nx tx len (nx tx len spot)))) bf bl us lg bd dp ((5 * (rd 20)) + 4) 1 40 59 hlen htx (by omega) (by omega) (by omega) (by omega) (by omega)) (cwV 4 hts (gV tb_689 tb_691 tbs_18 tb_8 tb_692) rfl rfl rfl (by decide +kernel) ⟨Nat.le_of_ble_eq_true rfl, Nat.le_of_ble_eq_true rfl⟩) (preV_M (X := fun _ _ => True) Stb_T hK (va_recv hK hP (ci := 6) (q0 := 0) rfl rfl) hP hD trivial) rfl rfl hl.1 rfl (lv_room (Nat.le_of_ble_eq_true rfl)) dX7_panelItem_146 ⟨Nat.le_of_ble_eq_true rfl, Nat.le_of_ble_eq_true rfl⟩) hS (fun q _ h => hFc q h) hFc (fun r9 u9 t9 H9 locs ht9 hvm9 hw9 hB9 hz9 hk9 hS => ?_)
              obtain rfl := hw9
              obtain ⟨hf146_0, hP1, hD1⟩ := hB9
              rw [ht9] at hP1
              have hP := hP1
              have hD := hD1.weaken (fun _ _ _ h => hFc _ h)
              generalize H9 = H at hP hS hz9 hk9 ht9 ⊢
              have hP : va_P D classes (mW cs ad len (nx tx len (nx tx len (nx tx len (nx tx len spot)))) un bo cu lo wh tx now (upI (upI (upI (upI (upI (upI rd 20 ((rd 20) + 1)) (5 * (rd 20).toNat) k) ((5 * (rd 20)) + 1).toNat (nV tx len spot)) ((5 * (rd 20)) + 2).toNat (nV tx len (nx tx len spot))) ((5 * (rd 20)) + 3).toNat (nV tx len (nx tx len (nx tx len spot)))) ((5 * (rd 20)) + 4).toNat (nV tx len (nx tx len (nx tx len (nx tx len spot))))) bf bl us lg bd dp) H := hP
              have hD : va_D A (mW cs ad len (nx tx len (nx tx len (nx tx len (nx tx len spot)))) un bo cu lo wh tx now (upI (upI (upI (upI (upI (upI rd 20 ((rd 20) + 1)) (5 * (rd 20).toNat) k) ((5 * (rd 20)) + 1).toNat (nV tx len spot)) ((5 * (rd 20)) + 2).toNat (nV tx len (nx tx len spot))) ((5 * (rd 20)) + 3).toNat (nV tx len (nx tx len (nx tx len spot)))) ((5 * (rd 20)) + 4).toNat (nV tx len (nx tx len (nx tx len (nx tx len spot))))) bf bl us lg bd dp) := hD
              have hnx_146 := nx_gt tx len (nx tx len (nx tx len (nx tx len spot)))
              have hnv_146 := nV_bd tx len (nx tx len (nx tx len (nx tx len spot)))
              rcases hf146_0 with ⟨rfl, hb146⟩ | ⟨rfl, hb146⟩
              · refine rv_if_eq (tgt := 156) hx hb dX7_panelItem_149 (by decide) (by decide) (fun q => absurd q (by decide)) (fun _ => ?_)
                refine rv_iconst hx hb dX7_panelItem_152 ?_
                refine lv_goto (tgt := 157) hx hb dX7_panelItem_153 (by decide) ?_
                subst hQ
                exact W.zret (ty := .boolean) hx hb hr (by decide) (fun t9 ht9 hW9 => ⟨⟨_, _, rfl, rfl, ⟨(upI (upI (upI (upI (upI (upI rd 20 ((rd 20) + 1)) (5 * (rd 20).toNat) k) ((5 * (rd 20)) + 1).toNat (nV tx len spot)) ((5 * (rd 20)) + 2).toNat (nV tx len (nx tx len spot))) ((5 * (rd 20)) + 3).toNat (nV tx len (nx tx len (nx tx len spot)))) ((5 * (rd 20)) + 4).toNat (nV tx len (nx tx len (nx tx len (nx tx len spot))))), (nx tx len (nx tx len (nx tx len (nx tx len spot)))), Or.inl ⟨rfl, by omega, ⟨hb46.1, hb46.2.2⟩, ⟨hb93.1, hb93.2.2⟩, ⟨hb129.1, hb129.2.2⟩, ⟨hb146.1, hb146.2.2⟩, hb62, hb111, by have := hb129.2.1; omega, by have := hb146.2.1; omega⟩, fun _ => ⟨by rw [i1, i2, i3, i4]; rfl, rfl⟩, by rw [ht9]; exact hP, by rw [hAe]; exact hD⟩⟩, by rw [hAe]; exact hS.F ht9⟩) (by rw [hAe]; exact hS.2.2) dX7_panelItem_157
              · refine rv_if_eq (tgt := 156) hx hb dX7_panelItem_149 (by decide) (by decide) (fun _ => ?_) (fun q => absurd q (by decide))
                refine rv_iconst hx hb dX7_panelItem_156 ?_
                subst hQ
                exact W.zret (ty := .boolean) hx hb hr (by decide) (fun t9 ht9 hW9 => ⟨⟨_, _, rfl, rfl, ⟨(upI (upI (upI (upI (upI (upI rd 20 ((rd 20) + 1)) (5 * (rd 20).toNat) k) ((5 * (rd 20)) + 1).toNat (nV tx len spot)) ((5 * (rd 20)) + 2).toNat (nV tx len (nx tx len spot))) ((5 * (rd 20)) + 3).toNat (nV tx len (nx tx len (nx tx len spot)))) ((5 * (rd 20)) + 4).toNat (nV tx len (nx tx len (nx tx len (nx tx len spot))))), (nx tx len (nx tx len (nx tx len (nx tx len spot)))), Or.inr ⟨rfl, fun q => by first | exact hb111 q.2.2.2.2.2.2.1 | (have hz := fOK_bd hk q.2.2.2.2.2.1 q.2.2.2.2.2.2.1; exact hb93 ⟨q.2.2.1.1, by omega, q.2.2.1.2⟩) | (have hz := q.2.2.2.2.2.2.2.1; exact hb129 ⟨q.2.2.2.1.1, by omega, q.2.2.2.1.2⟩) | (have hz := q.2.2.2.2.2.2.2.2; exact hb146 ⟨q.2.2.2.2.1.1, by omega, q.2.2.2.2.1.2⟩)⟩, fun q => absurd q (fun q => by first | exact hb111 q.2.2.2.2.2.2.1 | (have hz := fOK_bd hk q.2.2.2.2.2.1 q.2.2.2.2.2.2.1; exact hb93 ⟨q.2.2.1.1, by omega, q.2.2.1.2⟩) | (have hz := q.2.2.2.2.2.2.2.1; exact hb129 ⟨q.2.2.2.1.1, by omega, q.2.2.2.1.2⟩) | (have hz := q.2.2.2.2.2.2.2.2; exact hb146 ⟨q.2.2.2.2.1.1, by omega, q.2.2.2.2.1.2⟩)), by rw [ht9]; exact hP, by rw [hAe]; exact hD⟩⟩, by rw [hAe]; exact hS.F ht9⟩) (by rw [hAe]; exact hS.2.2) dX7_panelItem_157
            · refine rv_if_eq (tgt := 156) hx hb dX7_panelItem_132 (by decide) (by decide) (fun _ => ?_) (fun q => absurd q (by decide))
              refine rv_iconst hx hb dX7_panelItem_156 ?_
              subst hQ
              exact W.zret (ty := .boolean) hx hb hr (by decide) (fun t9 ht9 hW9 => ⟨⟨_, _, rfl, rfl, ⟨(upI (upI (upI (upI (upI rd 20 ((rd 20) + 1)) (5 * (rd 20).toNat) k) ((5 * (rd 20)) + 1).toNat (nV tx len spot)) ((5 * (rd 20)) + 2).toNat (nV tx len (nx tx len spot))) ((5 * (rd 20)) + 3).toNat (nV tx len (nx tx len (nx tx len spot)))), (nx tx len (nx tx len (nx tx len spot))), Or.inr ⟨rfl, fun q => by first | exact hb111 q.2.2.2.2.2.2.1 | (have hz := fOK_bd hk q.2.2.2.2.2.1 q.2.2.2.2.2.2.1; exact hb93 ⟨q.2.2.1.1, by omega, q.2.2.1.2⟩) | (have hz := q.2.2.2.2.2.2.2.1; exact hb129 ⟨q.2.2.2.1.1, by omega, q.2.2.2.1.2⟩) | (have hz := q.2.2.2.2.2.2.2.2; exact hb146 ⟨q.2.2.2.2.1.1, by omega, q.2.2.2.2.1.2⟩)⟩, fun q => absurd q (fun q => by first | exact hb111 q.2.2.2.2.2.2.1 | (have hz := fOK_bd hk q.2.2.2.2.2.1 q.2.2.2.2.2.2.1; exact hb93 ⟨q.2.2.1.1, by omega, q.2.2.1.2⟩) | (have hz := q.2.2.2.2.2.2.2.1; exact hb129 ⟨q.2.2.2.1.1, by omega, q.2.2.2.1.2⟩) | (have hz := q.2.2.2.2.2.2.2.2; exact hb146 ⟨q.2.2.2.2.1.1, by omega, q.2.2.2.2.1.2⟩)), by rw [ht9]; exact hP, by rw [hAe]; exact hD⟩⟩, by rw [hAe]; exact hS.F ht9⟩) (by rw [hAe]; exact hS.2.2) dX7_panelItem_157
          · refine rv_if_eq (tgt := 156) hx hb dX7_panelItem_114 (by decide) (by decide) (fun _ => ?_) (fun q => absurd q (by decide))
            refine rv_iconst hx hb dX7_panelItem_156 ?_
            subst hQ
            exact W.zret (ty := .boolean) hx hb hr (by decide) (fun t9 ht9 hW9 => ⟨⟨_, _, rfl, rfl, ⟨(upI (upI (upI (upI rd 20 ((rd 20) + 1)) (5 * (rd 20).toNat) k) ((5 * (rd 20)) + 1).toNat (nV tx len spot)) ((5 * (rd 20)) + 2).toNat (nV tx len (nx tx len spot))), (nx tx len (nx tx len spot)), Or.inr ⟨rfl, fun q => by first | exact hb111 q.2.2.2.2.2.2.1 | (have hz := fOK_bd hk q.2.2.2.2.2.1 q.2.2.2.2.2.2.1; exact hb93 ⟨q.2.2.1.1, by omega, q.2.2.1.2⟩) | (have hz := q.2.2.2.2.2.2.2.1; exact hb129 ⟨q.2.2.2.1.1, by omega, q.2.2.2.1.2⟩) | (have hz := q.2.2.2.2.2.2.2.2; exact hb146 ⟨q.2.2.2.2.1.1, by omega, q.2.2.2.2.1.2⟩)⟩, fun q => absurd q (fun q => by first | exact hb111 q.2.2.2.2.2.2.1 | (have hz := fOK_bd hk q.2.2.2.2.2.1 q.2.2.2.2.2.2.1; exact hb93 ⟨q.2.2.1.1, by omega, q.2.2.1.2⟩) | (have hz := q.2.2.2.2.2.2.2.1; exact hb129 ⟨q.2.2.2.1.1, by omega, q.2.2.2.1.2⟩) | (have hz := q.2.2.2.2.2.2.2.2; exact hb146 ⟨q.2.2.2.2.1.1, by omega, q.2.2.2.2.1.2⟩)), by rw [ht9]; exact hP, by rw [hAe]; exact hD⟩⟩, by rw [hAe]; exact hS.F ht9⟩) (by rw [hAe]; exact hS.2.2) dX7_panelItem_157
        · refine rv_if_eq (tgt := 156) hx hb dX7_panelItem_96 (by decide) (by decide) (fun _ => ?_) (fun q => absurd q (by decide))
          refine rv_iconst hx hb dX7_panelItem_156 ?_
          subst hQ
          exact W.zret (ty := .boolean) hx hb hr (by decide) (fun t9 ht9 hW9 => ⟨⟨_, _, rfl, rfl, ⟨(upI (upI (upI (upI rd 20 ((rd 20) + 1)) (5 * (rd 20).toNat) k) ((5 * (rd 20)) + 1).toNat (nV tx len spot)) ((5 * (rd 20)) + 2).toNat (nV tx len (nx tx len spot))), (nx tx len (nx tx len spot)), Or.inr ⟨rfl, fun q => by first | exact hb111 q.2.2.2.2.2.2.1 | (have hz := fOK_bd hk q.2.2.2.2.2.1 q.2.2.2.2.2.2.1; exact hb93 ⟨q.2.2.1.1, by omega, q.2.2.1.2⟩) | (have hz := q.2.2.2.2.2.2.2.1; exact hb129 ⟨q.2.2.2.1.1, by omega, q.2.2.2.1.2⟩) | (have hz := q.2.2.2.2.2.2.2.2; exact hb146 ⟨q.2.2.2.2.1.1, by omega, q.2.2.2.2.1.2⟩)⟩, fun q => absurd q (fun q => by first | exact hb111 q.2.2.2.2.2.2.1 | (have hz := fOK_bd hk q.2.2.2.2.2.1 q.2.2.2.2.2.2.1; exact hb93 ⟨q.2.2.1.1, by omega, q.2.2.1.2⟩) | (have hz := q.2.2.2.2.2.2.2.1; exact hb129 ⟨q.2.2.2.1.1, by omega, q.2.2.2.1.2⟩) | (have hz := q.2.2.2.2.2.2.2.2; exact hb146 ⟨q.2.2.2.2.1.1, by omega, q.2.2.2.2.1.2⟩)), by rw [ht9]; exact hP, by rw [hAe]; exact hD⟩⟩, by rw [hAe]; exact hS.F ht9⟩) (by rw [hAe]; exact hS.2.2) dX7_panelItem_157
      · refine rv_if_ne (tgt := 70) hx hb dX7_panelItem_65 (by decide) (by decide) (fun q => absurd q (by decide)) (fun _ => ?_)
        refine rv_iconst hx hb dX7_panelItem_68 ?_
        subst hQ
        exact W.zret (ty := .boolean) hx hb hr (by decide) (fun t9 ht9 hW9 => ⟨⟨_, _, rfl, rfl, ⟨(upI (upI (upI rd 20 ((rd 20) + 1)) (5 * (rd 20).toNat) k) ((5 * (rd 20)) + 1).toNat (nV tx len spot)), (nx tx len spot), Or.inr ⟨rfl, fun q => by first | (have := q.2.1.1; have := q.2.1.2; have := isPr_bd q.2.2.2.2.2.1; exact hb46 ⟨q.2.1.1, by omega, q.2.1.2⟩) | exact hb62 q.2.2.2.2.2.1⟩, fun q => absurd q (fun q => by first | (have := q.2.1.1; have := q.2.1.2; have := isPr_bd q.2.2.2.2.2.1; exact hb46 ⟨q.2.1.1, by omega, q.2.1.2⟩) | exact hb62 q.2.2.2.2.2.1), by rw [ht9]; exact hP, by rw [hAe]; exact hD⟩⟩, by rw [hAe]; exact hS.F ht9⟩) (by rw [hAe]; exact hS.2.2) dX7_panelItem_69
    · refine rv_if_eq (tgt := 68) hx hb dX7_panelItem_49 (by decide) (by decide) (fun _ => ?_) (fun q => absurd q (by decide))
      refine rv_iconst hx hb dX7_panelItem_68 ?_
      subst hQ
      exact W.zret (ty := .boolean) hx hb hr (by decide) (fun t9 ht9 hW9 => ⟨⟨_, _, rfl, rfl, ⟨(upI (upI (upI rd 20 ((rd 20) + 1)) (5 * (rd 20).toNat) k) ((5 * (rd 20)) + 1).toNat (nV tx len spot)), (nx tx len spot), Or.inr ⟨rfl, fun q => by first | (have := q.2.1.1; have := q.2.1.2; have := isPr_bd q.2.2.2.2.2.1; exact hb46 ⟨q.2.1.1, by omega, q.2.1.2⟩) | exact hb62 q.2.2.2.2.2.1⟩, fun q => absurd q (fun q => by first | (have := q.2.1.1; have := q.2.1.2; have := isPr_bd q.2.2.2.2.2.1; exact hb46 ⟨q.2.1.1, by omega, q.2.1.2⟩) | exact hb62 q.2.2.2.2.2.1), by rw [ht9]; exact hP, by rw [hAe]; exact hD⟩⟩, by rw [hAe]; exact hS.F ht9⟩) (by rw [hAe]; exact hS.2.2) dX7_panelItem_69
  · refine rv_iconst hx hb dX7_panelItem_13 ?_
    subst hQ
    exact W.zret (ty := .boolean) hx hb hr (by decide) (fun t9 ht9 hW9 => ⟨⟨_, _, rfl, rfl, ⟨rd, spot, Or.inr ⟨rfl, fun q => by omega⟩, fun q => absurd q (fun q => by omega), by rw [ht9]; exact hP, by rw [hAe]; exact hD⟩⟩, by rw [hAe]; exact hS.F ht9⟩) (by rw [hAe]; exact hS.2.2) dX7_panelItem_14

abbrev rm_X7_item : Room := { frames := 4, cells := 0, slots := 0, locals := 93 }
set_option maxHeartbeats 8000000 in
set_option maxRecDepth 100000 in
/-- item -/
theorem c_X7_item (l : Launch) (D : va_G) (cs : Nat → ClassId) (ad : Nat → Nat) (sz : Nat) (len : Int) (spot : Int) (un : Int) (bo : Int) (cu : Int) (lo : Int) (wh : Int) (tx : Nat → Int) (now : Nat → Int) (rd : Nat → Int) (bf : Nat → Int) (bl : Nat → Int) (us : Nat → Int) (lg : Nat → Int) (bd : Nat → Int) (dp : Nat → Int) (ch : Int) (hlen : 0 ≤ len ∧ len ≤ 200) (htx : okTx tx len) (hsp : 0 ≤ spot ∧ spot ≤ 250) (hch : -2147483648 ≤ ch ∧ ch < 2147483648) (h20 : 0 ≤ rd 20 ∧ rd 20 ≤ 4) : Met l yX7_item (Cond.code yX7_item cX7_item 2 (some .boolean) :: TB) rm_X7_item (va_Pc [.ref (ad 0), .int (iI ch)] (MPre D cs sz (mW cs ad len spot un bo cu lo wh tx now rd bf bl us lg bd dp) (fun _ _ => True))) (va_Qi (fun (r u : Int32) => r = u) (fun r t => ∃ (rd2 : Nat → Int) (spot2 : Int), ((r = iI 1 ∧ (okItem tx len (rd 20) ch spot)) ∨ (r = iI 0 ∧ ¬ (okItem tx len (rd 20) ch spot))) ∧ ((okItem tx len (rd 20) ch spot) → rd2 = stItem tx len rd ch spot ∧ spot2 = nxItem tx len ch spot) ∧ va_P D classes (mW cs ad len spot2 un bo cu lo wh tx now rd2 bf bl us lg bd dp) t.heap ∧ va_D (va_A (mW cs ad len spot un bo cu lo wh tx now rd bf bl us lg bd dp) sz) (mW cs ad len spot2 un bo cu lo wh tx now rd2 bf bl us lg bd dp)) (va_A (mW cs ad len spot un bo cu lo wh tx now rd bf bl us lg bd dp) sz)) 0 0 (va_A (mW cs ad len spot un bo cu lo wh tx now rd bf bl us lg bd dp) sz) := by
  refine enter (cc := cX7_item) (maxL := 2) (ret := (some .boolean)) (by decide) (Nat.le_of_ble_eq_true rfl) ?_
  intro pg ev s m below meth c Q ls hx hb hml hown hts hr hlocks hnm ⟨hsz, hP, hD0, hK, hX0⟩ hl hQ
  have ht : ∀ w ∈ TB, w.before _ s = true := fun w h => hts w (List.mem_cons_of_mem _ h)
  subst hsz
  have hD := hD0.self (sz := s.heap.size)
  obtain ⟨A, hAe⟩ : ∃ A, va_A (mW cs ad len spot un bo cu lo wh tx now rd bf bl us lg bd dp) s.heap.size = A := ⟨_, rfl⟩
  rw [hAe] at hD
  have hA : ∀ q : Nat, s.heap.size ≤ q → A q := fun q h => by rw [← hAe]; exact Or.inr h
  obtain ⟨H, hH⟩ : ∃ H, H = s.heap := ⟨_, rfl⟩
  obtain ⟨locs, hlocs⟩ : ∃ locs : List Loc, locs = [] := ⟨_, rfl⟩
  have hS : va_S A s.heap H locs := by rw [hH, hlocs]; exact va_S.rf
  rw [← hH] at hP
  suffices hgo : W pg l ev rm_X7_item s m [.ref (ad 0), .int (iI ch)].toArray below meth c H locs 0 0 Q (F0 m 0 ls []) by rw [hH, hlocs] at hgo; exact hgo
  have hl : lv_has ls 2 [(0, .ref (ad 0)), (1, .int (iI ch))] := hl
  refine lv_iload_n hx hb dX7_item_0 rfl (lv_at hl 1 rfl) ?_
  by_cases hc98 : ch = 98
  · refine rv_top (y := 98) hc98 ?_
    refine lv_lookup (tgt := 82) hx hb dX7_item_1 (by decide) rfl (by decide) ?_
    refine lv_aload_n hx hb dX7_item_82 rfl (lv_at hl 0 rfl) ?_
    refine rv_bipush hx hb dX7_item_83 (by decide) ?_
    refine rv_bipush hx hb dX7_item_85 (by decide) ?_
    refine rv_sipush hx hb dX7_item_87 (by decide) ?_
    refine rv_bipush hx hb dX7_item_90 (by decide) ?_
    have hFc := va_free (wc := (mW cs ad len spot un bo cu lo wh tx now rd bf bl us lg bd dp)) hD hS hA [0, 1, 2, 3, 4, 5, 6, 7, 8, 9] rfl
    refine va_calli (va_runV (As := [.int (iI 22), .int (iI 20), .int (iI 400), .int (iI 44)]) (rest := []) ⟨hx, hb, hml, hown, hts⟩ (c_X7_number l D cs ad H.size len spot un bo cu lo wh tx now rd bf bl us lg bd dp 22 20 400 44 hlen htx (by omega) (by omega) (by omega) (by omega) (by omega)) (cwV 4 hts (gV tb_689 tb_691 tbs_18 tb_8 tb_692) rfl rfl rfl (by decide +kernel) ⟨Nat.le_of_ble_eq_true rfl, Nat.le_of_ble_eq_true rfl⟩) (preV_M (X := fun _ _ => True) Stb_T hK (va_recv hK hP (ci := 6) (q0 := 0) rfl rfl) hP hD trivial) rfl rfl hl.1 rfl (lv_room (Nat.le_of_ble_eq_true rfl)) dX7_item_92 ⟨Nat.le_of_ble_eq_true rfl, Nat.le_of_ble_eq_true rfl⟩) hS (fun q _ h => hFc q h) hFc (fun r9 u9 t9 H9 locs ht9 hvm9 hw9 hB9 hz9 hk9 hS => ?_)
    obtain rfl := hw9
    obtain ⟨hf92_0, hP1, hD1⟩ := hB9
    rw [ht9] at hP1
    have hP := hP1
    have hD := hD1.weaken (fun _ _ _ h => hFc _ h)
    generalize H9 = H at hP hS hz9 hk9 ht9 ⊢
    have hP : va_P D classes (mW cs ad len (nx tx len spot) un bo cu lo wh tx now (upI rd (22 : Int).toNat (nV tx len spot)) bf bl us lg bd dp) H := hP
    have hD : va_D A (mW cs ad len (nx tx len spot) un bo cu lo wh tx now (upI rd (22 : Int).toNat (nV tx len spot)) bf bl us lg bd dp) := hD
    have hnx_92 := nx_gt tx len spot
    have hnv_92 := nV_bd tx len spot
    rcases hf92_0 with ⟨rfl, hb92⟩ | ⟨rfl, hb92⟩
    · refine rv_if_eq (tgt := 115) hx hb dX7_item_95 (by decide) (by decide) (fun q => absurd q (by decide)) (fun _ => ?_)
      refine lv_aload_n hx hb dX7_item_98 rfl (lv_at hl 0 rfl) ?_
      refine rv_bipush hx hb dX7_item_99 (by decide) ?_
      refine rv_iconst hx hb dX7_item_101 ?_
      refine rv_iconst hx hb dX7_item_102 ?_
      refine rv_bipush hx hb dX7_item_103 (by decide) ?_
      have hFc := va_free (wc := (mW cs ad len (nx tx len spot) un bo cu lo wh tx now (upI rd (22 : Int).toNat (nV tx len spot)) bf bl us lg bd dp)) hD hS hA [0, 1, 2, 3, 4, 5, 6, 7, 8, 9] rfl
      refine va_calli (va_runV (As := [.int (iI 23), .int (iI 0), .int (iI 5), .int (iI 59)]) (rest := []) ⟨hx, hb, hml, hown, hts⟩ (c_X7_number l D cs ad H.size len (nx tx len spot) un bo cu lo wh tx now (upI rd (22 : Int).toNat (nV tx len spot)) bf bl us lg bd dp 23 0 5 59 hlen htx (by omega) (by omega) (by omega) (by omega) (by omega)) (cwV 4 hts (gV tb_689 tb_691 tbs_18 tb_8 tb_692) rfl rfl rfl (by decide +kernel) ⟨Nat.le_of_ble_eq_true rfl, Nat.le_of_ble_eq_true rfl⟩) (preV_M (X := fun _ _ => True) Stb_T hK (va_recv hK hP (ci := 6) (q0 := 0) rfl rfl) hP hD trivial) rfl rfl hl.1 rfl (lv_room (Nat.le_of_ble_eq_true rfl)) dX7_item_105 ⟨Nat.le_of_ble_eq_true rfl, Nat.le_of_ble_eq_true rfl⟩) hS (fun q _ h => hFc q h) hFc (fun r9 u9 t9 H9 locs ht9 hvm9 hw9 hB9 hz9 hk9 hS => ?_)
      obtain rfl := hw9
      obtain ⟨hf105_0, hP1, hD1⟩ := hB9
      rw [ht9] at hP1
      have hP := hP1
      have hD := hD1.weaken (fun _ _ _ h => hFc _ h)
      generalize H9 = H at hP hS hz9 hk9 ht9 ⊢
      have hP : va_P D classes (mW cs ad len (nx tx len (nx tx len spot)) un bo cu lo wh tx now (upI (upI rd (22 : Int).toNat (nV tx len spot)) (23 : Int).toNat (nV tx len (nx tx len spot))) bf bl us lg bd dp) H := hP
      have hD : va_D A (mW cs ad len (nx tx len (nx tx len spot)) un bo cu lo wh tx now (upI (upI rd (22 : Int).toNat (nV tx len spot)) (23 : Int).toNat (nV tx len (nx tx len spot))) bf bl us lg bd dp) := hD
      have hnx_105 := nx_gt tx len (nx tx len spot)
      have hnv_105 := nV_bd tx len (nx tx len spot)
      rcases hf105_0 with ⟨rfl, hb105⟩ | ⟨rfl, hb105⟩
      · refine rv_if_eq (tgt := 115) hx hb dX7_item_108 (by decide) (by decide) (fun q => absurd q (by decide)) (fun _ => ?_)
        refine rv_iconst hx hb dX7_item_111 ?_
        refine lv_goto (tgt := 116) hx hb dX7_item_112 (by decide) ?_
        subst hQ
        exact W.zret (ty := .boolean) hx hb hr (by decide) (fun t9 ht9 hW9 => ⟨⟨_, _, rfl, rfl, ⟨(upI (upI rd (22 : Int).toNat (nV tx len spot)) (23 : Int).toNat (nV tx len (nx tx len spot))), (nx tx len (nx tx len spot)), Or.inl ⟨rfl, Or.inr (Or.inr (Or.inr (Or.inr ⟨hc98, ⟨hb92.1, hb92.2.2⟩, hb92.2.1, ⟨hb105.1, hb105.2.2⟩, hb105.2.1⟩)))⟩, fun _ => ⟨by rw [stItem, cF_neg (by omega), cF_pos hc98]; rfl, by rw [nxItem, cif_neg (by omega), cif_pos hc98]⟩, by rw [ht9]; exact hP, by rw [hAe]; exact hD⟩⟩, by rw [hAe]; exact hS.F ht9⟩) (by rw [hAe]; exact hS.2.2) dX7_item_116
      · refine rv_if_eq (tgt := 115) hx hb dX7_item_108 (by decide) (by decide) (fun _ => ?_) (fun q => absurd q (by decide))
        refine rv_iconst hx hb dX7_item_115 ?_
        subst hQ
        exact W.zret (ty := .boolean) hx hb hr (by decide) (fun t9 ht9 hW9 => ⟨⟨_, _, rfl, rfl, ⟨(upI (upI rd (22 : Int).toNat (nV tx len spot)) (23 : Int).toNat (nV tx len (nx tx len spot))), (nx tx len (nx tx len spot)), Or.inr ⟨rfl, fun q => by rcases q with q | q | q | q | q; omega; omega; omega; omega; first | exact hb92 ⟨q.2.1.1, q.2.2.1, q.2.1.2⟩ | exact hb105 ⟨q.2.2.2.1.1, q.2.2.2.2, q.2.2.2.1.2⟩⟩, fun q => absurd q (fun q => by rcases q with q | q | q | q | q; omega; omega; omega; omega; first | exact hb92 ⟨q.2.1.1, q.2.2.1, q.2.1.2⟩ | exact hb105 ⟨q.2.2.2.1.1, q.2.2.2.2, q.2.2.2.1.2⟩), by rw [ht9]; exact hP, by rw [hAe]; exact hD⟩⟩, by rw [hAe]; exact hS.F ht9⟩) (by rw [hAe]; exact hS.2.2) dX7_item_116
    · refine rv_if_eq (tgt := 115) hx hb dX7_item_95 (by decide) (by decide) (fun _ => ?_) (fun q => absurd q (by decide))
      refine rv_iconst hx hb dX7_item_115 ?_
      subst hQ
      exact W.zret (ty := .boolean) hx hb hr (by decide) (fun t9 ht9 hW9 => ⟨⟨_, _, rfl, rfl, ⟨(upI rd (22 : Int).toNat (nV tx len spot)), (nx tx len spot), Or.inr ⟨rfl, fun q => by rcases q with q | q | q | q | q; omega; omega; omega; omega; first | exact hb92 ⟨q.2.1.1, q.2.2.1, q.2.1.2⟩ | exact hb105 ⟨q.2.2.2.1.1, q.2.2.2.2, q.2.2.2.1.2⟩⟩, fun q => absurd q (fun q => by rcases q with q | q | q | q | q; omega; omega; omega; omega; first | exact hb92 ⟨q.2.1.1, q.2.2.1, q.2.1.2⟩ | exact hb105 ⟨q.2.2.2.1.1, q.2.2.2.2, q.2.2.2.1.2⟩), by rw [ht9]; exact hP, by rw [hAe]; exact hD⟩⟩, by rw [hAe]; exact hS.F ht9⟩) (by rw [hAe]; exact hS.2.2) dX7_item_116
  by_cases hc108 : ch = 108
  · refine rv_top (y := 108) hc108 ?_
    refine lv_lookup (tgt := 64) hx hb dX7_item_1 (by decide) rfl (by decide) ?_
    refine lv_aload_n hx hb dX7_item_64 rfl (lv_at hl 0 rfl) ?_
    refine rv_iconst hx hb dX7_item_65 ?_
    have hFc := va_free (wc := (mW cs ad len spot un bo cu lo wh tx now rd bf bl us lg bd dp)) hD hS hA [0, 1, 2, 3, 4, 5, 6, 7, 8, 9] rfl
    refine va_calli (va_runV (As := [.int (iI 2)]) (rest := []) ⟨hx, hb, hml, hown, hts⟩ (c_X7_panelItem l D cs ad H.size len spot un bo cu lo wh tx now rd bf bl us lg bd dp 2 hlen htx (by omega) (by omega) (by omega)) (cwV 1 hts (gV tb_685 tb_687 tbs_17 tb_8 tb_688) rfl rfl rfl (by decide +kernel) ⟨Nat.le_of_ble_eq_true rfl, Nat.le_of_ble_eq_true rfl⟩) (preV_M (X := fun _ _ => True) Stb_T hK (va_recv hK hP (ci := 6) (q0 := 0) rfl rfl) hP hD trivial) rfl rfl hl.1 rfl (lv_room (Nat.le_of_ble_eq_true rfl)) dX7_item_66 ⟨Nat.le_of_ble_eq_true rfl, Nat.le_of_ble_eq_true rfl⟩) hS (fun q _ h => hFc q h) hFc (fun r9 u9 t9 H9 locs ht9 hvm9 hw9 hB9 hz9 hk9 hS => ?_)
    obtain rfl := hw9
    obtain ⟨rd2_66, spot2_66, hf66_0, hf66_1, hP1, hD1⟩ := hB9
    rw [ht9] at hP1
    have hP := hP1
    have hD := hD1.weaken (fun _ _ _ h => hFc _ h)
    generalize H9 = H at hP hS hz9 hk9 ht9 ⊢
    have hP : va_P D classes (mW cs ad len spot2_66 un bo cu lo wh tx now rd2_66 bf bl us lg bd dp) H := hP
    have hD : va_D A (mW cs ad len spot2_66 un bo cu lo wh tx now rd2_66 bf bl us lg bd dp) := hD
    rcases hf66_0 with ⟨rfl, hb66⟩ | ⟨rfl, hb66⟩
    · subst hQ
      exact W.zret (ty := .boolean) hx hb hr (by decide) (fun t9 ht9 hW9 => ⟨⟨_, _, rfl, rfl, ⟨rd2_66, spot2_66, Or.inl ⟨rfl, Or.inr (Or.inr (Or.inl ⟨hc108, hb66⟩))⟩, fun _ => by have hz := hf66_1 hb66; rw [stItem, cF_neg (by omega), cF_neg (by omega), nxItem, cif_neg (by omega), cif_neg (by omega), kdItem, cif_neg (by omega), cif_neg (by omega)]; exact hz, by rw [ht9]; exact hP, by rw [hAe]; exact hD⟩⟩, by rw [hAe]; exact hS.F ht9⟩) (by rw [hAe]; exact hS.2.2) dX7_item_69
    · subst hQ
      exact W.zret (ty := .boolean) hx hb hr (by decide) (fun t9 ht9 hW9 => ⟨⟨_, _, rfl, rfl, ⟨rd2_66, spot2_66, Or.inr ⟨rfl, fun q => by rcases q with q | q | q | q | q; all_goals first | exact hb66 q.2 | omega⟩, fun q => absurd q (fun q => by rcases q with q | q | q | q | q; all_goals first | exact hb66 q.2 | omega), by rw [ht9]; exact hP, by rw [hAe]; exact hD⟩⟩, by rw [hAe]; exact hS.F ht9⟩) (by rw [hAe]; exact hS.2.2) dX7_item_69
  by_cases hc113 : ch = 113
  · refine rv_top (y := 113) hc113 ?_
    refine lv_lookup (tgt := 52) hx hb dX7_item_1 (by decide) rfl (by decide) ?_
    refine lv_aload_n hx hb dX7_item_52 rfl (lv_at hl 0 rfl) ?_
    refine rv_iconst hx hb dX7_item_53 ?_
    have hFc := va_free (wc := (mW cs ad len spot un bo cu lo wh tx now rd bf bl us lg bd dp)) hD hS hA [0, 1, 2, 3, 4, 5, 6, 7, 8, 9] rfl
    refine va_calli (va_runV (As := [.int (iI 0)]) (rest := []) ⟨hx, hb, hml, hown, hts⟩ (c_X7_panelItem l D cs ad H.size len spot un bo cu lo wh tx now rd bf bl us lg bd dp 0 hlen htx (by omega) (by omega) (by omega)) (cwV 1 hts (gV tb_685 tb_687 tbs_17 tb_8 tb_688) rfl rfl rfl (by decide +kernel) ⟨Nat.le_of_ble_eq_true rfl, Nat.le_of_ble_eq_true rfl⟩) (preV_M (X := fun _ _ => True) Stb_T hK (va_recv hK hP (ci := 6) (q0 := 0) rfl rfl) hP hD trivial) rfl rfl hl.1 rfl (lv_room (Nat.le_of_ble_eq_true rfl)) dX7_item_54 ⟨Nat.le_of_ble_eq_true rfl, Nat.le_of_ble_eq_true rfl⟩) hS (fun q _ h => hFc q h) hFc (fun r9 u9 t9 H9 locs ht9 hvm9 hw9 hB9 hz9 hk9 hS => ?_)
    obtain rfl := hw9
    obtain ⟨rd2_54, spot2_54, hf54_0, hf54_1, hP1, hD1⟩ := hB9
    rw [ht9] at hP1
    have hP := hP1
    have hD := hD1.weaken (fun _ _ _ h => hFc _ h)
    generalize H9 = H at hP hS hz9 hk9 ht9 ⊢
    have hP : va_P D classes (mW cs ad len spot2_54 un bo cu lo wh tx now rd2_54 bf bl us lg bd dp) H := hP
    have hD : va_D A (mW cs ad len spot2_54 un bo cu lo wh tx now rd2_54 bf bl us lg bd dp) := hD
    rcases hf54_0 with ⟨rfl, hb54⟩ | ⟨rfl, hb54⟩
    · subst hQ
      exact W.zret (ty := .boolean) hx hb hr (by decide) (fun t9 ht9 hW9 => ⟨⟨_, _, rfl, rfl, ⟨rd2_54, spot2_54, Or.inl ⟨rfl, Or.inl ⟨hc113, hb54⟩⟩, fun _ => by have hz := hf54_1 hb54; rw [stItem, cF_neg (by omega), cF_neg (by omega), nxItem, cif_neg (by omega), cif_neg (by omega), kdItem, cif_pos hc113]; exact hz, by rw [ht9]; exact hP, by rw [hAe]; exact hD⟩⟩, by rw [hAe]; exact hS.F ht9⟩) (by rw [hAe]; exact hS.2.2) dX7_item_57
    · subst hQ
      exact W.zret (ty := .boolean) hx hb hr (by decide) (fun t9 ht9 hW9 => ⟨⟨_, _, rfl, rfl, ⟨rd2_54, spot2_54, Or.inr ⟨rfl, fun q => by rcases q with q | q | q | q | q; all_goals first | exact hb54 q.2 | omega⟩, fun q => absurd q (fun q => by rcases q with q | q | q | q | q; all_goals first | exact hb54 q.2 | omega), by rw [ht9]; exact hP, by rw [hAe]; exact hD⟩⟩, by rw [hAe]; exact hS.F ht9⟩) (by rw [hAe]; exact hS.2.2) dX7_item_57
  by_cases hc114 : ch = 114
  · refine rv_top (y := 114) hc114 ?_
    refine lv_lookup (tgt := 58) hx hb dX7_item_1 (by decide) rfl (by decide) ?_
    refine lv_aload_n hx hb dX7_item_58 rfl (lv_at hl 0 rfl) ?_
    refine rv_iconst hx hb dX7_item_59 ?_
    have hFc := va_free (wc := (mW cs ad len spot un bo cu lo wh tx now rd bf bl us lg bd dp)) hD hS hA [0, 1, 2, 3, 4, 5, 6, 7, 8, 9] rfl
    refine va_calli (va_runV (As := [.int (iI 1)]) (rest := []) ⟨hx, hb, hml, hown, hts⟩ (c_X7_panelItem l D cs ad H.size len spot un bo cu lo wh tx now rd bf bl us lg bd dp 1 hlen htx (by omega) (by omega) (by omega)) (cwV 1 hts (gV tb_685 tb_687 tbs_17 tb_8 tb_688) rfl rfl rfl (by decide +kernel) ⟨Nat.le_of_ble_eq_true rfl, Nat.le_of_ble_eq_true rfl⟩) (preV_M (X := fun _ _ => True) Stb_T hK (va_recv hK hP (ci := 6) (q0 := 0) rfl rfl) hP hD trivial) rfl rfl hl.1 rfl (lv_room (Nat.le_of_ble_eq_true rfl)) dX7_item_60 ⟨Nat.le_of_ble_eq_true rfl, Nat.le_of_ble_eq_true rfl⟩) hS (fun q _ h => hFc q h) hFc (fun r9 u9 t9 H9 locs ht9 hvm9 hw9 hB9 hz9 hk9 hS => ?_)
    obtain rfl := hw9
    obtain ⟨rd2_60, spot2_60, hf60_0, hf60_1, hP1, hD1⟩ := hB9
    rw [ht9] at hP1
    have hP := hP1
    have hD := hD1.weaken (fun _ _ _ h => hFc _ h)
    generalize H9 = H at hP hS hz9 hk9 ht9 ⊢
    have hP : va_P D classes (mW cs ad len spot2_60 un bo cu lo wh tx now rd2_60 bf bl us lg bd dp) H := hP
    have hD : va_D A (mW cs ad len spot2_60 un bo cu lo wh tx now rd2_60 bf bl us lg bd dp) := hD
    rcases hf60_0 with ⟨rfl, hb60⟩ | ⟨rfl, hb60⟩
    · subst hQ
      exact W.zret (ty := .boolean) hx hb hr (by decide) (fun t9 ht9 hW9 => ⟨⟨_, _, rfl, rfl, ⟨rd2_60, spot2_60, Or.inl ⟨rfl, Or.inr (Or.inl ⟨hc114, hb60⟩)⟩, fun _ => by have hz := hf60_1 hb60; rw [stItem, cF_neg (by omega), cF_neg (by omega), nxItem, cif_neg (by omega), cif_neg (by omega), kdItem, cif_neg (by omega), cif_pos hc114]; exact hz, by rw [ht9]; exact hP, by rw [hAe]; exact hD⟩⟩, by rw [hAe]; exact hS.F ht9⟩) (by rw [hAe]; exact hS.2.2) dX7_item_63
    · subst hQ
      exact W.zret (ty := .boolean) hx hb hr (by decide) (fun t9 ht9 hW9 => ⟨⟨_, _, rfl, rfl, ⟨rd2_60, spot2_60, Or.inr ⟨rfl, fun q => by rcases q with q | q | q | q | q; all_goals first | exact hb60 q.2 | omega⟩, fun q => absurd q (fun q => by rcases q with q | q | q | q | q; all_goals first | exact hb60 q.2 | omega), by rw [ht9]; exact hP, by rw [hAe]; exact hD⟩⟩, by rw [hAe]; exact hS.F ht9⟩) (by rw [hAe]; exact hS.2.2) dX7_item_63
  by_cases hc117 : ch = 117
  · refine rv_top (y := 117) hc117 ?_
    refine lv_lookup (tgt := 70) hx hb dX7_item_1 (by decide) rfl (by decide) ?_
    refine lv_aload_n hx hb dX7_item_70 rfl (lv_at hl 0 rfl) ?_
    refine rv_bipush hx hb dX7_item_71 (by decide) ?_
    refine rv_iconst hx hb dX7_item_73 ?_
    refine rv_bipush hx hb dX7_item_74 (by decide) ?_
    refine rv_bipush hx hb dX7_item_76 (by decide) ?_
    have hFc := va_free (wc := (mW cs ad len spot un bo cu lo wh tx now rd bf bl us lg bd dp)) hD hS hA [0, 1, 2, 3, 4, 5, 6, 7, 8, 9] rfl
    refine va_calli (va_runV (As := [.int (iI 21), .int (iI 1), .int (iI 20), .int (iI 59)]) (rest := []) ⟨hx, hb, hml, hown, hts⟩ (c_X7_number l D cs ad H.size len spot un bo cu lo wh tx now rd bf bl us lg bd dp 21 1 20 59 hlen htx (by omega) (by omega) (by omega) (by omega) (by omega)) (cwV 4 hts (gV tb_689 tb_691 tbs_18 tb_8 tb_692) rfl rfl rfl (by decide +kernel) ⟨Nat.le_of_ble_eq_true rfl, Nat.le_of_ble_eq_true rfl⟩) (preV_M (X := fun _ _ => True) Stb_T hK (va_recv hK hP (ci := 6) (q0 := 0) rfl rfl) hP hD trivial) rfl rfl hl.1 rfl (lv_room (Nat.le_of_ble_eq_true rfl)) dX7_item_78 ⟨Nat.le_of_ble_eq_true rfl, Nat.le_of_ble_eq_true rfl⟩) hS (fun q _ h => hFc q h) hFc (fun r9 u9 t9 H9 locs ht9 hvm9 hw9 hB9 hz9 hk9 hS => ?_)
    obtain rfl := hw9
    obtain ⟨hf78_0, hP1, hD1⟩ := hB9
    rw [ht9] at hP1
    have hP := hP1
    have hD := hD1.weaken (fun _ _ _ h => hFc _ h)
    generalize H9 = H at hP hS hz9 hk9 ht9 ⊢
    have hP : va_P D classes (mW cs ad len (nx tx len spot) un bo cu lo wh tx now (upI rd (21 : Int).toNat (nV tx len spot)) bf bl us lg bd dp) H := hP
    have hD : va_D A (mW cs ad len (nx tx len spot) un bo cu lo wh tx now (upI rd (21 : Int).toNat (nV tx len spot)) bf bl us lg bd dp) := hD
    have hnx_78 := nx_gt tx len spot
    have hnv_78 := nV_bd tx len spot
    rcases hf78_0 with ⟨rfl, hb78⟩ | ⟨rfl, hb78⟩
    · subst hQ
      exact W.zret (ty := .boolean) hx hb hr (by decide) (fun t9 ht9 hW9 => ⟨⟨_, _, rfl, rfl, ⟨(upI rd (21 : Int).toNat (nV tx len spot)), (nx tx len spot), Or.inl ⟨rfl, Or.inr (Or.inr (Or.inr (Or.inl ⟨hc117, ⟨hb78.1, hb78.2.2⟩, hb78.2.1⟩)))⟩, fun _ => ⟨by rw [stItem, cF_pos hc117]; rfl, by rw [nxItem, cif_pos hc117]⟩, by rw [ht9]; exact hP, by rw [hAe]; exact hD⟩⟩, by rw [hAe]; exact hS.F ht9⟩) (by rw [hAe]; exact hS.2.2) dX7_item_81
    · subst hQ
      exact W.zret (ty := .boolean) hx hb hr (by decide) (fun t9 ht9 hW9 => ⟨⟨_, _, rfl, rfl, ⟨(upI rd (21 : Int).toNat (nV tx len spot)), (nx tx len spot), Or.inr ⟨rfl, fun q => by rcases q with q | q | q | q | q; omega; omega; omega; exact hb78 ⟨q.2.1.1, q.2.2, q.2.1.2⟩; omega⟩, fun q => absurd q (fun q => by rcases q with q | q | q | q | q; omega; omega; omega; exact hb78 ⟨q.2.1.1, q.2.2, q.2.1.2⟩; omega), by rw [ht9]; exact hP, by rw [hAe]; exact hD⟩⟩, by rw [hAe]; exact hS.F ht9⟩) (by rw [hAe]; exact hS.2.2) dX7_item_81
  refine lv_lookup (tgt := 117) (off := 116) hx hb dX7_item_1 (by decide) (by rw [iI_toInt (by omega)]; show Op.lookupswitch.offset [(98, 81), (108, 63), (113, 51), (114, 57), (117, 69)] 116 _ = 116; rw [Op.lookupswitch.offset_cons, if_neg (by omega), Op.lookupswitch.offset_cons, if_neg (by omega), Op.lookupswitch.offset_cons, if_neg (by omega), Op.lookupswitch.offset_cons, if_neg (by omega), Op.lookupswitch.offset_cons, if_neg (by omega)]; rfl) (by decide) ?_
  refine rv_iconst hx hb dX7_item_117 ?_
  subst hQ
  exact W.zret (ty := .boolean) hx hb hr (by decide) (fun t9 ht9 hW9 => ⟨⟨_, _, rfl, rfl, ⟨rd, spot, Or.inr ⟨rfl, fun q => by rcases q with q | q | q | q | q <;> omega⟩, fun q => absurd q (fun q => by rcases q with q | q | q | q | q <;> omega), by rw [ht9]; exact hP, by rw [hAe]; exact hD⟩⟩, by rw [hAe]; exact hS.F ht9⟩) (by rw [hAe]; exact hS.2.2) dX7_item_118

abbrev rm_X7_fault : Room := { frames := 5, cells := 0, slots := 0, locals := 114 }
set_option maxHeartbeats 8000000 in
set_option maxRecDepth 100000 in
/-- fault -/
theorem c_X7_fault (l : Launch) (D : va_G) (cs : Nat → ClassId) (ad : Nat → Nat) (sz : Nat) (len : Int) (spot : Int) (un : Int) (bo : Int) (cu : Int) (lo : Int) (wh : Int) (tx : Nat → Int) (now : Nat → Int) (rd : Nat → Int) (bf : Nat → Int) (bl : Nat → Int) (us : Nat → Int) (lg : Nat → Int) (bd : Nat → Int) (dp : Nat → Int) (hlen : 0 ≤ len ∧ len ≤ 200) (htx : okTx tx len) : Met l yX7_fault (Cond.code yX7_fault cX7_fault 2 (some .int) :: TB) rm_X7_fault (va_Pc [.ref (ad 0)] (MPre D cs sz (mW cs ad len spot un bo cu lo wh tx now rd bf bl us lg bd dp) (fun _ _ => True))) (va_Qi (fun (r u : Int32) => r = u) (fun r t => ∃ (rd2 : Nat → Int) (spot2 : Int), (r = iI (flt tx len 201 0 0)) ∧ (flt tx len 201 0 0 = -4 → agr rd2 (lst tx len 201 0 rd0)) ∧ (-4 ≤ flt tx len 201 0 0 ∧ flt tx len 201 0 0 < 1000) ∧ va_P D classes (mW cs ad len spot2 un bo cu lo wh tx now rd2 bf bl us lg bd dp) t.heap ∧ va_D (va_A (mW cs ad len spot un bo cu lo wh tx now rd bf bl us lg bd dp) sz) (mW cs ad len spot2 un bo cu lo wh tx now rd2 bf bl us lg bd dp)) (va_A (mW cs ad len spot un bo cu lo wh tx now rd bf bl us lg bd dp) sz)) 0 0 (va_A (mW cs ad len spot un bo cu lo wh tx now rd bf bl us lg bd dp) sz) := by
  refine enter (cc := cX7_fault) (maxL := 2) (ret := (some .int)) (by decide) (Nat.le_of_ble_eq_true rfl) ?_
  intro pg ev s m below meth c Q ls hx hb hml hown hts hr hlocks hnm ⟨hsz, hP, hD0, hK, hX0⟩ hl hQ
  have ht : ∀ w ∈ TB, w.before _ s = true := fun w h => hts w (List.mem_cons_of_mem _ h)
  subst hsz
  have hD := hD0.self (sz := s.heap.size)
  obtain ⟨A, hAe⟩ : ∃ A, va_A (mW cs ad len spot un bo cu lo wh tx now rd bf bl us lg bd dp) s.heap.size = A := ⟨_, rfl⟩
  rw [hAe] at hD
  have hA : ∀ q : Nat, s.heap.size ≤ q → A q := fun q h => by rw [← hAe]; exact Or.inr h
  obtain ⟨H, hH⟩ : ∃ H, H = s.heap := ⟨_, rfl⟩
  obtain ⟨locs, hlocs⟩ : ∃ locs : List Loc, locs = [] := ⟨_, rfl⟩
  have hS : va_S A s.heap H locs := by rw [hH, hlocs]; exact va_S.rf
  rw [← hH] at hP
  suffices hgo : W pg l ev rm_X7_fault s m [.ref (ad 0)].toArray below meth c H locs 0 0 Q (F0 m 0 ls []) by rw [hH, hlocs] at hgo; exact hgo
  have hl : lv_has ls 2 [(0, .ref (ad 0))] := hl
  refine rv_iconst hx hb dX7_fault_0 ?_
  refine lv_istore_n (lv' := [(1, .int (iI 0)), (0, .ref (ad 0))]) hx hb dX7_fault_1 rfl hl (by decide) rfl (fun ls hl => ?_)
  have loop2 : ∀ (fuel2 : Nat) (i : Nat) (B : Nat → Int), (i ≤ 24) → (∀ k : Nat, k < i → B k = 0) → 24 - i < fuel2 → ∀ (x1 : Int), x1 = (i : Int) → ∀ (H : Heap) (locs : List Loc), va_P D classes (mW cs ad len spot un bo cu lo wh tx now B bf bl us lg bd dp) H → va_D A (mW cs ad len spot un bo cu lo wh tx now B bf bl us lg bd dp) → va_S A s.heap H locs → ∀ ls : Array Slot, lv_has ls 2 [(0, .ref (ad 0)), (1, .int (iI x1))] → W pg l ev rm_X7_fault s m [.ref (ad 0)].toArray below meth c H locs 0 0 Q (F0 m 2 ls []) := by
    intro fuel2
    induction fuel2 with
    | zero => intro i B hi hq hfuel2; exact absurd hfuel2 (Nat.not_lt_zero _)
    | succ fuel2 ih2 =>
      intro i B hi hq hfuel2 x1 ex1 H locs hP hD hS ls hl
      subst ex1
      refine lv_iload_n hx hb dX7_fault_2 rfl (lv_at hl 1 rfl) ?_
      refine rv_bipush hx hb dX7_fault_3 (by decide) ?_
      refine rv_icmp_ge (tgt := 21) hx hb dX7_fault_5 (by decide) (by omega) (fun h5 => ?_) (fun h5 => ?_)
      · refine lv_aload_n hx hb dX7_fault_21 rfl (lv_at hl 0 rfl) ?_
        refine va_get (D := D) (ci := 6) (v := .ref (ad 3)) (C := RX7) (T := TX7) (N := 16) hx hb ht inTB_X7 hown hK hP 0 rfl rfl 4 (by decide) (ht _ tb_592) (fun _ h9 => h9) rfl dX7_fault_22 ?_
        refine rv_bipush hx hb dX7_fault_25 (by decide) ?_
        refine rv_iconst hx hb dX7_fault_27 ?_
        refine rv_iast hx hb hK hP hD hS 3 0 rfl rfl 21 rfl (by omega) dX7_fault_28 (fun H locs hP hD hS => ?_)
        have hP : va_P D classes (mW cs ad len spot un bo cu lo wh tx now (upI B 21 3) bf bl us lg bd dp) H := hP
        have hD : va_D A (mW cs ad len spot un bo cu lo wh tx now (upI B 21 3) bf bl us lg bd dp) := hD
        refine lv_aload_n hx hb dX7_fault_29 rfl (lv_at hl 0 rfl) ?_
        refine va_get (D := D) (ci := 6) (v := .ref (ad 3)) (C := RX7) (T := TX7) (N := 16) hx hb ht inTB_X7 hown hK hP 0 rfl rfl 4 (by decide) (ht _ tb_592) (fun _ h9 => h9) rfl dX7_fault_30 ?_
        refine rv_bipush hx hb dX7_fault_33 (by decide) ?_
        refine rv_bipush hx hb dX7_fault_35 (by decide) ?_
        refine rv_iast hx hb hK hP hD hS 3 0 rfl rfl 22 rfl (by omega) dX7_fault_37 (fun H locs hP hD hS => ?_)
        have hP : va_P D classes (mW cs ad len spot un bo cu lo wh tx now (upI (upI B 21 3) 22 100) bf bl us lg bd dp) H := hP
        have hD : va_D A (mW cs ad len spot un bo cu lo wh tx now (upI (upI B 21 3) 22 100) bf bl us lg bd dp) := hD
        refine lv_aload_n hx hb dX7_fault_38 rfl (lv_at hl 0 rfl) ?_
        refine va_get (D := D) (ci := 6) (v := .ref (ad 3)) (C := RX7) (T := TX7) (N := 16) hx hb ht inTB_X7 hown hK hP 0 rfl rfl 4 (by decide) (ht _ tb_592) (fun _ h9 => h9) rfl dX7_fault_39 ?_
        refine rv_bipush hx hb dX7_fault_42 (by decide) ?_
        refine rv_iconst hx hb dX7_fault_44 ?_
        refine rv_iast hx hb hK hP hD hS 3 0 rfl rfl 23 rfl (by omega) dX7_fault_45 (fun H locs hP hD hS => ?_)
        have hP : va_P D classes (mW cs ad len spot un bo cu lo wh tx now (upI (upI (upI B 21 3) 22 100) 23 1) bf bl us lg bd dp) H := hP
        have hD : va_D A (mW cs ad len spot un bo cu lo wh tx now (upI (upI (upI B 21 3) 22 100) 23 1) bf bl us lg bd dp) := hD
        refine lv_aload_n hx hb dX7_fault_46 rfl (lv_at hl 0 rfl) ?_
        refine rv_iconst hx hb dX7_fault_47 ?_
        refine va_put (D := D) (ci := 6) (v := .int (iI 0)) (ty := tyX7 2) (C := RX7) (T := TX7) (N := 16) hx hb ht inTB_X7 tyX7 tyX7_ok nmX7 hown hK hP hD hS 0 rfl rfl 2 (by decide) (ht _ tb_590) (fun _ h9 => h9) rfl (tyX7_ok 2 (by decide)) rfl rfl (Nat.le_of_ble_eq_true rfl) dX7_fault_48 (fun H locs hP hD hS => ?_)
        have hP : va_P D classes (mW cs ad len 0 un bo cu lo wh tx now (upI (upI (upI B 21 3) 22 100) 23 1) bf bl us lg bd dp) H := hP
        have hD : va_D A (mW cs ad len 0 un bo cu lo wh tx now (upI (upI (upI B 21 3) 22 100) 23 1) bf bl us lg bd dp) := hD
        have hag : agr (upI (upI (upI B 21 3) 22 100) 23 1) rd0 := agr_up (agr_up (agr_up (fun j hj => hq j (by omega)) _ _) _ _) _ _
        have loop51 : ∀ (fuel51 : Nat) (k : Nat) (sp : Int) (R0 : Nat → Int), (0 ≤ sp ∧ sp ≤ 230) → (len - sp ≤ (k : Int)) → (0 ≤ R0 20 ∧ R0 20 ≤ 4) → (flt tx len k sp (R0 20) = flt tx len 201 0 0) → (agr (lst tx len k sp R0) (lst tx len 201 0 rd0)) → (300 - sp).toNat < fuel51 → ∀ (H : Heap) (locs : List Loc), va_P D classes (mW cs ad len sp un bo cu lo wh tx now R0 bf bl us lg bd dp) H → va_D A (mW cs ad len sp un bo cu lo wh tx now R0 bf bl us lg bd dp) → va_S A s.heap H locs → ∀ ls : Array Slot, lv_has ls 2 [(0, .ref (ad 0))] → W pg l ev rm_X7_fault s m [.ref (ad 0)].toArray below meth c H locs 0 0 Q (F0 m 51 ls []) := by
          intro fuel51
          induction fuel51 with
          | zero => intro k sp R0 hs hk h20 hfl hls hfuel51; exact absurd hfuel51 (Nat.not_lt_zero _)
          | succ fuel51 ih51 =>
            intro k sp R0 hs hk h20 hfl hls hfuel51 H locs hP hD hS ls hl
            have hbe : sp < len → bt tx len sp = tx sp.toNat := fun z => by rw [bt, cif_pos z]
            have hni := nxItem_gt tx len (bt tx len sp) (sp + 1)
            have hbb := bt_bd (i := sp) htx (by omega)
            refine lv_aload_n hx hb dX7_fault_51 rfl (lv_at hl 0 rfl) ?_
            refine va_get (D := D) (ci := 6) (v := .int (iI sp)) (C := RX7) (T := TX7) (N := 16) hx hb ht inTB_X7 hown hK hP 0 rfl rfl 2 (by decide) (ht _ tb_590) (fun _ h9 => h9) rfl dX7_fault_52 ?_
            refine lv_aload_n hx hb dX7_fault_55 rfl (lv_at hl 0 rfl) ?_
            refine va_get (D := D) (ci := 6) (v := .int (iI len)) (C := RX7) (T := TX7) (N := 16) hx hb ht inTB_X7 hown hK hP 0 rfl rfl 0 (by decide) (ht _ tb_588) (fun _ h9 => h9) rfl dX7_fault_56 ?_
            refine rv_icmp_ge (tgt := 95) hx hb dX7_fault_59 (by decide) (by omega) (fun h59 => ?_) (fun h59 => ?_)
            · refine rv_bipush hx hb dX7_fault_95 (by decide) ?_
              subst hQ
              exact W.iret hx hb hr (fun t9 ht9 hW9 => ⟨⟨_, _, rfl, rfl, ⟨R0, sp, by rw [← hfl]; cases k with | zero => rfl | succ k => rw [flt, cif_neg (by omega)], fun _ => by cases k with | zero => exact hls | succ k => rw [lst, cF_neg (by omega)] at hls; exact hls, by rw [← hfl]; cases k with | zero => exact (show (-4 : Int) ≤ -4 ∧ (-4 : Int) < 1000 by decide) | succ k => rw [flt, cif_neg (by omega)]; decide, by rw [ht9]; exact hP, by rw [hAe]; exact hD⟩⟩, by rw [hAe]; exact hS.F ht9⟩) (by rw [hAe]; exact hS.2.2) dX7_fault_97
            · refine lv_aload_n hx hb dX7_fault_62 rfl (lv_at hl 0 rfl) ?_
              refine va_get (D := D) (ci := 6) (v := .int (iI sp)) (C := RX7) (T := TX7) (N := 16) hx hb ht inTB_X7 hown hK hP 0 rfl rfl 2 (by decide) (ht _ tb_590) (fun _ h9 => h9) rfl dX7_fault_63 ?_
              refine lv_istore_n (lv' := [(1, .int (iI sp)), (0, .ref (ad 0))]) hx hb dX7_fault_66 rfl hl (by decide) rfl (fun ls hl => ?_)
              refine lv_aload_n hx hb dX7_fault_67 rfl (lv_at hl 1 rfl) ?_
              refine lv_dup hx hb dX7_fault_68 rfl ?_
              refine va_get (D := D) (ci := 6) (v := .int (iI sp)) (C := RX7) (T := TX7) (N := 16) hx hb ht inTB_X7 hown hK hP 0 rfl rfl 2 (by decide) (ht _ tb_590) (fun _ h9 => h9) rfl dX7_fault_69 ?_
              refine rv_iconst hx hb dX7_fault_72 ?_
              refine rv_iadd hx hb dX7_fault_73 ?_
              refine va_put (D := D) (ci := 6) (v := .int (iI (sp + 1))) (ty := tyX7 2) (C := RX7) (T := TX7) (N := 16) hx hb ht inTB_X7 tyX7 tyX7_ok nmX7 hown hK hP hD hS 0 rfl rfl 2 (by decide) (ht _ tb_590) (fun _ h9 => h9) rfl (tyX7_ok 2 (by decide)) rfl rfl (Nat.le_of_ble_eq_true rfl) dX7_fault_74 (fun H locs hP hD hS => ?_)
              have hP : va_P D classes (mW cs ad len (sp + 1) un bo cu lo wh tx now R0 bf bl us lg bd dp) H := hP
              have hD : va_D A (mW cs ad len (sp + 1) un bo cu lo wh tx now R0 bf bl us lg bd dp) := hD
              have htb := htx sp.toNat (by omega)
              refine lv_aload_n hx hb dX7_fault_77 rfl (lv_at hl 1 rfl) ?_
              refine lv_aload_n hx hb dX7_fault_78 rfl (lv_at hl 1 rfl) ?_
              refine va_get (D := D) (ci := 6) (v := .ref (ad 1)) (C := RX7) (T := TX7) (N := 16) hx hb ht inTB_X7 hown hK hP 0 rfl rfl 1 (by decide) (ht _ tb_589) (fun _ h9 => h9) rfl dX7_fault_79 ?_
              refine lv_iload_n hx hb dX7_fault_82 rfl (lv_at hl 0 rfl) ?_
              refine rv_iald hx hb hK hP 1 0 rfl rfl sp.toNat (by omega) (by omega) dX7_fault_83 ?_
              have hFc := va_free (wc := (mW cs ad len (sp + 1) un bo cu lo wh tx now R0 bf bl us lg bd dp)) hD hS hA [0, 1, 2, 3, 4, 5, 6, 7, 8, 9] rfl
              refine va_calli (va_runV (As := [.int (iI (tx sp.toNat))]) (rest := []) ⟨hx, hb, hml, hown, hts⟩ (c_X7_item l D cs ad H.size len (sp + 1) un bo cu lo wh tx now R0 bf bl us lg bd dp (tx sp.toNat) hlen htx (by omega) (by omega) h20) (cwV 1 hts (gV tb_681 tb_683 tbs_16 tb_8 tb_684) rfl rfl rfl (by decide +kernel) ⟨Nat.le_of_ble_eq_true rfl, Nat.le_of_ble_eq_true rfl⟩) (preV_M (X := fun _ _ => True) Stb_T hK (va_recv hK hP (ci := 6) (q0 := 0) rfl rfl) hP hD trivial) rfl rfl hl.1 rfl (lv_room (Nat.le_of_ble_eq_true rfl)) dX7_fault_84 ⟨Nat.le_of_ble_eq_true rfl, Nat.le_of_ble_eq_true rfl⟩) hS (fun q _ h => hFc q h) hFc (fun r9 u9 t9 H9 locs ht9 hvm9 hw9 hB9 hz9 hk9 hS => ?_)
              obtain rfl := hw9
              obtain ⟨rd2_84, spot2_84, hf84_0, hf84_1, hP1, hD1⟩ := hB9
              rw [ht9] at hP1
              have hP := hP1
              have hD := hD1.weaken (fun _ _ _ h => hFc _ h)
              generalize H9 = H at hP hS hz9 hk9 ht9 ⊢
              have hP : va_P D classes (mW cs ad len spot2_84 un bo cu lo wh tx now rd2_84 bf bl us lg bd dp) H := hP
              have hD : va_D A (mW cs ad len spot2_84 un bo cu lo wh tx now rd2_84 bf bl us lg bd dp) := hD
              rcases hf84_0 with ⟨rfl, hb84⟩ | ⟨rfl, hb84⟩
              · refine rv_if_ne (tgt := 92) hx hb dX7_fault_87 (by decide) (by decide) (fun _ => ?_) (fun q => absurd q (by decide))
                refine lv_goto (tgt := 51) hx hb dX7_fault_92 (by decide) ?_
                rw [← hbe (by omega)] at hb84 hf84_1
                obtain ⟨z1, z2⟩ := hf84_1 hb84
                rw [show k = (k - 1) + 1 by omega, flt, cif_pos (by omega), cif_pos hb84] at hfl
                rw [show k = (k - 1) + 1 by omega, lst, cF_pos (by omega)] at hls
                exact ih51 (k - 1) spot2_84 rd2_84 (by rw [z2]; omega) (by rw [z2]; omega) (by rw [z1, st_20 h20 hb84]; unfold okItem at hb84; by_cases y : bt tx len sp = 117 ∨ bt tx len sp = 98; rw [cnItem, cif_pos y]; omega; rw [cnItem, cif_neg y]; omega) (by rw [z1, z2, st_20 h20 hb84]; exact hfl) (by rw [z1, z2]; exact hls) (by rw [z2]; omega) H locs hP hD hS ls (lv_sub hl [1] rfl)
              · refine rv_if_ne (tgt := 92) hx hb dX7_fault_87 (by decide) (by decide) (fun q => absurd q (by decide)) (fun _ => ?_)
                refine lv_iload_n hx hb dX7_fault_90 rfl (lv_at hl 0 rfl) ?_
                subst hQ
                exact W.iret hx hb hr (fun t9 ht9 hW9 => ⟨⟨_, _, rfl, rfl, ⟨rd2_84, spot2_84, by rw [← hbe (by omega)] at hb84; rw [← hfl, show k = (k - 1) + 1 by omega, flt, cif_pos (by omega), cif_neg hb84], fun q => by rw [← hbe (by omega)] at hb84; rw [← hfl, show k = (k - 1) + 1 by omega, flt, cif_pos (by omega), cif_neg hb84] at q; omega, by rw [← hbe (by omega)] at hb84; rw [← hfl, show k = (k - 1) + 1 by omega, flt, cif_pos (by omega), cif_neg hb84]; omega, by rw [ht9]; exact hP, by rw [hAe]; exact hD⟩⟩, by rw [hAe]; exact hS.F ht9⟩) (by rw [hAe]; exact hS.2.2) dX7_fault_91
        exact loop51 (_ + 1) 201 0 (upI (upI (upI B 21 3) 22 100) 23 1) (by omega) (by omega) (by rw [hag 20 (by decide)]; decide) (by rw [hag 20 (by decide)]; rfl) (agr_lst 201 hag 0) (Nat.lt_succ_self _) H locs hP hD hS ls (lv_sub hl [0] rfl)
      · refine lv_aload_n hx hb dX7_fault_8 rfl (lv_at hl 0 rfl) ?_
        refine va_get (D := D) (ci := 6) (v := .ref (ad 3)) (C := RX7) (T := TX7) (N := 16) hx hb ht inTB_X7 hown hK hP 0 rfl rfl 4 (by decide) (ht _ tb_592) (fun _ h9 => h9) rfl dX7_fault_9 ?_
        refine lv_iload_n hx hb dX7_fault_12 rfl (lv_at hl 1 rfl) ?_
        refine rv_iconst hx hb dX7_fault_13 ?_
        refine rv_iast hx hb hK hP hD hS 3 0 rfl rfl i rfl (by omega) dX7_fault_14 (fun H locs hP hD hS => ?_)
        have hP : va_P D classes (mW cs ad len spot un bo cu lo wh tx now (upI B i 0) bf bl us lg bd dp) H := hP
        have hD : va_D A (mW cs ad len spot un bo cu lo wh tx now (upI B i 0) bf bl us lg bd dp) := hD
        refine rv_iinc (k := 1) (lv' := [(1, .int (iI ((i : Int) + 1))), (0, .ref (ad 0))]) hx hb dX7_fault_15 hl rfl (by decide) rfl (fun ls hl => ?_)
        refine lv_goto (tgt := 2) hx hb dX7_fault_18 (by decide) ?_
        exact ih2 (i + 1) (upI B i 0) (by omega) (fun k h => by by_cases z : k = i; rw [z, upI_s]; rw [upI_n z]; exact hq k (by omega)) (by omega) _ (by omega) H locs hP hD hS ls (lv_sub hl [1, 0] rfl)
  exact loop2 (_ + 1) 0 rd (by omega) (fun k h => absurd h (Nat.not_lt_zero _)) (Nat.lt_succ_self _) _ rfl H locs hP hD hS ls (lv_sub hl [1, 0] rfl)

abbrev rm_X7_lay : Room := { frames := 6, cells := 0, slots := 0, locals := 135 }
set_option maxHeartbeats 8000000 in
set_option maxRecDepth 100000 in
/-- lay -/
theorem c_X7_lay (l : Launch) (D : va_G) (cs : Nat → ClassId) (ad : Nat → Nat) (sz : Nat) (len : Int) (spot : Int) (un : Int) (bo : Int) (cu : Int) (lo : Int) (wh : Int) (tx : Nat → Int) (now : Nat → Int) (rd : Nat → Int) (bf : Nat → Int) (bl : Nat → Int) (us : Nat → Int) (lg : Nat → Int) (bd : Nat → Int) (dp : Nat → Int) (hlen : 0 ≤ len ∧ len ≤ 200) (htx : okTx tx len) : Met l yX7_lay (Cond.code yX7_lay cX7_lay 2 (some .int) :: TB) rm_X7_lay (va_Pc [.ref (ad 0)] (MPre D cs sz (mW cs ad len spot un bo cu lo wh tx now rd bf bl us lg bd dp) (fun _ _ => True))) (va_Qi (fun (r u : Int32) => r = u) (fun r t => ∃ (rd2 : Nat → Int) (spot2 : Int) (now2 : Nat → Int) (un2 : Int), (r = iI (cif (flt tx len 201 0 0 = -4) (lst tx len 201 0 rd0 20) (-2))) ∧ ((flt tx len 201 0 0 = -4 → agr now2 (lst tx len 201 0 rd0) ∧ un2 = 0) ∧ (¬ flt tx len 201 0 0 = -4 → now2 = now ∧ un2 = un)) ∧ va_P D classes (mW cs ad len spot2 un2 bo cu lo wh tx now2 rd2 bf bl us lg bd dp) t.heap ∧ va_D (va_A (mW cs ad len spot un bo cu lo wh tx now rd bf bl us lg bd dp) sz) (mW cs ad len spot2 un2 bo cu lo wh tx now2 rd2 bf bl us lg bd dp)) (va_A (mW cs ad len spot un bo cu lo wh tx now rd bf bl us lg bd dp) sz)) 0 0 (va_A (mW cs ad len spot un bo cu lo wh tx now rd bf bl us lg bd dp) sz) := by
  refine enter (cc := cX7_lay) (maxL := 2) (ret := (some .int)) (by decide) (Nat.le_of_ble_eq_true rfl) ?_
  intro pg ev s m below meth c Q ls hx hb hml hown hts hr hlocks hnm ⟨hsz, hP, hD0, hK, hX0⟩ hl hQ
  have ht : ∀ w ∈ TB, w.before _ s = true := fun w h => hts w (List.mem_cons_of_mem _ h)
  subst hsz
  have hD := hD0.self (sz := s.heap.size)
  obtain ⟨A, hAe⟩ : ∃ A, va_A (mW cs ad len spot un bo cu lo wh tx now rd bf bl us lg bd dp) s.heap.size = A := ⟨_, rfl⟩
  rw [hAe] at hD
  have hA : ∀ q : Nat, s.heap.size ≤ q → A q := fun q h => by rw [← hAe]; exact Or.inr h
  obtain ⟨H, hH⟩ : ∃ H, H = s.heap := ⟨_, rfl⟩
  obtain ⟨locs, hlocs⟩ : ∃ locs : List Loc, locs = [] := ⟨_, rfl⟩
  have hS : va_S A s.heap H locs := by rw [hH, hlocs]; exact va_S.rf
  rw [← hH] at hP
  suffices hgo : W pg l ev rm_X7_lay s m [.ref (ad 0)].toArray below meth c H locs 0 0 Q (F0 m 0 ls []) by rw [hH, hlocs] at hgo; exact hgo
  have hl : lv_has ls 2 [(0, .ref (ad 0))] := hl
  refine lv_aload_n hx hb dX7_lay_0 rfl (lv_at hl 0 rfl) ?_
  have hFc := va_free (wc := (mW cs ad len spot un bo cu lo wh tx now rd bf bl us lg bd dp)) hD hS hA [0, 1, 2, 3, 4, 5, 6, 7, 8, 9] rfl
  refine va_calli (va_runV (As := []) (rest := []) ⟨hx, hb, hml, hown, hts⟩ (c_X7_fault l D cs ad H.size len spot un bo cu lo wh tx now rd bf bl us lg bd dp hlen htx) (cwV 0 hts (gV tb_707 tb_678 tb_679 tb_8 tb_680) rfl rfl rfl (by decide +kernel) ⟨Nat.le_of_ble_eq_true rfl, Nat.le_of_ble_eq_true rfl⟩) (preV_M (X := fun _ _ => True) Stb_T hK (va_recv hK hP (ci := 6) (q0 := 0) rfl rfl) hP hD trivial) rfl rfl hl.1 rfl (lv_room (Nat.le_of_ble_eq_true rfl)) dX7_lay_1 ⟨Nat.le_of_ble_eq_true rfl, Nat.le_of_ble_eq_true rfl⟩) hS (fun q _ h => hFc q h) hFc (fun r9 u9 t9 H9 locs ht9 hvm9 hw9 hB9 hz9 hk9 hS => ?_)
  obtain rfl := hw9
  obtain ⟨rd2_1, spot2_1, hf1_0, hf1_1, hf1_2, hP1, hD1⟩ := hB9
  rw [ht9] at hP1
  have hP := hP1
  have hD := hD1.weaken (fun _ _ _ h => hFc _ h)
  generalize H9 = H at hP hS hz9 hk9 ht9 ⊢
  have hP : va_P D classes (mW cs ad len spot2_1 un bo cu lo wh tx now rd2_1 bf bl us lg bd dp) H := hP
  have hD : va_D A (mW cs ad len spot2_1 un bo cu lo wh tx now rd2_1 bf bl us lg bd dp) := hD
  subst hf1_0
  refine rv_bipush hx hb dX7_lay_4 (by decide) ?_
  refine rv_icmp_eq (tgt := 12) hx hb dX7_lay_6 (by decide) (by omega) (fun h6 => ?_) (fun h6 => ?_)
  · refine rv_iconst hx hb dX7_lay_12 ?_
    refine lv_istore_n (lv' := [(1, .int (iI 0)), (0, .ref (ad 0))]) hx hb dX7_lay_13 rfl hl (by decide) rfl (fun ls hl => ?_)
    have loop14 : ∀ (fuel14 : Nat) (i : Nat) (B : Nat → Int), (i ≤ 24) → (∀ k : Nat, k < i → B k = rd2_1 k) → 24 - i < fuel14 → ∀ (x1 : Int), x1 = (i : Int) → ∀ (H : Heap) (locs : List Loc), va_P D classes (mW cs ad len spot2_1 un bo cu lo wh tx B rd2_1 bf bl us lg bd dp) H → va_D A (mW cs ad len spot2_1 un bo cu lo wh tx B rd2_1 bf bl us lg bd dp) → va_S A s.heap H locs → ∀ ls : Array Slot, lv_has ls 2 [(0, .ref (ad 0)), (1, .int (iI x1))] → W pg l ev rm_X7_lay s m [.ref (ad 0)].toArray below meth c H locs 0 0 Q (F0 m 14 ls []) := by
      intro fuel14
      induction fuel14 with
      | zero => intro i B hi hq hfuel14; exact absurd hfuel14 (Nat.not_lt_zero _)
      | succ fuel14 ih14 =>
        intro i B hi hq hfuel14 x1 ex1 H locs hP hD hS ls hl
        subst ex1
        refine lv_iload_n hx hb dX7_lay_14 rfl (lv_at hl 1 rfl) ?_
        refine rv_bipush hx hb dX7_lay_15 (by decide) ?_
        refine rv_icmp_ge (tgt := 38) hx hb dX7_lay_17 (by decide) (by omega) (fun h17 => ?_) (fun h17 => ?_)
        · have hag := hf1_1 h6
          have hag2 : agr B (lst tx len 201 0 rd0) := fun j hj => by rw [hq j (by omega)]; exact hag j hj
          refine lv_aload_n hx hb dX7_lay_38 rfl (lv_at hl 0 rfl) ?_
          refine rv_iconst hx hb dX7_lay_39 ?_
          refine va_put (D := D) (ci := 6) (v := .int (iI 0)) (ty := tyX7 6) (C := RX7) (T := TX7) (N := 16) hx hb ht inTB_X7 tyX7 tyX7_ok nmX7 hown hK hP hD hS 0 rfl rfl 6 (by decide) (ht _ tb_594) (fun _ h9 => h9) rfl (tyX7_ok 6 (by decide)) rfl rfl (Nat.le_of_ble_eq_true rfl) dX7_lay_40 (fun H locs hP hD hS => ?_)
          have hP : va_P D classes (mW cs ad len spot2_1 0 bo cu lo wh tx B rd2_1 bf bl us lg bd dp) H := hP
          have hD : va_D A (mW cs ad len spot2_1 0 bo cu lo wh tx B rd2_1 bf bl us lg bd dp) := hD
          refine lv_aload_n hx hb dX7_lay_43 rfl (lv_at hl 0 rfl) ?_
          refine va_get (D := D) (ci := 6) (v := .ref (ad 2)) (C := RX7) (T := TX7) (N := 16) hx hb ht inTB_X7 hown hK hP 0 rfl rfl 3 (by decide) (ht _ tb_591) (fun _ h9 => h9) rfl dX7_lay_44 ?_
          refine rv_bipush hx hb dX7_lay_47 (by decide) ?_
          refine rv_iald hx hb hK hP 2 0 rfl rfl 20 rfl (by omega) dX7_lay_49 ?_
          subst hQ
          exact W.iret hx hb hr (fun t9 ht9 hW9 => ⟨⟨_, _, rfl, rfl, ⟨rd2_1, spot2_1, B, 0, by rw [cif_pos h6, hag2 20 (by decide)], ⟨fun _ => ⟨hag2, rfl⟩, fun q => absurd h6 q⟩, by rw [ht9]; exact hP, by rw [hAe]; exact hD⟩⟩, by rw [hAe]; exact hS.F ht9⟩) (by rw [hAe]; exact hS.2.2) dX7_lay_50
        · refine lv_aload_n hx hb dX7_lay_20 rfl (lv_at hl 0 rfl) ?_
          refine va_get (D := D) (ci := 6) (v := .ref (ad 2)) (C := RX7) (T := TX7) (N := 16) hx hb ht inTB_X7 hown hK hP 0 rfl rfl 3 (by decide) (ht _ tb_591) (fun _ h9 => h9) rfl dX7_lay_21 ?_
          refine lv_iload_n hx hb dX7_lay_24 rfl (lv_at hl 1 rfl) ?_
          refine lv_aload_n hx hb dX7_lay_25 rfl (lv_at hl 0 rfl) ?_
          refine va_get (D := D) (ci := 6) (v := .ref (ad 3)) (C := RX7) (T := TX7) (N := 16) hx hb ht inTB_X7 hown hK hP 0 rfl rfl 4 (by decide) (ht _ tb_592) (fun _ h9 => h9) rfl dX7_lay_26 ?_
          refine lv_iload_n hx hb dX7_lay_29 rfl (lv_at hl 1 rfl) ?_
          refine rv_iald hx hb hK hP 3 0 rfl rfl i rfl (by omega) dX7_lay_30 ?_
          refine rv_iast hx hb hK hP hD hS 2 0 rfl rfl i rfl (by omega) dX7_lay_31 (fun H locs hP hD hS => ?_)
          have hP : va_P D classes (mW cs ad len spot2_1 un bo cu lo wh tx (upI B i (rd2_1 i)) rd2_1 bf bl us lg bd dp) H := hP
          have hD : va_D A (mW cs ad len spot2_1 un bo cu lo wh tx (upI B i (rd2_1 i)) rd2_1 bf bl us lg bd dp) := hD
          refine rv_iinc (k := 1) (lv' := [(1, .int (iI ((i : Int) + 1))), (0, .ref (ad 0))]) hx hb dX7_lay_32 hl rfl (by decide) rfl (fun ls hl => ?_)
          refine lv_goto (tgt := 14) hx hb dX7_lay_35 (by decide) ?_
          exact ih14 (i + 1) (upI B i (rd2_1 i)) (by omega) (fun k h => by by_cases z : k = i; rw [z, upI_s]; rw [upI_n z]; exact hq k (by omega)) (by omega) _ (by omega) H locs hP hD hS ls (lv_sub hl [1, 0] rfl)
    exact loop14 (_ + 1) 0 now (by omega) (fun k h => absurd h (Nat.not_lt_zero _)) (Nat.lt_succ_self _) _ rfl H locs hP hD hS ls (lv_sub hl [1, 0] rfl)
  · refine rv_bipush hx hb dX7_lay_9 (by decide) ?_
    subst hQ
    exact W.iret hx hb hr (fun t9 ht9 hW9 => ⟨⟨_, _, rfl, rfl, ⟨rd2_1, spot2_1, now, un, by rw [cif_neg h6], ⟨fun q => absurd q h6, fun _ => ⟨rfl, rfl⟩⟩, by rw [ht9]; exact hP, by rw [hAe]; exact hD⟩⟩, by rw [hAe]; exact hS.F ht9⟩) (by rw [hAe]; exact hS.2.2) dX7_lay_11

