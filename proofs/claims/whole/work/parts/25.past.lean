/-! Past -/

abbrev rm_X2_forget : Room := { frames := 0, cells := 0, slots := 0, locals := 0 }
set_option maxHeartbeats 8000000 in
set_option maxRecDepth 100000 in
/-- forget -/
theorem c_X2_forget (l : Launch) (D : va_G) (cs : Nat → ClassId) (ad : Nat → Nat) (sz : Nat) (kept : Int) (gq : Nat → Option Nat) : Met l yX2_forget (Cond.code yX2_forget cX2_forget 2 none :: TB) rm_X2_forget (va_Pc [.ref (ad 5)] (MPre D cs sz (pW cs ad kept gq) (fun _ _ => True))) (va_Qv (fun _ : Unit => True) (fun _ t => ∃ (gq2 : Nat → Option Nat), va_P D classes (pW cs ad 0 gq2) t.heap ∧ va_D (va_A (pW cs ad kept gq) sz) (pW cs ad 0 gq2)) (va_A (pW cs ad kept gq) sz)) 0 0 (va_A (pW cs ad kept gq) sz) := by
  refine enter (cc := cX2_forget) (maxL := 2) (ret := none) (by decide) (Nat.le_of_ble_eq_true rfl) ?_
  intro pg ev s m below meth c Q ls hx hb hml hown hts hr hlocks hnm ⟨hsz, hP, hD0, hK, hX0⟩ hl hQ
  have ht : ∀ w ∈ TB, w.before _ s = true := fun w h => hts w (List.mem_cons_of_mem _ h)
  subst hsz
  have hD := hD0.self (sz := s.heap.size)
  obtain ⟨A, hAe⟩ : ∃ A, va_A (pW cs ad kept gq) s.heap.size = A := ⟨_, rfl⟩
  rw [hAe] at hD
  have hA : ∀ q : Nat, s.heap.size ≤ q → A q := fun q h => by rw [← hAe]; exact Or.inr h
  obtain ⟨H, hH⟩ : ∃ H, H = s.heap := ⟨_, rfl⟩
  obtain ⟨locs, hlocs⟩ : ∃ locs : List Loc, locs = [] := ⟨_, rfl⟩
  have hS : va_S A s.heap H locs := by rw [hH, hlocs]; exact va_S.rf
  rw [← hH] at hP
  suffices hgo : W pg l ev rm_X2_forget s m [.ref (ad 5)].toArray below meth c H locs 0 0 Q (F0 m 0 ls []) by rw [hH, hlocs] at hgo; exact hgo
  have hl : lv_has ls 2 [(0, .ref (ad 5))] := hl
  refine rv_iconst hx hb dX2_forget_0 ?_
  refine lv_istore_n (lv' := [(1, .int (iI 0)), (0, .ref (ad 5))]) hx hb dX2_forget_1 rfl hl (by decide) rfl (fun ls hl => ?_)
  have loop2 : ∀ (fuel2 : Nat) (i : Nat) (G : Nat → Option Nat), (i ≤ 6) → 6 - i < fuel2 → ∀ (x1 : Int), x1 = (i : Int) → ∀ (H : Heap) (locs : List Loc), va_P D classes (pW cs ad kept G) H → va_D A (pW cs ad kept G) → va_S A s.heap H locs → ∀ ls : Array Slot, lv_has ls 2 [(0, .ref (ad 5)), (1, .int (iI x1))] → W pg l ev rm_X2_forget s m [.ref (ad 5)].toArray below meth c H locs 0 0 Q (F0 m 2 ls []) := by
    intro fuel2
    induction fuel2 with
    | zero => intro i G hi hfuel2; exact absurd hfuel2 (Nat.not_lt_zero _)
    | succ fuel2 ih2 =>
      intro i G hi hfuel2 x1 ex1 H locs hP hD hS ls hl
      subst ex1
      refine lv_iload_n hx hb dX2_forget_2 rfl (lv_at hl 1 rfl) ?_
      refine lv_aload_n hx hb dX2_forget_3 rfl (lv_at hl 0 rfl) ?_
      refine va_get (D := D) (ci := 1) (v := .ref (ad 6)) (C := RX2) (T := TX2) (N := 2) hx hb ht inTB_X2 hown hK hP 0 rfl rfl 0 (by decide) (ht _ tb_63) (fun _ h9 => h9) rfl dX2_forget_4 ?_
      refine rv_alen hx hb hK hP 1 3 rfl rfl dX2_forget_7 ?_
      refine rv_icmp_ge (tgt := 24) hx hb dX2_forget_8 (by decide) (by omega) (fun h8 => ?_) (fun h8 => ?_)
      · refine lv_aload_n hx hb dX2_forget_24 rfl (lv_at hl 0 rfl) ?_
        refine rv_iconst hx hb dX2_forget_25 ?_
        refine va_put (D := D) (ci := 1) (v := .int (iI 0)) (ty := tyX2 1) (C := RX2) (T := TX2) (N := 2) hx hb ht inTB_X2 tyX2 tyX2_ok nmX2 hown hK hP hD hS 0 rfl rfl 1 (by decide) (ht _ tb_64) (fun _ h9 => h9) rfl (tyX2_ok 1 (by decide)) rfl rfl (Nat.le_of_ble_eq_true rfl) dX2_forget_26 (fun H locs hP hD hS => ?_)
        have hP : va_P D classes (pW cs ad 0 G) H := hP
        have hD : va_D A (pW cs ad 0 G) := hD
        subst hQ
        exact W.vret hx hb hr (fun t9 ht9 hW9 => ⟨⟨(), rfl, trivial, ⟨G, by rw [ht9]; exact hP, by rw [hAe]; exact hD⟩⟩, by rw [hAe]; exact hS.F ht9⟩) (by rw [hAe]; exact hS.2.2) dX2_forget_29
      · refine lv_aload_n hx hb dX2_forget_11 rfl (lv_at hl 0 rfl) ?_
        refine va_get (D := D) (ci := 1) (v := .ref (ad 6)) (C := RX2) (T := TX2) (N := 2) hx hb ht inTB_X2 hown hK hP 0 rfl rfl 0 (by decide) (ht _ tb_63) (fun _ h9 => h9) rfl dX2_forget_12 ?_
        refine lv_iload_n hx hb dX2_forget_15 rfl (lv_at hl 1 rfl) ?_
        refine lv_null hx hb dX2_forget_16 ?_
        refine rv_aastN hx hb hK hP hD hS 1 3 rfl rfl i rfl (by omega) dX2_forget_17 (fun H locs hP hD hS => ?_)
        have hP : va_P D classes (pW cs ad kept (va_up G i none)) H := hP
        have hD : va_D A (pW cs ad kept (va_up G i none)) := hD
        refine rv_iinc (k := 1) (lv' := [(1, .int (iI ((i : Int) + 1))), (0, .ref (ad 5))]) hx hb dX2_forget_18 hl rfl (by decide) rfl (fun ls hl => ?_)
        refine lv_goto (tgt := 2) hx hb dX2_forget_21 (by decide) ?_
        exact ih2 (i + 1) (va_up G i none) (by omega) (by omega) _ (by omega) H locs hP hD hS ls (lv_sub hl [1, 0] rfl)
  exact loop2 (_ + 1) 0 gq (by omega) (Nat.lt_succ_self _) _ rfl H locs hP hD hS ls (lv_sub hl [1, 0] rfl)

abbrev rm_X2_keep : Room := { frames := 0, cells := 0, slots := 0, locals := 0 }
set_option maxHeartbeats 8000000 in
set_option maxRecDepth 100000 in
/-- keep -/
theorem c_X2_keep (l : Launch) (D : va_G) (cs : Nat → ClassId) (ad : Nat → Nat) (sz : Nat) (kept : Int) (gq : Nat → Option Nat) (M : Nat → Prop) (a : Nat) (hM : ∀ q, inAd ad 5 7 q → M q) (hk : 0 ≤ kept ∧ kept ≤ 6) : Met l yX2_keep (Cond.code yX2_keep cX2_keep 3 none :: TB) rm_X2_keep (va_Pc [.ref (ad 5), .ref a] (MPre D cs sz (pW cs ad kept gq) (fun U H => IsPl D cs M H a ∧ ∀ i : Nat, (i : Int) < kept → ∃ y, gq i = some y ∧ IsPl D cs M H y))) (va_Qv (fun _ : Unit => True) (fun _ t => ∃ (kept2 : Int) (gq2 : Nat → Option Nat), ((kept < 6 → kept2 = kept + 1 ∧ gq2 = va_up gq kept.toNat (some a)) ∧ (kept = 6 → kept2 = 6 ∧ (∀ i : Nat, i < 5 → gq2 i = gq (i + 1)) ∧ gq2 5 = some a)) ∧ va_P D classes (pW cs ad kept2 gq2) t.heap ∧ va_D (va_A (pW cs ad kept gq) sz) (pW cs ad kept2 gq2)) (va_A (pW cs ad kept gq) sz)) 0 0 (va_A (pW cs ad kept gq) sz) := by
  refine enter (cc := cX2_keep) (maxL := 3) (ret := none) (by decide) (Nat.le_of_ble_eq_true rfl) ?_
  intro pg ev s m below meth c Q ls hx hb hml hown hts hr hlocks hnm ⟨hsz, hP, hD0, hK, hX0⟩ hl hQ
  have ht : ∀ w ∈ TB, w.before _ s = true := fun w h => hts w (List.mem_cons_of_mem _ h)
  subst hsz
  have hD := hD0.self (sz := s.heap.size)
  obtain ⟨A, hAe⟩ : ∃ A, va_A (pW cs ad kept gq) s.heap.size = A := ⟨_, rfl⟩
  rw [hAe] at hD
  have hA : ∀ q : Nat, s.heap.size ≤ q → A q := fun q h => by rw [← hAe]; exact Or.inr h
  obtain ⟨H, hH⟩ : ∃ H, H = s.heap := ⟨_, rfl⟩
  obtain ⟨locs, hlocs⟩ : ∃ locs : List Loc, locs = [] := ⟨_, rfl⟩
  have hS : va_S A s.heap H locs := by rw [hH, hlocs]; exact va_S.rf
  rw [← hH] at hP
  suffices hgo : W pg l ev rm_X2_keep s m [.ref (ad 5), .ref a].toArray below meth c H locs 0 0 Q (F0 m 0 ls []) by rw [hH, hlocs] at hgo; exact hgo
  have hl : lv_has ls 3 [(0, .ref (ad 5)), (1, .ref a)] := hl
  refine lv_aload_n hx hb dX2_keep_0 rfl (lv_at hl 0 rfl) ?_
  refine va_get (D := D) (ci := 1) (v := .int (iI kept)) (C := RX2) (T := TX2) (N := 2) hx hb ht inTB_X2 hown hK hP 0 rfl rfl 1 (by decide) (ht _ tb_64) (fun _ h9 => h9) rfl dX2_keep_1 ?_
  refine lv_aload_n hx hb dX2_keep_4 rfl (lv_at hl 0 rfl) ?_
  refine va_get (D := D) (ci := 1) (v := .ref (ad 6)) (C := RX2) (T := TX2) (N := 2) hx hb ht inTB_X2 hown hK hP 0 rfl rfl 0 (by decide) (ht _ tb_63) (fun _ h9 => h9) rfl dX2_keep_5 ?_
  refine rv_alen hx hb hK hP 1 3 rfl rfl dX2_keep_8 ?_
  refine rv_icmp_lt (tgt := 54) hx hb dX2_keep_9 (by decide) (by omega) (fun h9 => ?_) (fun h9 => ?_)
  · refine lv_aload_n hx hb dX2_keep_54 rfl (lv_at hl 0 rfl) ?_
    refine va_get (D := D) (ci := 1) (v := .int (iI kept)) (C := RX2) (T := TX2) (N := 2) hx hb ht inTB_X2 hown hK hP 0 rfl rfl 1 (by decide) (ht _ tb_64) (fun _ h9 => h9) rfl dX2_keep_55 ?_
    refine rv_if_lt (tgt := 71) hx hb dX2_keep_58 (by decide) (by omega) (fun h58 => False.elim (by omega)) (fun h58 => ?_)
    refine lv_aload_n hx hb dX2_keep_61 rfl (lv_at hl 0 rfl) ?_
    refine va_get (D := D) (ci := 1) (v := .ref (ad 6)) (C := RX2) (T := TX2) (N := 2) hx hb ht inTB_X2 hown hK hP 0 rfl rfl 0 (by decide) (ht _ tb_63) (fun _ h9 => h9) rfl dX2_keep_62 ?_
    refine lv_aload_n hx hb dX2_keep_65 rfl (lv_at hl 0 rfl) ?_
    refine va_get (D := D) (ci := 1) (v := .int (iI kept)) (C := RX2) (T := TX2) (N := 2) hx hb ht inTB_X2 hown hK hP 0 rfl rfl 1 (by decide) (ht _ tb_64) (fun _ h9 => h9) rfl dX2_keep_66 ?_
    refine lv_aload_n hx hb dX2_keep_69 rfl (lv_at hl 1 rfl) ?_
    refine rv_aast hx hb hK hP hD hS 1 3 rfl rfl (IsPl.any hK (IsPl.inS hX0.1 (fun q z => hM q (Mw_pW q z)) hAe hS)) kept.toNat (by omega) (by omega) dX2_keep_70 (fun H locs hP hD hS => ?_)
    have hP : va_P D classes (pW cs ad kept (va_up gq kept.toNat (some a))) H := hP
    have hD : va_D A (pW cs ad kept (va_up gq kept.toNat (some a))) := hD
    refine lv_aload_n hx hb dX2_keep_71 rfl (lv_at hl 0 rfl) ?_
    refine lv_dup hx hb dX2_keep_72 rfl ?_
    refine va_get (D := D) (ci := 1) (v := .int (iI kept)) (C := RX2) (T := TX2) (N := 2) hx hb ht inTB_X2 hown hK hP 0 rfl rfl 1 (by decide) (ht _ tb_64) (fun _ h9 => h9) rfl dX2_keep_73 ?_
    refine rv_iconst hx hb dX2_keep_76 ?_
    refine rv_iadd hx hb dX2_keep_77 ?_
    refine va_put (D := D) (ci := 1) (v := .int (iI (kept + 1))) (ty := tyX2 1) (C := RX2) (T := TX2) (N := 2) hx hb ht inTB_X2 tyX2 tyX2_ok nmX2 hown hK hP hD hS 0 rfl rfl 1 (by decide) (ht _ tb_64) (fun _ h9 => h9) rfl (tyX2_ok 1 (by decide)) rfl rfl (Nat.le_of_ble_eq_true rfl) dX2_keep_78 (fun H locs hP hD hS => ?_)
    have hP : va_P D classes (pW cs ad (kept + 1) (va_up gq kept.toNat (some a))) H := hP
    have hD : va_D A (pW cs ad (kept + 1) (va_up gq kept.toNat (some a))) := hD
    subst hQ
    exact W.vret hx hb hr (fun t9 ht9 hW9 => ⟨⟨(), rfl, trivial, ⟨(kept + 1), (va_up gq kept.toNat (some a)), ⟨fun _ => ⟨rfl, rfl⟩, fun q => by omega⟩, by rw [ht9]; exact hP, by rw [hAe]; exact hD⟩⟩, by rw [hAe]; exact hS.F ht9⟩) (by rw [hAe]; exact hS.2.2) dX2_keep_81
  · refine rv_iconst hx hb dX2_keep_12 ?_
    refine lv_istore_n (lv' := [(2, .int (iI 1)), (0, .ref (ad 5)), (1, .ref a)]) hx hb dX2_keep_13 rfl hl (by decide) rfl (fun ls hl => ?_)
    have loop14 : ∀ (fuel14 : Nat) (i : Nat) (G : Nat → Option Nat), (1 ≤ i ∧ i ≤ 6) → (∀ j : Nat, j + 1 < i → G j = gq (j + 1)) → (∀ j : Nat, i ≤ j + 1 → G j = gq j) → 6 - i < fuel14 → ∀ (x2 : Int), x2 = (i : Int) → ∀ (H : Heap) (locs : List Loc), va_P D classes (pW cs ad kept G) H → va_D A (pW cs ad kept G) → va_S A s.heap H locs → ∀ ls : Array Slot, lv_has ls 3 [(0, .ref (ad 5)), (1, .ref a), (2, .int (iI x2))] → W pg l ev rm_X2_keep s m [.ref (ad 5), .ref a].toArray below meth c H locs 0 0 Q (F0 m 14 ls []) := by
      intro fuel14
      induction fuel14 with
      | zero => intro i G hi hq hq2 hfuel14; exact absurd hfuel14 (Nat.not_lt_zero _)
      | succ fuel14 ih14 =>
        intro i G hi hq hq2 hfuel14 x2 ex2 H locs hP hD hS ls hl
        subst ex2
        refine lv_iload_n hx hb dX2_keep_14 rfl (lv_at hl 2 rfl) ?_
        refine lv_aload_n hx hb dX2_keep_15 rfl (lv_at hl 0 rfl) ?_
        refine va_get (D := D) (ci := 1) (v := .ref (ad 6)) (C := RX2) (T := TX2) (N := 2) hx hb ht inTB_X2 hown hK hP 0 rfl rfl 0 (by decide) (ht _ tb_63) (fun _ h9 => h9) rfl dX2_keep_16 ?_
        refine rv_alen hx hb hK hP 1 3 rfl rfl dX2_keep_19 ?_
        refine rv_icmp_ge (tgt := 43) hx hb dX2_keep_20 (by decide) (by omega) (fun h20 => ?_) (fun h20 => ?_)
        · refine lv_aload_n hx hb dX2_keep_43 rfl (lv_at hl 0 rfl) ?_
          refine lv_aload_n hx hb dX2_keep_44 rfl (lv_at hl 0 rfl) ?_
          refine va_get (D := D) (ci := 1) (v := .ref (ad 6)) (C := RX2) (T := TX2) (N := 2) hx hb ht inTB_X2 hown hK hP 0 rfl rfl 0 (by decide) (ht _ tb_63) (fun _ h9 => h9) rfl dX2_keep_45 ?_
          refine rv_alen hx hb hK hP 1 3 rfl rfl dX2_keep_48 ?_
          refine rv_iconst hx hb dX2_keep_49 ?_
          refine rv_isub hx hb dX2_keep_50 ?_
          refine va_put (D := D) (ci := 1) (v := .int (iI (6 - 1))) (ty := tyX2 1) (C := RX2) (T := TX2) (N := 2) hx hb ht inTB_X2 tyX2 tyX2_ok nmX2 hown hK hP hD hS 0 rfl rfl 1 (by decide) (ht _ tb_64) (fun _ h9 => h9) rfl (tyX2_ok 1 (by decide)) rfl rfl (Nat.le_of_ble_eq_true rfl) dX2_keep_51 (fun H locs hP hD hS => ?_)
          have hP : va_P D classes (pW cs ad (6 - 1) G) H := hP
          have hD : va_D A (pW cs ad (6 - 1) G) := hD
          have hk6 : (6 : Int) - 1 = 5 := by decide
          refine lv_aload_n hx hb dX2_keep_54 rfl (lv_at hl 0 rfl) ?_
          refine va_get (D := D) (ci := 1) (v := .int (iI (6 - 1))) (C := RX2) (T := TX2) (N := 2) hx hb ht inTB_X2 hown hK hP 0 rfl rfl 1 (by decide) (ht _ tb_64) (fun _ h9 => h9) rfl dX2_keep_55 ?_
          refine rv_if_lt (tgt := 71) hx hb dX2_keep_58 (by decide) (by omega) (fun h58 => False.elim (by omega)) (fun h58 => ?_)
          refine lv_aload_n hx hb dX2_keep_61 rfl (lv_at hl 0 rfl) ?_
          refine va_get (D := D) (ci := 1) (v := .ref (ad 6)) (C := RX2) (T := TX2) (N := 2) hx hb ht inTB_X2 hown hK hP 0 rfl rfl 0 (by decide) (ht _ tb_63) (fun _ h9 => h9) rfl dX2_keep_62 ?_
          refine lv_aload_n hx hb dX2_keep_65 rfl (lv_at hl 0 rfl) ?_
          refine va_get (D := D) (ci := 1) (v := .int (iI (6 - 1))) (C := RX2) (T := TX2) (N := 2) hx hb ht inTB_X2 hown hK hP 0 rfl rfl 1 (by decide) (ht _ tb_64) (fun _ h9 => h9) rfl dX2_keep_66 ?_
          refine lv_aload_n hx hb dX2_keep_69 rfl (lv_at hl 1 rfl) ?_
          refine rv_aast hx hb hK hP hD hS 1 3 rfl rfl (IsPl.any hK (IsPl.inS hX0.1 (fun q z => hM q (Mw_pW q z)) hAe hS)) 5 (by decide) (by omega) dX2_keep_70 (fun H locs hP hD hS => ?_)
          have hP : va_P D classes (pW cs ad (6 - 1) (va_up G 5 (some a))) H := hP
          have hD : va_D A (pW cs ad (6 - 1) (va_up G 5 (some a))) := hD
          refine lv_aload_n hx hb dX2_keep_71 rfl (lv_at hl 0 rfl) ?_
          refine lv_dup hx hb dX2_keep_72 rfl ?_
          refine va_get (D := D) (ci := 1) (v := .int (iI (6 - 1))) (C := RX2) (T := TX2) (N := 2) hx hb ht inTB_X2 hown hK hP 0 rfl rfl 1 (by decide) (ht _ tb_64) (fun _ h9 => h9) rfl dX2_keep_73 ?_
          refine rv_iconst hx hb dX2_keep_76 ?_
          refine rv_iadd hx hb dX2_keep_77 ?_
          refine va_put (D := D) (ci := 1) (v := .int (iI ((6 - 1) + 1))) (ty := tyX2 1) (C := RX2) (T := TX2) (N := 2) hx hb ht inTB_X2 tyX2 tyX2_ok nmX2 hown hK hP hD hS 0 rfl rfl 1 (by decide) (ht _ tb_64) (fun _ h9 => h9) rfl (tyX2_ok 1 (by decide)) rfl rfl (Nat.le_of_ble_eq_true rfl) dX2_keep_78 (fun H locs hP hD hS => ?_)
          have hP : va_P D classes (pW cs ad ((6 - 1) + 1) (va_up G 5 (some a))) H := hP
          have hD : va_D A (pW cs ad ((6 - 1) + 1) (va_up G 5 (some a))) := hD
          subst hQ
          exact W.vret hx hb hr (fun t9 ht9 hW9 => ⟨⟨(), rfl, trivial, ⟨((6 - 1) + 1), (va_up G 5 (some a)), ⟨fun q => by omega, fun _ => ⟨by decide, fun i hi => by rw [va_up_n (by omega)]; exact hq i (by omega), va_up_s⟩⟩, by rw [ht9]; exact hP, by rw [hAe]; exact hD⟩⟩, by rw [hAe]; exact hS.F ht9⟩) (by rw [hAe]; exact hS.2.2) dX2_keep_81
        · refine lv_aload_n hx hb dX2_keep_23 rfl (lv_at hl 0 rfl) ?_
          refine va_get (D := D) (ci := 1) (v := .ref (ad 6)) (C := RX2) (T := TX2) (N := 2) hx hb ht inTB_X2 hown hK hP 0 rfl rfl 0 (by decide) (ht _ tb_63) (fun _ h9 => h9) rfl dX2_keep_24 ?_
          refine lv_iload_n hx hb dX2_keep_27 rfl (lv_at hl 2 rfl) ?_
          refine rv_iconst hx hb dX2_keep_28 ?_
          refine rv_isub hx hb dX2_keep_29 ?_
          obtain ⟨y, hy, hyp⟩ := hX0.2 i (by omega)
          refine lv_aload_n hx hb dX2_keep_30 rfl (lv_at hl 0 rfl) ?_
          refine va_get (D := D) (ci := 1) (v := .ref (ad 6)) (C := RX2) (T := TX2) (N := 2) hx hb ht inTB_X2 hown hK hP 0 rfl rfl 0 (by decide) (ht _ tb_63) (fun _ h9 => h9) rfl dX2_keep_31 ?_
          refine lv_iload_n hx hb dX2_keep_34 rfl (lv_at hl 2 rfl) ?_
          refine rv_aald (y := y) hx hb hK hP 1 3 rfl rfl i rfl (by omega) (by rw [hq2 i (by omega)]; exact hy) dX2_keep_35 ?_
          refine rv_aast hx hb hK hP hD hS 1 3 rfl rfl (IsPl.any hK (IsPl.inS hyp (fun q z => hM q (Mw_pW q z)) hAe hS)) (i - 1) (by omega) (by omega) dX2_keep_36 (fun H locs hP hD hS => ?_)
          have hP : va_P D classes (pW cs ad kept (va_up G (i - 1) (some y))) H := hP
          have hD : va_D A (pW cs ad kept (va_up G (i - 1) (some y))) := hD
          refine rv_iinc (k := 2) (lv' := [(2, .int (iI ((i : Int) + 1))), (0, .ref (ad 5)), (1, .ref a)]) hx hb dX2_keep_37 hl rfl (by decide) rfl (fun ls hl => ?_)
          refine lv_goto (tgt := 14) hx hb dX2_keep_40 (by decide) ?_
          exact ih14 (i + 1) (va_up G (i - 1) (some y)) (by omega) (fun j h => by by_cases z : j = i - 1; (subst z; rw [va_up_s, show i - 1 + 1 = i by omega, hy]); (rw [va_up_n z]; exact hq j (by omega))) (fun j h => by rw [va_up_n (by omega)]; exact hq2 j (by omega)) (by omega) _ (by omega) H locs hP hD hS ls (lv_sub hl [1, 2, 0] rfl)
    exact loop14 (_ + 1) 1 gq (by omega) (fun j h => by omega) (fun j _ => rfl) (Nat.lt_succ_self _) _ rfl H locs hP hD hS ls (lv_sub hl [1, 2, 0] rfl)

abbrev rm_X2_takeLatest : Room := { frames := 0, cells := 0, slots := 0, locals := 0 }
set_option maxHeartbeats 8000000 in
set_option maxRecDepth 100000 in
/-- takeLatest -/
theorem c_X2_takeLatest (l : Launch) (D : va_G) (cs : Nat → ClassId) (ad : Nat → Nat) (sz : Nat) (kept : Int) (gq : Nat → Option Nat) (hk : 0 ≤ kept ∧ kept ≤ 6) (hg : ∀ i : Nat, (i : Int) < kept → ∃ y, gq i = some y) : Met l yX2_takeLatest (Cond.code yX2_takeLatest cX2_takeLatest 2 (some (.object "SoundWells$Plan")) :: TB) rm_X2_takeLatest (va_Pc [.ref (ad 5)] (MPre D cs sz (pW cs ad kept gq) (fun _ _ => True))) (va_Qq (fun (r u : Option Nat) => r = u) (fun r t => ∃ (kept2 : Int) (gq2 : Nat → Option Nat), (r = cF (1 ≤ kept) (gq (kept - 1).toNat) none) ∧ (kept2 = cif (1 ≤ kept) (kept - 1) kept) ∧ (∀ i : Nat, (i : Int) < kept2 → gq2 i = gq i) ∧ va_P D classes (pW cs ad kept2 gq2) t.heap ∧ va_D (va_A (pW cs ad kept gq) sz) (pW cs ad kept2 gq2)) (va_A (pW cs ad kept gq) sz)) 0 0 (va_A (pW cs ad kept gq) sz) := by
  refine enter (cc := cX2_takeLatest) (maxL := 2) (ret := (some (.object "SoundWells$Plan"))) (by decide) (Nat.le_of_ble_eq_true rfl) ?_
  intro pg ev s m below meth c Q ls hx hb hml hown hts hr hlocks hnm ⟨hsz, hP, hD0, hK, hX0⟩ hl hQ
  have ht : ∀ w ∈ TB, w.before _ s = true := fun w h => hts w (List.mem_cons_of_mem _ h)
  subst hsz
  have hD := hD0.self (sz := s.heap.size)
  obtain ⟨A, hAe⟩ : ∃ A, va_A (pW cs ad kept gq) s.heap.size = A := ⟨_, rfl⟩
  rw [hAe] at hD
  have hA : ∀ q : Nat, s.heap.size ≤ q → A q := fun q h => by rw [← hAe]; exact Or.inr h
  obtain ⟨H, hH⟩ : ∃ H, H = s.heap := ⟨_, rfl⟩
  obtain ⟨locs, hlocs⟩ : ∃ locs : List Loc, locs = [] := ⟨_, rfl⟩
  have hS : va_S A s.heap H locs := by rw [hH, hlocs]; exact va_S.rf
  rw [← hH] at hP
  suffices hgo : W pg l ev rm_X2_takeLatest s m [.ref (ad 5)].toArray below meth c H locs 0 0 Q (F0 m 0 ls []) by rw [hH, hlocs] at hgo; exact hgo
  have hl : lv_has ls 2 [(0, .ref (ad 5))] := hl
  refine lv_aload_n hx hb dX2_takeLatest_0 rfl (lv_at hl 0 rfl) ?_
  refine va_get (D := D) (ci := 1) (v := .int (iI kept)) (C := RX2) (T := TX2) (N := 2) hx hb ht inTB_X2 hown hK hP 0 rfl rfl 1 (by decide) (ht _ tb_64) (fun _ h9 => h9) rfl dX2_takeLatest_1 ?_
  refine rv_iconst hx hb dX2_takeLatest_4 ?_
  refine rv_icmp_lt (tgt := 20) hx hb dX2_takeLatest_5 (by decide) (by omega) (fun h5 => ?_) (fun h5 => ?_)
  · refine lv_null hx hb dX2_takeLatest_20 ?_
    subst hQ
    exact W.aret (v := .null) hx hb hr (Or.inl ⟨_, rfl⟩) (Or.inl rfl) (fun t9 ht9 hW9 => ⟨⟨none, _, rfl, rfl, ⟨kept, gq, by rw [cF_neg (by omega)], by rw [cif_neg (by omega)], fun i _ => rfl, by rw [ht9]; exact hP, by rw [hAe]; exact hD⟩⟩, by rw [hAe]; exact hS.F ht9⟩) (by rw [hAe]; exact hS.2.2) dX2_takeLatest_21
  · refine lv_aload_n hx hb dX2_takeLatest_8 rfl (lv_at hl 0 rfl) ?_
    refine va_get (D := D) (ci := 1) (v := .int (iI kept)) (C := RX2) (T := TX2) (N := 2) hx hb ht inTB_X2 hown hK hP 0 rfl rfl 1 (by decide) (ht _ tb_64) (fun _ h9 => h9) rfl dX2_takeLatest_9 ?_
    refine lv_aload_n hx hb dX2_takeLatest_12 rfl (lv_at hl 0 rfl) ?_
    refine va_get (D := D) (ci := 1) (v := .ref (ad 6)) (C := RX2) (T := TX2) (N := 2) hx hb ht inTB_X2 hown hK hP 0 rfl rfl 0 (by decide) (ht _ tb_63) (fun _ h9 => h9) rfl dX2_takeLatest_13 ?_
    refine rv_alen hx hb hK hP 1 3 rfl rfl dX2_takeLatest_16 ?_
    refine rv_icmp_le (tgt := 22) hx hb dX2_takeLatest_17 (by decide) (by omega) (fun h17 => ?_) (fun h17 => False.elim (by omega))
    refine lv_aload_n hx hb dX2_takeLatest_22 rfl (lv_at hl 0 rfl) ?_
    refine lv_dup hx hb dX2_takeLatest_23 rfl ?_
    refine va_get (D := D) (ci := 1) (v := .int (iI kept)) (C := RX2) (T := TX2) (N := 2) hx hb ht inTB_X2 hown hK hP 0 rfl rfl 1 (by decide) (ht _ tb_64) (fun _ h9 => h9) rfl dX2_takeLatest_24 ?_
    refine rv_iconst hx hb dX2_takeLatest_27 ?_
    refine rv_isub hx hb dX2_takeLatest_28 ?_
    refine va_put (D := D) (ci := 1) (v := .int (iI (kept - 1))) (ty := tyX2 1) (C := RX2) (T := TX2) (N := 2) hx hb ht inTB_X2 tyX2 tyX2_ok nmX2 hown hK hP hD hS 0 rfl rfl 1 (by decide) (ht _ tb_64) (fun _ h9 => h9) rfl (tyX2_ok 1 (by decide)) rfl rfl (Nat.le_of_ble_eq_true rfl) dX2_takeLatest_29 (fun H locs hP hD hS => ?_)
    have hP : va_P D classes (pW cs ad (kept - 1) gq) H := hP
    have hD : va_D A (pW cs ad (kept - 1) gq) := hD
    refine lv_aload_n hx hb dX2_takeLatest_32 rfl (lv_at hl 0 rfl) ?_
    refine va_get (D := D) (ci := 1) (v := .ref (ad 6)) (C := RX2) (T := TX2) (N := 2) hx hb ht inTB_X2 hown hK hP 0 rfl rfl 0 (by decide) (ht _ tb_63) (fun _ h9 => h9) rfl dX2_takeLatest_33 ?_
    refine lv_aload_n hx hb dX2_takeLatest_36 rfl (lv_at hl 0 rfl) ?_
    refine va_get (D := D) (ci := 1) (v := .int (iI (kept - 1))) (C := RX2) (T := TX2) (N := 2) hx hb ht inTB_X2 hown hK hP 0 rfl rfl 1 (by decide) (ht _ tb_64) (fun _ h9 => h9) rfl dX2_takeLatest_37 ?_
    obtain ⟨y, hy⟩ := hg (kept - 1).toNat (by omega)
    refine rv_aald (y := y) hx hb hK hP 1 3 rfl rfl ((kept - 1).toNat) (by omega) (by omega) hy dX2_takeLatest_40 ?_
    refine lv_astore_n (lv' := [(1, .ref y), (0, .ref (ad 5))]) hx hb dX2_takeLatest_41 rfl hl (by decide) rfl (fun ls hl => ?_)
    refine lv_aload_n hx hb dX2_takeLatest_42 rfl (lv_at hl 1 rfl) ?_
    refine va_get (D := D) (ci := 1) (v := .ref (ad 6)) (C := RX2) (T := TX2) (N := 2) hx hb ht inTB_X2 hown hK hP 0 rfl rfl 0 (by decide) (ht _ tb_63) (fun _ h9 => h9) rfl dX2_takeLatest_43 ?_
    refine lv_aload_n hx hb dX2_takeLatest_46 rfl (lv_at hl 1 rfl) ?_
    refine va_get (D := D) (ci := 1) (v := .int (iI (kept - 1))) (C := RX2) (T := TX2) (N := 2) hx hb ht inTB_X2 hown hK hP 0 rfl rfl 1 (by decide) (ht _ tb_64) (fun _ h9 => h9) rfl dX2_takeLatest_47 ?_
    refine lv_null hx hb dX2_takeLatest_50 ?_
    refine rv_aastN hx hb hK hP hD hS 1 3 rfl rfl ((kept - 1).toNat) (by omega) (by omega) dX2_takeLatest_51 (fun H locs hP hD hS => ?_)
    have hP : va_P D classes (pW cs ad (kept - 1) (va_up gq ((kept - 1).toNat) none)) H := hP
    have hD : va_D A (pW cs ad (kept - 1) (va_up gq ((kept - 1).toNat) none)) := hD
    refine lv_aload_n hx hb dX2_takeLatest_52 rfl (lv_at hl 0 rfl) ?_
    subst hQ
    exact W.aret (v := .ref y) hx hb hr (Or.inl ⟨_, rfl⟩) (Or.inr ⟨_, rfl⟩) (fun t9 ht9 hW9 => ⟨⟨some y, _, rfl, rfl, ⟨(kept - 1), (va_up gq ((kept - 1).toNat) none), by rw [cF_pos (by omega), hy], by rw [cif_pos (by omega)], fun i hi => va_up_n (by omega), by rw [ht9]; exact hP, by rw [hAe]; exact hD⟩⟩, by rw [hAe]; exact hS.F ht9⟩) (by rw [hAe]; exact hS.2.2) dX2_takeLatest_53

