/-! the class -/

abbrev rm_X6_write : Room := { frames := 0, cells := 0, slots := 0, locals := 0 }
set_option maxHeartbeats 8000000 in
set_option maxRecDepth 100000 in
/-- write -/
theorem c_X6_write (l : Launch) (D : va_G) (cs : Nat → ClassId) (ad : Nat → Nat) (sz : Nat) (len : Int) (pl : Nat) (rlen : Int) (rpc : Int) (run_ : Int) (rbo : Int) (rcw : Int) (rt : Value) (tx : Nat → Int) (gp : Nat → Option Nat) (nu : Nat → Int) (kept : Int) (gq : Nat → Option Nat) (swl : Int) (sun : Int) (sbo : Int) (scw : Int) (bo : Int) (cu : Int) (lo : Int) (wh : Int) (dps : Nat → Int) (alk : Nat → Int) (bof : Nat → Int) (us : Nat → Int) (bl : Nat → Int) (lg : Nat → Int) (M : Nat → Prop) (v : Nat → Int) (bf : Nat → Int) (x : Int) (hM : ∀ q, inAd ad 0 14 q → M q) (hkp : 0 ≤ kept ∧ kept ≤ 6) (hlen : 0 ≤ len ∧ len ≤ 200) (hx1 : -2147483648 ≤ x ∧ x < 2147483648) : Met l yX6_write (Cond.code yX6_write cX6_write 2 (some .int) :: TB) rm_X6_write (va_Pc [.ref (ad 0), .int (iI x)] (MPre D cs sz (xW cs ad len pl rlen rpc run_ rbo rcw rt tx gp nu kept gq swl sun sbo scw bo cu lo wh dps alk bof us bl lg) (fun U H => XI D cs M pl v kept gq bf U H))) (va_Qi (fun (r u : Int32) => r = u) (fun r t => (r = iI (aWrite len x)) ∧ va_P D classes (xW cs ad (nLen len x) pl rlen rpc run_ rbo rcw rt (nTx len x tx) gp nu kept gq swl sun sbo scw bo cu lo wh dps alk bof us bl lg) t.heap ∧ va_D (va_A (xW cs ad len pl rlen rpc run_ rbo rcw rt tx gp nu kept gq swl sun sbo scw bo cu lo wh dps alk bof us bl lg) sz) (xW cs ad (nLen len x) pl rlen rpc run_ rbo rcw rt (nTx len x tx) gp nu kept gq swl sun sbo scw bo cu lo wh dps alk bof us bl lg)) (va_A (xW cs ad len pl rlen rpc run_ rbo rcw rt tx gp nu kept gq swl sun sbo scw bo cu lo wh dps alk bof us bl lg) sz)) 0 0 (va_A (xW cs ad len pl rlen rpc run_ rbo rcw rt tx gp nu kept gq swl sun sbo scw bo cu lo wh dps alk bof us bl lg) sz) := by
  refine enter (cc := cX6_write) (maxL := 2) (ret := (some .int)) (by decide) (Nat.le_of_ble_eq_true rfl) ?_
  intro pg ev s m below meth c Q ls hx hb hml hown hts hr hlocks hnm ⟨hsz, hP, hD0, hK, hX0⟩ hl hQ
  have ht : ∀ w ∈ TB, w.before _ s = true := fun w h => hts w (List.mem_cons_of_mem _ h)
  subst hsz
  have hD := hD0.self (sz := s.heap.size)
  obtain ⟨A, hAe⟩ : ∃ A, va_A (xW cs ad len pl rlen rpc run_ rbo rcw rt tx gp nu kept gq swl sun sbo scw bo cu lo wh dps alk bof us bl lg) s.heap.size = A := ⟨_, rfl⟩
  rw [hAe] at hD
  have hA : ∀ q : Nat, s.heap.size ≤ q → A q := fun q h => by rw [← hAe]; exact Or.inr h
  obtain ⟨H, hH⟩ : ∃ H, H = s.heap := ⟨_, rfl⟩
  obtain ⟨locs, hlocs⟩ : ∃ locs : List Loc, locs = [] := ⟨_, rfl⟩
  have hS : va_S A s.heap H locs := by rw [hH, hlocs]; exact va_S.rf
  rw [← hH] at hP
  suffices hgo : W pg l ev rm_X6_write s m [.ref (ad 0), .int (iI x)].toArray below meth c H locs 0 0 Q (F0 m 0 ls []) by rw [hH, hlocs] at hgo; exact hgo
  have hl : lv_has ls 2 [(0, .ref (ad 0)), (1, .int (iI x))] := hl
  refine lv_iload_n hx hb dX6_write_0 rfl (lv_at hl 1 rfl) ?_
  refine rv_bipush hx hb dX6_write_1 (by decide) ?_
  refine rv_icmp_lt (tgt := 12) hx hb dX6_write_3 (by decide) (by omega) (fun h3 => ?_) (fun h3 => ?_)
  · refine rv_iconst hx hb dX6_write_12 ?_
    have e1 : nLen len x = len := by rw [nLen, cif_neg (by omega)]
    have e2 : nTx len x tx = tx := by rw [nTx, cF_neg (by omega)]
    subst hQ
    exact W.iret hx hb hr (fun t9 ht9 hW9 => ⟨⟨_, _, rfl, rfl, ⟨by rw [aWrite, cif_neg (by omega)], by rw [ht9]; (first | rw [e1, e2] | rw [e1] | skip); exact hP, by rw [hAe]; (first | rw [e1, e2] | rw [e1] | skip); exact hD⟩⟩, by rw [hAe]; exact hS.F ht9⟩) (by rw [hAe]; exact hS.2.2) dX6_write_13
  · refine lv_iload_n hx hb dX6_write_6 rfl (lv_at hl 1 rfl) ?_
    refine rv_bipush hx hb dX6_write_7 (by decide) ?_
    refine rv_icmp_le (tgt := 14) hx hb dX6_write_9 (by decide) (by omega) (fun h9 => ?_) (fun h9 => ?_)
    · refine lv_aload_n hx hb dX6_write_14 rfl (lv_at hl 0 rfl) ?_
      refine va_get (D := D) (ci := 5) (v := .int (iI len)) (C := RX6) (T := TX6) (N := 6) hx hb ht inTB_X6 hown hK hP 0 rfl rfl 4 (by decide) (ht _ tb_203) (fun _ h9 => h9) rfl dX6_write_15 ?_
      refine rv_if_lt (tgt := 33) hx hb dX6_write_18 (by decide) (by omega) (fun h18 => False.elim (by omega)) (fun h18 => ?_)
      refine lv_aload_n hx hb dX6_write_21 rfl (lv_at hl 0 rfl) ?_
      refine va_get (D := D) (ci := 5) (v := .int (iI len)) (C := RX6) (T := TX6) (N := 6) hx hb ht inTB_X6 hown hK hP 0 rfl rfl 4 (by decide) (ht _ tb_203) (fun _ h9 => h9) rfl dX6_write_22 ?_
      refine lv_aload_n hx hb dX6_write_25 rfl (lv_at hl 0 rfl) ?_
      refine va_get (D := D) (ci := 5) (v := .ref (ad 1)) (C := RX6) (T := TX6) (N := 6) hx hb ht inTB_X6 hown hK hP 0 rfl rfl 0 (by decide) (ht _ tb_199) (fun _ h9 => h9) rfl dX6_write_26 ?_
      refine rv_alen hx hb hK hP 1 1 rfl rfl dX6_write_29 ?_
      refine rv_icmp_lt (tgt := 36) hx hb dX6_write_30 (by decide) (by omega) (fun h30 => ?_) (fun h30 => ?_)
      · refine lv_aload_n hx hb dX6_write_36 rfl (lv_at hl 0 rfl) ?_
        refine va_get (D := D) (ci := 5) (v := .ref (ad 1)) (C := RX6) (T := TX6) (N := 6) hx hb ht inTB_X6 hown hK hP 0 rfl rfl 0 (by decide) (ht _ tb_199) (fun _ h9 => h9) rfl dX6_write_37 ?_
        refine lv_aload_n hx hb dX6_write_40 rfl (lv_at hl 0 rfl) ?_
        refine va_get (D := D) (ci := 5) (v := .int (iI len)) (C := RX6) (T := TX6) (N := 6) hx hb ht inTB_X6 hown hK hP 0 rfl rfl 4 (by decide) (ht _ tb_203) (fun _ h9 => h9) rfl dX6_write_41 ?_
        refine lv_iload_n hx hb dX6_write_44 rfl (lv_at hl 1 rfl) ?_
        refine rv_i2c hx hb dX6_write_45 (by omega) ?_
        refine rv_cast hx hb hK hP hD hS 1 1 rfl rfl len.toNat (by omega) (by omega) (by omega) dX6_write_46 (fun H locs hP hD hS => ?_)
        have hP : va_P D classes (xW cs ad len pl rlen rpc run_ rbo rcw rt (upI tx len.toNat x) gp nu kept gq swl sun sbo scw bo cu lo wh dps alk bof us bl lg) H := hP
        have hD : va_D A (xW cs ad len pl rlen rpc run_ rbo rcw rt (upI tx len.toNat x) gp nu kept gq swl sun sbo scw bo cu lo wh dps alk bof us bl lg) := hD
        refine lv_aload_n hx hb dX6_write_47 rfl (lv_at hl 0 rfl) ?_
        refine lv_dup hx hb dX6_write_48 rfl ?_
        refine va_get (D := D) (ci := 5) (v := .int (iI len)) (C := RX6) (T := TX6) (N := 6) hx hb ht inTB_X6 hown hK hP 0 rfl rfl 4 (by decide) (ht _ tb_203) (fun _ h9 => h9) rfl dX6_write_49 ?_
        refine rv_iconst hx hb dX6_write_52 ?_
        refine rv_iadd hx hb dX6_write_53 ?_
        refine va_put (D := D) (ci := 5) (v := .int (iI (len + 1))) (ty := tyX6 4) (C := RX6) (T := TX6) (N := 6) hx hb ht inTB_X6 tyX6 tyX6_ok nmX6 hown hK hP hD hS 0 rfl rfl 4 (by decide) (ht _ tb_203) (fun _ h9 => h9) rfl (tyX6_ok 4 (by decide)) rfl rfl (Nat.le_of_ble_eq_true rfl) dX6_write_54 (fun H locs hP hD hS => ?_)
        have hP : va_P D classes (xW cs ad (len + 1) pl rlen rpc run_ rbo rcw rt (upI tx len.toNat x) gp nu kept gq swl sun sbo scw bo cu lo wh dps alk bof us bl lg) H := hP
        have hD : va_D A (xW cs ad (len + 1) pl rlen rpc run_ rbo rcw rt (upI tx len.toNat x) gp nu kept gq swl sun sbo scw bo cu lo wh dps alk bof us bl lg) := hD
        refine lv_aload_n hx hb dX6_write_57 rfl (lv_at hl 0 rfl) ?_
        refine va_get (D := D) (ci := 5) (v := .int (iI (len + 1))) (C := RX6) (T := TX6) (N := 6) hx hb ht inTB_X6 hown hK hP 0 rfl rfl 4 (by decide) (ht _ tb_203) (fun _ h9 => h9) rfl dX6_write_58 ?_
        have e1 : nLen len x = len + 1 := by rw [nLen, cif_pos (by omega)]
        have e2 : nTx len x tx = upI tx len.toNat x := by rw [nTx, cF_pos (by omega)]
        subst hQ
        exact W.iret hx hb hr (fun t9 ht9 hW9 => ⟨⟨_, _, rfl, rfl, ⟨by rw [aWrite, cif_pos (by omega), cif_neg (by omega)], by rw [ht9]; (first | rw [e1, e2] | rw [e1] | skip); exact hP, by rw [hAe]; (first | rw [e1, e2] | rw [e1] | skip); exact hD⟩⟩, by rw [hAe]; exact hS.F ht9⟩) (by rw [hAe]; exact hS.2.2) dX6_write_61
      · refine rv_bipush hx hb dX6_write_33 (by decide) ?_
        have e1 : nLen len x = len := by rw [nLen, cif_neg (by omega)]
        have e2 : nTx len x tx = tx := by rw [nTx, cF_neg (by omega)]
        subst hQ
        exact W.iret hx hb hr (fun t9 ht9 hW9 => ⟨⟨_, _, rfl, rfl, ⟨by rw [aWrite, cif_pos (by omega), cif_pos (by omega)], by rw [ht9]; (first | rw [e1, e2] | rw [e1] | skip); exact hP, by rw [hAe]; (first | rw [e1, e2] | rw [e1] | skip); exact hD⟩⟩, by rw [hAe]; exact hS.F ht9⟩) (by rw [hAe]; exact hS.2.2) dX6_write_35
    · refine rv_iconst hx hb dX6_write_12 ?_
      have e1 : nLen len x = len := by rw [nLen, cif_neg (by omega)]
      have e2 : nTx len x tx = tx := by rw [nTx, cF_neg (by omega)]
      subst hQ
      exact W.iret hx hb hr (fun t9 ht9 hW9 => ⟨⟨_, _, rfl, rfl, ⟨by rw [aWrite, cif_neg (by omega)], by rw [ht9]; (first | rw [e1, e2] | rw [e1] | skip); exact hP, by rw [hAe]; (first | rw [e1, e2] | rw [e1] | skip); exact hD⟩⟩, by rw [hAe]; exact hS.F ht9⟩) (by rw [hAe]; exact hS.2.2) dX6_write_13

abbrev rm_X6_wipe : Room := { frames := 0, cells := 0, slots := 0, locals := 0 }
set_option maxHeartbeats 8000000 in
set_option maxRecDepth 100000 in
/-- wipe -/
theorem c_X6_wipe (l : Launch) (D : va_G) (cs : Nat → ClassId) (ad : Nat → Nat) (sz : Nat) (len : Int) (pl : Nat) (rlen : Int) (rpc : Int) (run_ : Int) (rbo : Int) (rcw : Int) (rt : Value) (tx : Nat → Int) (gp : Nat → Option Nat) (nu : Nat → Int) (kept : Int) (gq : Nat → Option Nat) (swl : Int) (sun : Int) (sbo : Int) (scw : Int) (bo : Int) (cu : Int) (lo : Int) (wh : Int) (dps : Nat → Int) (alk : Nat → Int) (bof : Nat → Int) (us : Nat → Int) (bl : Nat → Int) (lg : Nat → Int) (M : Nat → Prop) (v : Nat → Int) (bf : Nat → Int) (hM : ∀ q, inAd ad 0 14 q → M q) (hkp : 0 ≤ kept ∧ kept ≤ 6) (hlen : 0 ≤ len ∧ len ≤ 200) : Met l yX6_wipe (Cond.code yX6_wipe cX6_wipe 2 (some .int) :: TB) rm_X6_wipe (va_Pc [.ref (ad 0)] (MPre D cs sz (xW cs ad len pl rlen rpc run_ rbo rcw rt tx gp nu kept gq swl sun sbo scw bo cu lo wh dps alk bof us bl lg) (fun U H => XI D cs M pl v kept gq bf U H))) (va_Qi (fun (r u : Int32) => r = u) (fun r t => (r = iI len) ∧ va_P D classes (xW cs ad 0 pl rlen rpc run_ rbo rcw rt tx gp nu kept gq swl sun sbo scw bo cu lo wh dps alk bof us bl lg) t.heap ∧ va_D (va_A (xW cs ad len pl rlen rpc run_ rbo rcw rt tx gp nu kept gq swl sun sbo scw bo cu lo wh dps alk bof us bl lg) sz) (xW cs ad 0 pl rlen rpc run_ rbo rcw rt tx gp nu kept gq swl sun sbo scw bo cu lo wh dps alk bof us bl lg)) (va_A (xW cs ad len pl rlen rpc run_ rbo rcw rt tx gp nu kept gq swl sun sbo scw bo cu lo wh dps alk bof us bl lg) sz)) 0 0 (va_A (xW cs ad len pl rlen rpc run_ rbo rcw rt tx gp nu kept gq swl sun sbo scw bo cu lo wh dps alk bof us bl lg) sz) := by
  refine enter (cc := cX6_wipe) (maxL := 2) (ret := (some .int)) (by decide) (Nat.le_of_ble_eq_true rfl) ?_
  intro pg ev s m below meth c Q ls hx hb hml hown hts hr hlocks hnm ⟨hsz, hP, hD0, hK, hX0⟩ hl hQ
  have ht : ∀ w ∈ TB, w.before _ s = true := fun w h => hts w (List.mem_cons_of_mem _ h)
  subst hsz
  have hD := hD0.self (sz := s.heap.size)
  obtain ⟨A, hAe⟩ : ∃ A, va_A (xW cs ad len pl rlen rpc run_ rbo rcw rt tx gp nu kept gq swl sun sbo scw bo cu lo wh dps alk bof us bl lg) s.heap.size = A := ⟨_, rfl⟩
  rw [hAe] at hD
  have hA : ∀ q : Nat, s.heap.size ≤ q → A q := fun q h => by rw [← hAe]; exact Or.inr h
  obtain ⟨H, hH⟩ : ∃ H, H = s.heap := ⟨_, rfl⟩
  obtain ⟨locs, hlocs⟩ : ∃ locs : List Loc, locs = [] := ⟨_, rfl⟩
  have hS : va_S A s.heap H locs := by rw [hH, hlocs]; exact va_S.rf
  rw [← hH] at hP
  suffices hgo : W pg l ev rm_X6_wipe s m [.ref (ad 0)].toArray below meth c H locs 0 0 Q (F0 m 0 ls []) by rw [hH, hlocs] at hgo; exact hgo
  have hl : lv_has ls 2 [(0, .ref (ad 0))] := hl
  refine lv_aload_n hx hb dX6_wipe_0 rfl (lv_at hl 0 rfl) ?_
  refine va_get (D := D) (ci := 5) (v := .int (iI len)) (C := RX6) (T := TX6) (N := 6) hx hb ht inTB_X6 hown hK hP 0 rfl rfl 4 (by decide) (ht _ tb_203) (fun _ h9 => h9) rfl dX6_wipe_1 ?_
  refine lv_istore_n (lv' := [(1, .int (iI len)), (0, .ref (ad 0))]) hx hb dX6_wipe_4 rfl hl (by decide) rfl (fun ls hl => ?_)
  refine lv_aload_n hx hb dX6_wipe_5 rfl (lv_at hl 1 rfl) ?_
  refine rv_iconst hx hb dX6_wipe_6 ?_
  refine va_put (D := D) (ci := 5) (v := .int (iI 0)) (ty := tyX6 4) (C := RX6) (T := TX6) (N := 6) hx hb ht inTB_X6 tyX6 tyX6_ok nmX6 hown hK hP hD hS 0 rfl rfl 4 (by decide) (ht _ tb_203) (fun _ h9 => h9) rfl (tyX6_ok 4 (by decide)) rfl rfl (Nat.le_of_ble_eq_true rfl) dX6_wipe_7 (fun H locs hP hD hS => ?_)
  have hP : va_P D classes (xW cs ad 0 pl rlen rpc run_ rbo rcw rt tx gp nu kept gq swl sun sbo scw bo cu lo wh dps alk bof us bl lg) H := hP
  have hD : va_D A (xW cs ad 0 pl rlen rpc run_ rbo rcw rt tx gp nu kept gq swl sun sbo scw bo cu lo wh dps alk bof us bl lg) := hD
  refine lv_iload_n hx hb dX6_wipe_10 rfl (lv_at hl 0 rfl) ?_
  subst hQ
  exact W.iret hx hb hr (fun t9 ht9 hW9 => ⟨⟨_, _, rfl, rfl, ⟨rfl, by rw [ht9]; exact hP, by rw [hAe]; exact hD⟩⟩, by rw [hAe]; exact hS.F ht9⟩) (by rw [hAe]; exact hS.2.2) dX6_wipe_11

abbrev rm_X6_fault : Room := { frames := 6, cells := 234, slots := 4446, locals := 150 }
set_option maxHeartbeats 8000000 in
set_option maxRecDepth 100000 in
/-- fault -/
theorem c_X6_fault (l : Launch) (D : va_G) (cs : Nat → ClassId) (ad : Nat → Nat) (sz : Nat) (len : Int) (pl : Nat) (rlen : Int) (rpc : Int) (run_ : Int) (rbo : Int) (rcw : Int) (rt : Value) (tx : Nat → Int) (gp : Nat → Option Nat) (nu : Nat → Int) (kept : Int) (gq : Nat → Option Nat) (swl : Int) (sun : Int) (sbo : Int) (scw : Int) (bo : Int) (cu : Int) (lo : Int) (wh : Int) (dps : Nat → Int) (alk : Nat → Int) (bof : Nat → Int) (us : Nat → Int) (bl : Nat → Int) (lg : Nat → Int) (M : Nat → Prop) (v : Nat → Int) (bf : Nat → Int) (hM : ∀ q, inAd ad 0 14 q → M q) (hkp : 0 ≤ kept ∧ kept ≤ 6) (hlen : 0 ≤ len ∧ len ≤ 200) (hnu : ∀ j : Nat, j < 4 → 0 ≤ nu j ∧ nu j ≤ 999) (htx : okTx tx len) : Met l yX6_fault (Cond.code yX6_fault cX6_fault 1 (some .int) :: TB) rm_X6_fault (va_Pc [.ref (ad 0)] (MPre D cs sz (xW cs ad len pl rlen rpc run_ rbo rcw rt tx gp nu kept gq swl sun sbo scw bo cu lo wh dps alk bof us bl lg) (fun U H => XI D cs M pl v kept gq bf U H))) (va_Qi (fun (r u : Int32) => r = u) (fun r t => ∃ (rlen2 : Int) (rpc2 : Int) (run2 : Int) (rbo2 : Int) (rcw2 : Int) (rt2 : Value) (gp2 : Nat → Option Nat) (nu2 : Nat → Int), (r = iI (flt tx len 201 0 0)) ∧ (∀ j : Nat, j < 4 → 0 ≤ nu2 j ∧ nu2 j ≤ 999) ∧ va_P D classes (xW cs ad len pl rlen2 rpc2 run2 rbo2 rcw2 rt2 tx gp2 nu2 kept gq swl sun sbo scw bo cu lo wh dps alk bof us bl lg) t.heap ∧ va_D (va_A (xW cs ad len pl rlen rpc run_ rbo rcw rt tx gp nu kept gq swl sun sbo scw bo cu lo wh dps alk bof us bl lg) sz) (xW cs ad len pl rlen2 rpc2 run2 rbo2 rcw2 rt2 tx gp2 nu2 kept gq swl sun sbo scw bo cu lo wh dps alk bof us bl lg)) (va_A (xW cs ad len pl rlen rpc run_ rbo rcw rt tx gp nu kept gq swl sun sbo scw bo cu lo wh dps alk bof us bl lg) sz)) 234 4446 (va_A (xW cs ad len pl rlen rpc run_ rbo rcw rt tx gp nu kept gq swl sun sbo scw bo cu lo wh dps alk bof us bl lg) sz) := by
  refine enter (cc := cX6_fault) (maxL := 1) (ret := (some .int)) (by decide) (Nat.le_of_ble_eq_true rfl) ?_
  intro pg ev s m below meth c Q ls hx hb hml hown hts hr hlocks hnm ⟨hsz, hP, hD0, hK, hX0⟩ hl hQ
  have ht : ∀ w ∈ TB, w.before _ s = true := fun w h => hts w (List.mem_cons_of_mem _ h)
  subst hsz
  have hD := hD0.self (sz := s.heap.size)
  obtain ⟨A, hAe⟩ : ∃ A, va_A (xW cs ad len pl rlen rpc run_ rbo rcw rt tx gp nu kept gq swl sun sbo scw bo cu lo wh dps alk bof us bl lg) s.heap.size = A := ⟨_, rfl⟩
  rw [hAe] at hD
  have hA : ∀ q : Nat, s.heap.size ≤ q → A q := fun q h => by rw [← hAe]; exact Or.inr h
  obtain ⟨H, hH⟩ : ∃ H, H = s.heap := ⟨_, rfl⟩
  obtain ⟨locs, hlocs⟩ : ∃ locs : List Loc, locs = [] := ⟨_, rfl⟩
  have hS : va_S A s.heap H locs := by rw [hH, hlocs]; exact va_S.rf
  rw [← hH] at hP
  suffices hgo : W pg l ev rm_X6_fault s m [.ref (ad 0)].toArray below meth c H locs 0 0 Q (F0 m 0 ls []) by rw [hH, hlocs] at hgo; exact hgo
  have hl : lv_has ls 1 [(0, .ref (ad 0))] := hl
  have hXI := XI.inS hX0 (fun q z => hM q (Mw_xW q z)) hAe (show va_S A s.heap H locs from hS)
  have hvL := hX0.1.2.1.1
  obtain ⟨hv20, hv21, hv22, hv23, hvp⟩ := id hvL
  obtain ⟨arr, g, hG0⟩ := hX0.1.2.1.g
  refine lv_aload_n hx hb dX6_fault_0 rfl (lv_at hl 0 rfl) ?_
  refine va_get (D := D) (ci := 5) (v := .ref (ad 2)) (C := RX6) (T := TX6) (N := 6) hx hb ht inTB_X6 hown hK hP 0 rfl rfl 1 (by decide) (ht _ tb_200) (fun _ h9 => h9) rfl dX6_fault_1 ?_
  refine lv_aload_n hx hb dX6_fault_4 rfl (lv_at hl 0 rfl) ?_
  refine va_get (D := D) (ci := 5) (v := .ref (ad 1)) (C := RX6) (T := TX6) (N := 6) hx hb ht inTB_X6 hown hK hP 0 rfl rfl 0 (by decide) (ht _ tb_199) (fun _ h9 => h9) rfl dX6_fault_5 ?_
  refine lv_aload_n hx hb dX6_fault_8 rfl (lv_at hl 0 rfl) ?_
  refine va_get (D := D) (ci := 5) (v := .int (iI len)) (C := RX6) (T := TX6) (N := 6) hx hb ht inTB_X6 hown hK hP 0 rfl rfl 4 (by decide) (ht _ tb_203) (fun _ h9 => h9) rfl dX6_fault_9 ?_
  have hFc := va_free (wc := (rW cs ad rlen rpc run_ rbo rcw rt tx gp nu)) hD hS hA [1, 2, 3, 4] rfl
  have hPc := hP.sub (ws' := (rW cs ad rlen rpc run_ rbo rcw rt tx gp nu)) [1, 2, 3, 4] rfl
  have hDc := hD.sub (ws' := (rW cs ad rlen rpc run_ rbo rcw rt tx gp nu)) [1, 2, 3, 4] (by decide) rfl
  refine va_calli (va_runV (As := [.ref (ad 1), .int (iI len)]) (rest := []) ⟨hx, hb, hml, hown, hts⟩ (c_X4_firstFault l D cs ad H.size rlen rpc run_ rbo rcw rt tx gp nu M len hnu hlen htx (fun q z => hM q (z.mono (by decide) (by decide)))) (cwV 2 hts (gV tb_230 tb_231 tb_232 tb_2 tb_233) rfl rfl rfl (by decide +kernel) ⟨Nat.le_of_ble_eq_true rfl, Nat.le_of_ble_eq_true rfl⟩) (preV_M (X := fun U H => (∀ q, M q → q < H.size) ∧ PZ U H M) (Stb_and Stb_H (PZ_stb M)) hK (va_recv hK hPc (ci := 3) (q0 := 1) rfl rfl) hPc hDc ⟨hXI.1.1, hXI.2.1⟩) rfl rfl hl.1 rfl (lv_room (Nat.le_of_ble_eq_true rfl)) dX6_fault_12 ⟨Nat.le_of_ble_eq_true rfl, Nat.le_of_ble_eq_true rfl⟩) hS (fun q _ h => hFc q h) hFc (fun r9 u9 t9 H9 locs ht9 hvm9 hw9 hB9 hz9 hk9 hS => ?_)
  obtain rfl := hw9
  obtain ⟨rpc2_12, run2_12, rbo2_12, rcw2_12, gp2_12, nu2_12, hf12_0, hf12_1, hf12_2, hf12_3, hP1, hD1⟩ := hB9
  rw [ht9] at hP1
  rw [ht9] at hf12_1
  obtain ⟨hPj, hDj⟩ := va_join (wr := [_, _, _, _, _, _, _, _, _, _]) hP hD [1, 2, 3, 4] [0, 5, 6, 7, 8, 9, 10, 11, 12, 13] rfl rfl (by decide) (by decide) hk9 hFc hP1 hD1
  generalize H9 = H at *
  have hP : va_P D classes (xW cs ad len pl len rpc2_12 run2_12 rbo2_12 rcw2_12 (.ref (ad 1)) tx gp2_12 nu2_12 kept gq swl sun sbo scw bo cu lo wh dps alk bof us bl lg) H := hPj.sub [0, 10, 11, 12, 13, 1, 2, 3, 4, 5, 6, 7, 8, 9] rfl
  have hD : va_D A (xW cs ad len pl len rpc2_12 run2_12 rbo2_12 rcw2_12 (.ref (ad 1)) tx gp2_12 nu2_12 kept gq swl sun sbo scw bo cu lo wh dps alk bof us bl lg) := hDj.sub [0, 10, 11, 12, 13, 1, 2, 3, 4, 5, 6, 7, 8, 9] (by decide) rfl
  subst hf12_0
  subst hQ
  exact W.iret hx hb hr (fun t9 ht9 hW9 => ⟨⟨_, _, rfl, rfl, ⟨len, rpc2_12, run2_12, rbo2_12, rcw2_12, (.ref (ad 1)), gp2_12, nu2_12, rfl, hf12_2, by rw [ht9]; exact hP, by rw [hAe]; exact hD⟩⟩, by rw [hAe]; exact hS.F ht9⟩) (by rw [hAe]; exact hS.2.2) dX6_fault_15

abbrev rm_X6_lay : Room := { frames := 6, cells := 236, slots := 4454, locals := 150 }
set_option maxHeartbeats 8000000 in
set_option maxRecDepth 100000 in
/-- lay -/
theorem c_X6_lay (l : Launch) (D : va_G) (cs : Nat → ClassId) (ad : Nat → Nat) (sz : Nat) (len : Int) (pl : Nat) (rlen : Int) (rpc : Int) (run_ : Int) (rbo : Int) (rcw : Int) (rt : Value) (tx : Nat → Int) (gp : Nat → Option Nat) (nu : Nat → Int) (kept : Int) (gq : Nat → Option Nat) (swl : Int) (sun : Int) (sbo : Int) (scw : Int) (bo : Int) (cu : Int) (lo : Int) (wh : Int) (dps : Nat → Int) (alk : Nat → Int) (bof : Nat → Int) (us : Nat → Int) (bl : Nat → Int) (lg : Nat → Int) (M : Nat → Prop) (v : Nat → Int) (bf : Nat → Int) (hM : ∀ q, inAd ad 0 14 q → M q) (hkp : 0 ≤ kept ∧ kept ≤ 6) (hlen : 0 ≤ len ∧ len ≤ 200) (hnu : ∀ j : Nat, j < 4 → 0 ≤ nu j ∧ nu j ≤ 999) (htx : okTx tx len) : Met l yX6_lay (Cond.code yX6_lay cX6_lay 1 (some .int) :: TB) rm_X6_lay (va_Pc [.ref (ad 0)] (MPre D cs sz (xW cs ad len pl rlen rpc run_ rbo rcw rt tx gp nu kept gq swl sun sbo scw bo cu lo wh dps alk bof us bl lg) (fun U H => XI D cs M pl v kept gq bf U H))) (va_Qi (fun (r u : Int32) => r = u) (fun r t => ∃ (rlen2 : Int) (rpc2 : Int) (run2 : Int) (rbo2 : Int) (rcw2 : Int) (rt2 : Value) (gp2 : Nat → Option Nat) (nu2 : Nat → Int) (pl2 : Nat) (kept2 : Int) (gq2 : Nat → Option Nat), (r = iI (cif (flt tx len 201 0 0 = -4) (lst tx len 201 0 rd0 20) (-2))) ∧ (∀ j : Nat, j < 4 → 0 ≤ nu2 j ∧ nu2 j ≤ 999) ∧ (∀ (v2 : Nat → Int) (un2 : Int), (flt tx len 201 0 0 = -4 → agr v2 (lst tx len 201 0 rd0) ∧ un2 = 0) ∧ (¬ flt tx len 201 0 0 = -4 → v2 = v ∧ un2 = kept) → XK D cs M t.heap pl2 kept2 gq2 v2 un2 bf) ∧ va_P D classes (xW cs ad len pl2 rlen2 rpc2 run2 rbo2 rcw2 rt2 tx gp2 nu2 kept2 gq2 swl sun sbo scw bo cu lo wh dps alk bof us bl lg) t.heap ∧ va_D (va_A (xW cs ad len pl rlen rpc run_ rbo rcw rt tx gp nu kept gq swl sun sbo scw bo cu lo wh dps alk bof us bl lg) sz) (xW cs ad len pl2 rlen2 rpc2 run2 rbo2 rcw2 rt2 tx gp2 nu2 kept2 gq2 swl sun sbo scw bo cu lo wh dps alk bof us bl lg)) (va_A (xW cs ad len pl rlen rpc run_ rbo rcw rt tx gp nu kept gq swl sun sbo scw bo cu lo wh dps alk bof us bl lg) sz)) 236 4454 (va_A (xW cs ad len pl rlen rpc run_ rbo rcw rt tx gp nu kept gq swl sun sbo scw bo cu lo wh dps alk bof us bl lg) sz) := by
  refine enter (cc := cX6_lay) (maxL := 1) (ret := (some .int)) (by decide) (Nat.le_of_ble_eq_true rfl) ?_
  intro pg ev s m below meth c Q ls hx hb hml hown hts hr hlocks hnm ⟨hsz, hP, hD0, hK, hX0⟩ hl hQ
  have ht : ∀ w ∈ TB, w.before _ s = true := fun w h => hts w (List.mem_cons_of_mem _ h)
  subst hsz
  have hD := hD0.self (sz := s.heap.size)
  obtain ⟨A, hAe⟩ : ∃ A, va_A (xW cs ad len pl rlen rpc run_ rbo rcw rt tx gp nu kept gq swl sun sbo scw bo cu lo wh dps alk bof us bl lg) s.heap.size = A := ⟨_, rfl⟩
  rw [hAe] at hD
  have hA : ∀ q : Nat, s.heap.size ≤ q → A q := fun q h => by rw [← hAe]; exact Or.inr h
  obtain ⟨H, hH⟩ : ∃ H, H = s.heap := ⟨_, rfl⟩
  obtain ⟨locs, hlocs⟩ : ∃ locs : List Loc, locs = [] := ⟨_, rfl⟩
  have hS : va_S A s.heap H locs := by rw [hH, hlocs]; exact va_S.rf
  rw [← hH] at hP
  suffices hgo : W pg l ev rm_X6_lay s m [.ref (ad 0)].toArray below meth c H locs 0 0 Q (F0 m 0 ls []) by rw [hH, hlocs] at hgo; exact hgo
  have hl : lv_has ls 1 [(0, .ref (ad 0))] := hl
  have hXI := XI.inS hX0 (fun q z => hM q (Mw_xW q z)) hAe (show va_S A s.heap H locs from hS)
  have hvL := hX0.1.2.1.1
  obtain ⟨hv20, hv21, hv22, hv23, hvp⟩ := id hvL
  obtain ⟨arr, g, hG0⟩ := hX0.1.2.1.g
  refine lv_aload_n hx hb dX6_lay_0 rfl (lv_at hl 0 rfl) ?_
  refine va_get (D := D) (ci := 5) (v := .ref (ad 2)) (C := RX6) (T := TX6) (N := 6) hx hb ht inTB_X6 hown hK hP 0 rfl rfl 1 (by decide) (ht _ tb_200) (fun _ h9 => h9) rfl dX6_lay_1 ?_
  refine lv_aload_n hx hb dX6_lay_4 rfl (lv_at hl 0 rfl) ?_
  refine va_get (D := D) (ci := 5) (v := .ref (ad 1)) (C := RX6) (T := TX6) (N := 6) hx hb ht inTB_X6 hown hK hP 0 rfl rfl 0 (by decide) (ht _ tb_199) (fun _ h9 => h9) rfl dX6_lay_5 ?_
  refine lv_aload_n hx hb dX6_lay_8 rfl (lv_at hl 0 rfl) ?_
  refine va_get (D := D) (ci := 5) (v := .int (iI len)) (C := RX6) (T := TX6) (N := 6) hx hb ht inTB_X6 hown hK hP 0 rfl rfl 4 (by decide) (ht _ tb_203) (fun _ h9 => h9) rfl dX6_lay_9 ?_
  have hFc := va_free (wc := (rW cs ad rlen rpc run_ rbo rcw rt tx gp nu)) hD hS hA [1, 2, 3, 4] rfl
  have hPc := hP.sub (ws' := (rW cs ad rlen rpc run_ rbo rcw rt tx gp nu)) [1, 2, 3, 4] rfl
  have hDc := hD.sub (ws' := (rW cs ad rlen rpc run_ rbo rcw rt tx gp nu)) [1, 2, 3, 4] (by decide) rfl
  refine va_calli (va_runV (As := [.ref (ad 1), .int (iI len)]) (rest := []) ⟨hx, hb, hml, hown, hts⟩ (c_X4_firstFault l D cs ad H.size rlen rpc run_ rbo rcw rt tx gp nu M len hnu hlen htx (fun q z => hM q (z.mono (by decide) (by decide)))) (cwV 2 hts (gV tb_230 tb_231 tb_232 tb_2 tb_233) rfl rfl rfl (by decide +kernel) ⟨Nat.le_of_ble_eq_true rfl, Nat.le_of_ble_eq_true rfl⟩) (preV_M (X := fun U H => (∀ q, M q → q < H.size) ∧ PZ U H M) (Stb_and Stb_H (PZ_stb M)) hK (va_recv hK hPc (ci := 3) (q0 := 1) rfl rfl) hPc hDc ⟨hXI.1.1, hXI.2.1⟩) rfl rfl hl.1 rfl (lv_room (Nat.le_of_ble_eq_true rfl)) dX6_lay_12 ⟨Nat.le_of_ble_eq_true rfl, Nat.le_of_ble_eq_true rfl⟩) hS (fun q _ h => hFc q h) hFc (fun r9 u9 t9 H9 locs ht9 hvm9 hw9 hB9 hz9 hk9 hS => ?_)
  obtain rfl := hw9
  obtain ⟨rpc2_12, run2_12, rbo2_12, rcw2_12, gp2_12, nu2_12, hf12_0, hf12_1, hf12_2, hf12_3, hP1, hD1⟩ := hB9
  rw [ht9] at hP1
  rw [ht9] at hf12_1
  obtain ⟨hPj, hDj⟩ := va_join (wr := [_, _, _, _, _, _, _, _, _, _]) hP hD [1, 2, 3, 4] [0, 5, 6, 7, 8, 9, 10, 11, 12, 13] rfl rfl (by decide) (by decide) hk9 hFc hP1 hD1
  generalize H9 = H at *
  have hP : va_P D classes (xW cs ad len pl len rpc2_12 run2_12 rbo2_12 rcw2_12 (.ref (ad 1)) tx gp2_12 nu2_12 kept gq swl sun sbo scw bo cu lo wh dps alk bof us bl lg) H := hPj.sub [0, 10, 11, 12, 13, 1, 2, 3, 4, 5, 6, 7, 8, 9] rfl
  have hD : va_D A (xW cs ad len pl len rpc2_12 run2_12 rbo2_12 rcw2_12 (.ref (ad 1)) tx gp2_12 nu2_12 kept gq swl sun sbo scw bo cu lo wh dps alk bof us bl lg) := hDj.sub [0, 10, 11, 12, 13, 1, 2, 3, 4, 5, 6, 7, 8, 9] (by decide) rfl
  have hfb := hf12_3
  have hXI := XI.inS hX0 (fun q z => hM q (Mw_xW q z)) hAe hS
  subst hf12_0
  refine rv_bipush hx hb dX6_lay_15 (by decide) ?_
  refine rv_icmp_eq (tgt := 23) hx hb dX6_lay_17 (by decide) (by omega) (fun h17 => ?_) (fun h17 => ?_)
  · refine lv_aload_n hx hb dX6_lay_23 rfl (lv_at hl 0 rfl) ?_
    refine lv_aload_n hx hb dX6_lay_24 rfl (lv_at hl 0 rfl) ?_
    refine va_get (D := D) (ci := 5) (v := .ref (ad 2)) (C := RX6) (T := TX6) (N := 6) hx hb ht inTB_X6 hown hK hP 0 rfl rfl 1 (by decide) (ht _ tb_200) (fun _ h9 => h9) rfl dX6_lay_25 ?_
    have hFc := va_free (wc := (rW1 cs ad len rpc2_12 run2_12 rbo2_12 rcw2_12 tx gp2_12 nu2_12)) hD hS hA [1, 2, 3, 4] rfl
    have hPc := hP.sub (ws' := (rW1 cs ad len rpc2_12 run2_12 rbo2_12 rcw2_12 tx gp2_12 nu2_12)) [1, 2, 3, 4] rfl
    have hDc := hD.sub (ws' := (rW1 cs ad len rpc2_12 run2_12 rbo2_12 rcw2_12 tx gp2_12 nu2_12)) [1, 2, 3, 4] (by decide) rfl
    refine va_callr (va_runV (As := []) (rest := [.ref (ad 0)]) ⟨hx, hb, hml, hown, hts⟩ (c_X4_planRead l D cs ad H.size len rpc2_12 run2_12 rbo2_12 rcw2_12 tx gp2_12 nu2_12 M (lst tx len 201 0 rd0) (fun q z => hM q (z.mono (by decide) (by decide)))) (cwV 0 hts (gV tb_294 tb_295 tb_296 tb_2 tb_297) rfl rfl rfl (by decide +kernel) ⟨Nat.le_of_ble_eq_true rfl, Nat.le_of_ble_eq_true rfl⟩) (preV_M (X := fun U H => ((∀ q, M q → q < H.size) ∧ RdS D cs M H (lst tx len 201 0 rd0) rpc2_12 run2_12 rbo2_12 rcw2_12 gp2_12) ∧ ST U) (Stb_and Stb_H ST_stb) hK (va_recv hK hPc (ci := 3) (q0 := 1) rfl rfl) hPc hDc ⟨⟨hXI.1.1, hf12_1 h17⟩, hXI.2.2⟩) rfl rfl hl.1 rfl (lv_room (Nat.le_of_ble_eq_true rfl)) dX6_lay_28 ⟨Nat.le_of_ble_eq_true rfl, Nat.le_of_ble_eq_true rfl⟩) hS (fun q _ h => hFc q h) hFc (fun u9 r28 t9 H9 locs ht9 hvm9 hw9 hB9 hz9 hk9 hS => ?_)
    obtain ⟨hf28_0, hP1, hD1⟩ := hB9
    rw [ht9] at hP1
    rw [ht9] at hf28_0
    obtain ⟨hPj, hDj⟩ := va_join (wr := [_, _, _, _, _, _, _, _, _, _]) hP hD [1, 2, 3, 4] [0, 5, 6, 7, 8, 9, 10, 11, 12, 13] rfl rfl (by decide) (by decide) hk9 hFc hP1 hD1
    generalize H9 = H at *
    have hP : va_P D classes (xW cs ad len pl len rpc2_12 run2_12 rbo2_12 rcw2_12 (.ref (ad 1)) tx gp2_12 nu2_12 kept gq swl sun sbo scw bo cu lo wh dps alk bof us bl lg) H := hPj.sub [0, 10, 11, 12, 13, 1, 2, 3, 4, 5, 6, 7, 8, 9] rfl
    have hD : va_D A (xW cs ad len pl len rpc2_12 run2_12 rbo2_12 rcw2_12 (.ref (ad 1)) tx gp2_12 nu2_12 kept gq swl sun sbo scw bo cu lo wh dps alk bof us bl lg) := hDj.sub [0, 10, 11, 12, 13, 1, 2, 3, 4, 5, 6, 7, 8, 9] (by decide) rfl
    refine rv_putPl (fs := [.ref (ad 1), .ref (ad 2), .ref (ad 5), .ref (ad 7), .int (iI len), .ref pl]) hx hb ht hown hK hP hD hS rfl (Nat.le_of_ble_eq_true rfl) (ht _ tb_204) dX6_lay_31 (fun H1 locs hP hD hS hq31 => ?_)
    have hpl2 := PlanAt.kept hf28_0 (fun q _ h2 => hq31 q (fun e => h2 (e ▸ hM _ ⟨0, by decide, by decide, rfl⟩)))
    generalize H1 = H at *
    have hP : va_P D classes (xW cs ad len r28 len rpc2_12 run2_12 rbo2_12 rcw2_12 (.ref (ad 1)) tx gp2_12 nu2_12 kept gq swl sun sbo scw bo cu lo wh dps alk bof us bl lg) H := hP
    have hD : va_D A (xW cs ad len r28 len rpc2_12 run2_12 rbo2_12 rcw2_12 (.ref (ad 1)) tx gp2_12 nu2_12 kept gq swl sun sbo scw bo cu lo wh dps alk bof us bl lg) := hD
    refine lv_aload_n hx hb dX6_lay_34 rfl (lv_at hl 0 rfl) ?_
    refine va_get (D := D) (ci := 5) (v := .ref (ad 5)) (C := RX6) (T := TX6) (N := 6) hx hb ht inTB_X6 hown hK hP 0 rfl rfl 2 (by decide) (ht _ tb_201) (fun _ h9 => h9) rfl dX6_lay_35 ?_
    have hFc := va_free (wc := (pW cs ad kept gq)) hD hS hA [5, 6] rfl
    have hPc := hP.sub (ws' := (pW cs ad kept gq)) [5, 6] rfl
    have hDc := hD.sub (ws' := (pW cs ad kept gq)) [5, 6] (by decide) rfl
    refine va_callv (va_runV (As := []) (rest := []) ⟨hx, hb, hml, hown, hts⟩ (c_X2_forget l D cs ad H.size kept gq) (cwV 0 hts (gV tb_306 tb_307 tb_308 tb_3 tb_309) rfl rfl rfl (by decide +kernel) ⟨Nat.le_of_ble_eq_true rfl, Nat.le_of_ble_eq_true rfl⟩) (preV_M (X := fun _ _ => True) Stb_T hK (va_recv hK hPc (ci := 1) (q0 := 0) rfl rfl) hPc hDc trivial) rfl rfl hl.1 rfl (lv_room (Nat.le_of_ble_eq_true rfl)) dX6_lay_38 ⟨Nat.le_of_ble_eq_true rfl, Nat.le_of_ble_eq_true rfl⟩) hS (fun q _ h => hFc q h) hFc (fun u9 t9 H9 locs ht9 hvm9 hw9 hB9 hz9 hk9 hS => ?_)
    obtain ⟨gq2_38, hP1, hD1⟩ := hB9
    rw [ht9] at hP1
    obtain ⟨hPj, hDj⟩ := va_join (wr := [_, _, _, _, _, _, _, _, _, _, _, _]) hP hD [5, 6] [0, 1, 2, 3, 4, 7, 8, 9, 10, 11, 12, 13] rfl rfl (by decide) (by decide) hk9 hFc hP1 hD1
    have hpl3 := PlanAt.call hpl2 (fun q z => hM q ((Mw_pW q z).mono (by decide) (by decide))) hk9
    generalize H9 = H at *
    have hP : va_P D classes (xW cs ad len r28 len rpc2_12 run2_12 rbo2_12 rcw2_12 (.ref (ad 1)) tx gp2_12 nu2_12 0 gq2_38 swl sun sbo scw bo cu lo wh dps alk bof us bl lg) H := hPj.sub [0, 1, 2, 3, 4, 12, 13, 5, 6, 7, 8, 9, 10, 11] rfl
    have hD : va_D A (xW cs ad len r28 len rpc2_12 run2_12 rbo2_12 rcw2_12 (.ref (ad 1)) tx gp2_12 nu2_12 0 gq2_38 swl sun sbo scw bo cu lo wh dps alk bof us bl lg) := hDj.sub [0, 1, 2, 3, 4, 12, 13, 5, 6, 7, 8, 9, 10, 11] (by decide) rfl
    obtain ⟨hvL2, arr2, g2, hPl2, _, _, _⟩ := id hpl3
    have hL20 := hvL2.1
    refine lv_aload_n hx hb dX6_lay_41 rfl (lv_at hl 0 rfl) ?_
    refine va_get (D := D) (ci := 5) (v := .ref r28) (C := RX6) (T := TX6) (N := 6) hx hb ht inTB_X6 hown hK hP 0 rfl rfl 5 (by decide) (ht _ tb_204) (fun _ h9 => h9) rfl dX6_lay_42 ?_
    refine va_get (D := D) (ci := 2) (v := .ref arr2) (C := RX3) (T := TX3) (N := 4) hx hb ht inTB_X3 hown hK hPl2 0 rfl rfl 0 (by decide) (ht _ tb_180) (fun _ h9 => h9) rfl dX6_lay_45 ?_
    refine rv_alen hx hb hK hPl2 1 2 rfl rfl dX6_lay_48 ?_
    subst hQ
    exact W.iret hx hb hr (fun t9 ht9 hW9 => ⟨⟨_, _, rfl, rfl, ⟨len, rpc2_12, run2_12, rbo2_12, rcw2_12, (.ref (ad 1)), gp2_12, nu2_12, r28, 0, gq2_38, by rw [cif_pos h17, Int.toNat_of_nonneg hL20.1], hf12_2, fun v2 un2 hR => by obtain ⟨ha, rfl⟩ := hR.1 h17; rw [ht9]; exact ⟨hpl3.agr (fun j hj => (ha j hj).symm), rfl, fun i hi => by omega⟩, by rw [ht9]; exact hP, by rw [hAe]; exact hD⟩⟩, by rw [hAe]; exact hS.F ht9⟩) (by rw [hAe]; exact hS.2.2) dX6_lay_49
  · refine rv_bipush hx hb dX6_lay_20 (by decide) ?_
    refine W.widen (k := 236) (n := 4454) (by omega) (by omega) ?_
    subst hQ
    exact W.iret hx hb hr (fun t9 ht9 hW9 => ⟨⟨_, _, rfl, rfl, ⟨len, rpc2_12, run2_12, rbo2_12, rcw2_12, (.ref (ad 1)), gp2_12, nu2_12, pl, kept, gq, by rw [cif_neg h17], hf12_2, fun v2 un2 hR => by obtain ⟨rfl, rfl⟩ := hR.2 h17; rw [ht9]; exact ⟨hXI.1.2.1, rfl, hXI.1.2.2⟩, by rw [ht9]; exact hP, by rw [hAe]; exact hD⟩⟩, by rw [hAe]; exact hS.F ht9⟩) (by rw [hAe]; exact hS.2.2) dX6_lay_22

abbrev rm_X6_change : Room := { frames := 1, cells := 0, slots := 0, locals := 22 }
set_option maxHeartbeats 8000000 in
set_option maxRecDepth 100000 in
/-- change -/
theorem c_X6_change (l : Launch) (D : va_G) (cs : Nat → ClassId) (ad : Nat → Nat) (sz : Nat) (len : Int) (pl : Nat) (rlen : Int) (rpc : Int) (run_ : Int) (rbo : Int) (rcw : Int) (rt : Value) (tx : Nat → Int) (gp : Nat → Option Nat) (nu : Nat → Int) (kept : Int) (gq : Nat → Option Nat) (swl : Int) (sun : Int) (sbo : Int) (scw : Int) (bo : Int) (cu : Int) (lo : Int) (wh : Int) (dps : Nat → Int) (alk : Nat → Int) (bof : Nat → Int) (us : Nat → Int) (bl : Nat → Int) (lg : Nat → Int) (M : Nat → Prop) (v : Nat → Int) (bf : Nat → Int) (a : Nat) (v2 : Nat → Int) (hM : ∀ q, inAd ad 0 14 q → M q) (hkp : 0 ≤ kept ∧ kept ≤ 6) (hlen : 0 ≤ len ∧ len ≤ 200) : Met l yX6_change (Cond.code yX6_change cX6_change 2 none :: TB) rm_X6_change (va_Pc [.ref (ad 0), .ref a] (MPre D cs sz (xW cs ad len pl rlen rpc run_ rbo rcw rt tx gp nu kept gq swl sun sbo scw bo cu lo wh dps alk bof us bl lg) (fun U H => XI D cs M pl v kept gq bf U H ∧ PlanAt D cs M H a v2))) (va_Qv (fun _ : Unit => True) (fun _ t => ∃ (kept2 : Int) (gq2 : Nat → Option Nat), (PlanAt D cs M t.heap a v2) ∧ (∀ (un2 : Int) (bf2 : Nat → Int), Noted kept bf v un2 bf2 → kept2 = un2 ∧ PastAt D cs M t.heap kept2 gq2 bf2) ∧ va_P D classes (xW cs ad len a rlen rpc run_ rbo rcw rt tx gp nu kept2 gq2 swl sun sbo scw bo cu lo wh dps alk bof us bl lg) t.heap ∧ va_D (va_A (xW cs ad len pl rlen rpc run_ rbo rcw rt tx gp nu kept gq swl sun sbo scw bo cu lo wh dps alk bof us bl lg) sz) (xW cs ad len a rlen rpc run_ rbo rcw rt tx gp nu kept2 gq2 swl sun sbo scw bo cu lo wh dps alk bof us bl lg)) (va_A (xW cs ad len pl rlen rpc run_ rbo rcw rt tx gp nu kept gq swl sun sbo scw bo cu lo wh dps alk bof us bl lg) sz)) 0 0 (va_A (xW cs ad len pl rlen rpc run_ rbo rcw rt tx gp nu kept gq swl sun sbo scw bo cu lo wh dps alk bof us bl lg) sz) := by
  refine enter (cc := cX6_change) (maxL := 2) (ret := none) (by decide) (Nat.le_of_ble_eq_true rfl) ?_
  intro pg ev s m below meth c Q ls hx hb hml hown hts hr hlocks hnm ⟨hsz, hP, hD0, hK, hX0⟩ hl hQ
  have ht : ∀ w ∈ TB, w.before _ s = true := fun w h => hts w (List.mem_cons_of_mem _ h)
  subst hsz
  have hD := hD0.self (sz := s.heap.size)
  obtain ⟨A, hAe⟩ : ∃ A, va_A (xW cs ad len pl rlen rpc run_ rbo rcw rt tx gp nu kept gq swl sun sbo scw bo cu lo wh dps alk bof us bl lg) s.heap.size = A := ⟨_, rfl⟩
  rw [hAe] at hD
  have hA : ∀ q : Nat, s.heap.size ≤ q → A q := fun q h => by rw [← hAe]; exact Or.inr h
  obtain ⟨H, hH⟩ : ∃ H, H = s.heap := ⟨_, rfl⟩
  obtain ⟨locs, hlocs⟩ : ∃ locs : List Loc, locs = [] := ⟨_, rfl⟩
  have hS : va_S A s.heap H locs := by rw [hH, hlocs]; exact va_S.rf
  rw [← hH] at hP
  suffices hgo : W pg l ev rm_X6_change s m [.ref (ad 0), .ref a].toArray below meth c H locs 0 0 Q (F0 m 0 ls []) by rw [hH, hlocs] at hgo; exact hgo
  have hl : lv_has ls 2 [(0, .ref (ad 0)), (1, .ref a)] := hl
  refine lv_aload_n hx hb dX6_change_0 rfl (lv_at hl 0 rfl) ?_
  refine va_get (D := D) (ci := 5) (v := .ref (ad 5)) (C := RX6) (T := TX6) (N := 6) hx hb ht inTB_X6 hown hK hP 0 rfl rfl 2 (by decide) (ht _ tb_201) (fun _ h9 => h9) rfl dX6_change_1 ?_
  have hXI := XI.inS hX0.1 (fun q z => hM q (Mw_xW q z)) hAe hS
  refine lv_aload_n hx hb dX6_change_4 rfl (lv_at hl 0 rfl) ?_
  refine va_get (D := D) (ci := 5) (v := .ref pl) (C := RX6) (T := TX6) (N := 6) hx hb ht inTB_X6 hown hK hP 0 rfl rfl 5 (by decide) (ht _ tb_204) (fun _ h9 => h9) rfl dX6_change_5 ?_
  have hFc := va_free (wc := (pW cs ad kept gq)) hD hS hA [5, 6] rfl
  have hPc := hP.sub (ws' := (pW cs ad kept gq)) [5, 6] rfl
  have hDc := hD.sub (ws' := (pW cs ad kept gq)) [5, 6] (by decide) rfl
  refine va_callv (va_runV (As := [.ref pl]) (rest := []) ⟨hx, hb, hml, hown, hts⟩ (c_X2_keep l D cs ad H.size kept gq M pl (fun q z => hM q (z.mono (by decide) (by decide))) (by omega)) (cwV 1 hts (gV tb_352 tb_353 tb_354 tb_3 tb_355) rfl rfl rfl (by decide +kernel) ⟨Nat.le_of_ble_eq_true rfl, Nat.le_of_ble_eq_true rfl⟩) (preV_M (X := fun U H => IsPl D cs M H pl ∧ ∀ i : Nat, (i : Int) < kept → ∃ y, gq i = some y ∧ IsPl D cs M H y) Stb_H hK (va_recv hK hPc (ci := 1) (q0 := 0) rfl rfl) hPc hDc ⟨⟨v, hXI.1.2.1⟩, fun i hi => by obtain ⟨y, e, hy⟩ := hXI.1.2.2 i hi; exact ⟨y, e, _, hy⟩⟩) rfl rfl hl.1 rfl (lv_room (Nat.le_of_ble_eq_true rfl)) dX6_change_8 ⟨Nat.le_of_ble_eq_true rfl, Nat.le_of_ble_eq_true rfl⟩) hS (fun q _ h => hFc q h) hFc (fun u9 t9 H9 locs ht9 hvm9 hw9 hB9 hz9 hk9 hS => ?_)
  obtain ⟨kept2_8, gq2_8, hf8_0, hP1, hD1⟩ := hB9
  rw [ht9] at hP1
  obtain ⟨hPj, hDj⟩ := va_join (wr := [_, _, _, _, _, _, _, _, _, _, _, _]) hP hD [5, 6] [0, 1, 2, 3, 4, 7, 8, 9, 10, 11, 12, 13] rfl rfl (by decide) (by decide) hk9 hFc hP1 hD1
  generalize H9 = H at *
  have hP : va_P D classes (xW cs ad len pl rlen rpc run_ rbo rcw rt tx gp nu kept2_8 gq2_8 swl sun sbo scw bo cu lo wh dps alk bof us bl lg) H := hPj.sub [0, 1, 2, 3, 4, 12, 13, 5, 6, 7, 8, 9, 10, 11] rfl
  have hD : va_D A (xW cs ad len pl rlen rpc run_ rbo rcw rt tx gp nu kept2_8 gq2_8 swl sun sbo scw bo cu lo wh dps alk bof us bl lg) := hDj.sub [0, 1, 2, 3, 4, 12, 13, 5, 6, 7, 8, 9, 10, 11] (by decide) rfl
  refine lv_aload_n hx hb dX6_change_11 rfl (lv_at hl 0 rfl) ?_
  refine lv_aload_n hx hb dX6_change_12 rfl (lv_at hl 1 rfl) ?_
  refine va_put (D := D) (ci := 5) (v := .ref a) (ty := tyX6 5) (C := RX6) (T := TX6) (N := 6) hx hb ht inTB_X6 tyX6 tyX6_ok nmX6 hown hK hP hD hS 0 rfl rfl 5 (by decide) (ht _ tb_204) (fun _ h9 => h9) rfl (tyX6_ok 5 (by decide)) rfl rfl (Nat.le_of_ble_eq_true rfl) dX6_change_13 (fun H locs hP hD hS => ?_)
  have hP : va_P D classes (xW cs ad len a rlen rpc run_ rbo rcw rt tx gp nu kept2_8 gq2_8 swl sun sbo scw bo cu lo wh dps alk bof us bl lg) H := hP
  have hD : va_D A (xW cs ad len a rlen rpc run_ rbo rcw rt tx gp nu kept2_8 gq2_8 swl sun sbo scw bo cu lo wh dps alk bof us bl lg) := hD
  have hXI := XI.inS hX0.1 (fun q z => hM q (Mw_xW q z)) hAe hS
  subst hQ
  exact W.vret hx hb hr (fun t9 ht9 hW9 => ⟨⟨(), rfl, trivial, ⟨kept2_8, gq2_8, by rw [ht9]; exact PlanAt.inS hX0.2 (fun q z => hM q (Mw_xW q z)) hAe hS, fun un2 bf2 hN => by rw [ht9]; exact PastAt.note hXI.1.2.2 hXI.1.2.1 hkp hf8_0 hN, by rw [ht9]; exact hP, by rw [hAe]; exact hD⟩⟩, by rw [hAe]; exact hS.F ht9⟩) (by rw [hAe]; exact hS.2.2) dX6_change_16

abbrev rm_X6_set : Room := { frames := 4, cells := 4, slots := 46, locals := 95 }
set_option maxHeartbeats 8000000 in
set_option maxRecDepth 100000 in
/-- set -/
theorem c_X6_set (l : Launch) (D : va_G) (cs : Nat → ClassId) (ad : Nat → Nat) (sz : Nat) (len : Int) (pl : Nat) (rlen : Int) (rpc : Int) (run_ : Int) (rbo : Int) (rcw : Int) (rt : Value) (tx : Nat → Int) (gp : Nat → Option Nat) (nu : Nat → Int) (kept : Int) (gq : Nat → Option Nat) (swl : Int) (sun : Int) (sbo : Int) (scw : Int) (bo : Int) (cu : Int) (lo : Int) (wh : Int) (dps : Nat → Int) (alk : Nat → Int) (bof : Nat → Int) (us : Nat → Int) (bl : Nat → Int) (lg : Nat → Int) (M : Nat → Prop) (v : Nat → Int) (bf : Nat → Int) (p : Int) (what : Int) (x : Int) (hM : ∀ q, inAd ad 0 14 q → M q) (hkp : 0 ≤ kept ∧ kept ≤ 6) (hlen : 0 ≤ len ∧ len ≤ 200) (hp0 : -2147483648 ≤ p ∧ p < 2147483648) (hw : -2147483648 ≤ what ∧ what < 2147483648) (hx1 : -2147483648 ≤ x ∧ x < 2147483648) : Met l yX6_set (Cond.code yX6_set cX6_set 6 (some .int) :: TB) rm_X6_set (va_Pc [.ref (ad 0), .int (iI p), .int (iI what), .int (iI x)] (MPre D cs sz (xW cs ad len pl rlen rpc run_ rbo rcw rt tx gp nu kept gq swl sun sbo scw bo cu lo wh dps alk bof us bl lg) (fun U H => XI D cs M pl v kept gq bf U H))) (va_Qi (fun (r u : Int32) => r = u) (fun r t => ∃ (pl2 : Nat) (kept2 : Int) (gq2 : Nat → Option Nat), (r = iI (aSet v p what x)) ∧ (∀ (v2 : Nat → Int) (un2 : Int) (bf2 : Nat → Int), (¬ okSet v p what x → v2 = v ∧ un2 = kept ∧ bf2 = bf) ∧ (okSet v p what x → Beca v kept bf (5 * p.toNat + 2 + what.toNat) x v2 un2 bf2) → XK D cs M t.heap pl2 kept2 gq2 v2 un2 bf2) ∧ va_P D classes (xW cs ad len pl2 rlen rpc run_ rbo rcw rt tx gp nu kept2 gq2 swl sun sbo scw bo cu lo wh dps alk bof us bl lg) t.heap ∧ va_D (va_A (xW cs ad len pl rlen rpc run_ rbo rcw rt tx gp nu kept gq swl sun sbo scw bo cu lo wh dps alk bof us bl lg) sz) (xW cs ad len pl2 rlen rpc run_ rbo rcw rt tx gp nu kept2 gq2 swl sun sbo scw bo cu lo wh dps alk bof us bl lg)) (va_A (xW cs ad len pl rlen rpc run_ rbo rcw rt tx gp nu kept gq swl sun sbo scw bo cu lo wh dps alk bof us bl lg) sz)) 4 46 (va_A (xW cs ad len pl rlen rpc run_ rbo rcw rt tx gp nu kept gq swl sun sbo scw bo cu lo wh dps alk bof us bl lg) sz) := by
  refine enter (cc := cX6_set) (maxL := 6) (ret := (some .int)) (by decide) (Nat.le_of_ble_eq_true rfl) ?_
  intro pg ev s m below meth c Q ls hx hb hml hown hts hr hlocks hnm ⟨hsz, hP, hD0, hK, hX0⟩ hl hQ
  have ht : ∀ w ∈ TB, w.before _ s = true := fun w h => hts w (List.mem_cons_of_mem _ h)
  subst hsz
  have hD := hD0.self (sz := s.heap.size)
  obtain ⟨A, hAe⟩ : ∃ A, va_A (xW cs ad len pl rlen rpc run_ rbo rcw rt tx gp nu kept gq swl sun sbo scw bo cu lo wh dps alk bof us bl lg) s.heap.size = A := ⟨_, rfl⟩
  rw [hAe] at hD
  have hA : ∀ q : Nat, s.heap.size ≤ q → A q := fun q h => by rw [← hAe]; exact Or.inr h
  obtain ⟨H, hH⟩ : ∃ H, H = s.heap := ⟨_, rfl⟩
  obtain ⟨locs, hlocs⟩ : ∃ locs : List Loc, locs = [] := ⟨_, rfl⟩
  have hS : va_S A s.heap H locs := by rw [hH, hlocs]; exact va_S.rf
  rw [← hH] at hP
  suffices hgo : W pg l ev rm_X6_set s m [.ref (ad 0), .int (iI p), .int (iI what), .int (iI x)].toArray below meth c H locs 0 0 Q (F0 m 0 ls []) by rw [hH, hlocs] at hgo; exact hgo
  have hl : lv_has ls 6 [(0, .ref (ad 0)), (1, .int (iI p)), (2, .int (iI what)), (3, .int (iI x))] := hl
  have hXI := XI.inS hX0 (fun q z => hM q (Mw_xW q z)) hAe (show va_S A s.heap H locs from hS)
  have hvL := hX0.1.2.1.1
  obtain ⟨hv20, hv21, hv22, hv23, hvp⟩ := id hvL
  obtain ⟨arr, g, hG0⟩ := hX0.1.2.1.g
  have hGG := hG0.inS (fun q z => hM q (Mw_xW q z)) hAe hS
  obtain ⟨_, hPl, hna, hnr, hgy⟩ := id hGG
  refine lv_aload_n hx hb dX6_set_0 rfl (lv_at hl 0 rfl) ?_
  refine va_get (D := D) (ci := 5) (v := .ref pl) (C := RX6) (T := TX6) (N := 6) hx hb ht inTB_X6 hown hK hP 0 rfl rfl 5 (by decide) (ht _ tb_204) (fun _ h9 => h9) rfl dX6_set_1 ?_
  refine lv_iload_n hx hb dX6_set_4 rfl (lv_at hl 1 rfl) ?_
  refine va_csq (W.runV (As := [.int (iI p)]) (rest := []) ⟨hx, hb, hml, hown, hts⟩ (c_X3_panelAt l D cs pl arr ((v 20).toNat) g (v 21) (v 22) (v 23) p (by omega) (by omega)) (cwV 1 hts (gV tb_314 tb_315 tb_316 tb_7 tb_317) rfl rfl rfl (by decide +kernel) ⟨Nat.le_of_ble_eq_true rfl, Nat.le_of_ble_eq_true rfl⟩) (preV_pi hK hGG.pin) rfl rfl hl.1 rfl (lv_room (Nat.le_of_ble_eq_true rfl)) dX6_set_5 ⟨Nat.le_of_ble_eq_true rfl, Nat.le_of_ble_eq_true rfl⟩) (fun r9 hr9 => ?_)
  subst hr9
  by_cases hq5 : 0 ≤ p ∧ p < ((((v 20).toNat) : Nat) : Int)
  · obtain ⟨y5, hy5, hpan5⟩ := (show ∃ y, g p.toNat = some y ∧ PanelAt D cs M H y (pv v p 0) (pv v p 1) (pv v p 2) (pv v p 3) (pv v p 4) from hgy p.toNat (by omega))
    rw [cF_pos hq5, hy5]
    refine W.eq (g2 := F0 m 8 ls [.ref y5]) rfl ?_
    have hpp : 0 ≤ p ∧ p < v 20 := by omega
    obtain ⟨hvk, hvn, hvf, hvo, hvw⟩ := vL_p hvL hpp
    have hnb := isPr_bd hvn
    have hpb := per_bd (k := pv v p 0) hvn
    have hfb := fOK_bd hvk hvn hvf
    obtain ⟨_, r0, row0, hPn, _, _, _⟩ := id hpan5
    refine lv_astore (lv' := [(4, .ref y5), (0, .ref (ad 0)), (1, .int (iI p)), (2, .int (iI what)), (3, .int (iI x))]) hx hb dX6_set_8 hl (by decide) rfl (fun ls hl => ?_)
    refine lv_aload hx hb dX6_set_10 (lv_at hl 0 rfl) ?_
    refine lv_ifnull hx hb dX6_set_12 ?_
    refine lv_aload hx hb dX6_set_15 (lv_at hl 0 rfl) ?_
    refine lv_iload_n hx hb dX6_set_17 rfl (lv_at hl 3 rfl) ?_
    refine lv_iload_n hx hb dX6_set_18 rfl (lv_at hl 4 rfl) ?_
    refine vp_callSi (W.runV (As := [.int (iI what), .int (iI x)]) (rest := []) ⟨hx, hb, hml, hown, hts⟩ (c_X1_allows l D cs y5 (pv v p 0) (pv v p 1) (pv v p 2) (pv v p 3) (pv v p 4) what x (by omega) (by omega)) (cwV 2 hts (gV tb_318 tb_319 tb_320 tb_5 tb_321) rfl rfl rfl (by decide +kernel) ⟨Nat.le_of_ble_eq_true rfl, Nat.le_of_ble_eq_true rfl⟩) (preV_pan hK hpan5) rfl rfl hl.1 rfl (lv_room (Nat.le_of_ble_eq_true rfl)) dX6_set_19 ⟨Nat.le_of_ble_eq_true rfl, Nat.le_of_ble_eq_true rfl⟩) (fun r9 hr9 => ?_)
    rcases hr9 with ⟨rfl, hb19⟩ | ⟨rfl, hb19⟩
    · refine rv_if_ne (tgt := 27) hx hb dX6_set_22 (by decide) (by decide) (fun _ => ?_) (fun q => absurd q (by decide))
      have hok : okSet v p what x := ⟨hpp, hb19⟩
      have hwb : 0 ≤ what ∧ what ≤ 2 := by rcases hb19 with z | z | z <;> omega
      have hmb : -2147483648 ≤ v (5 * p.toNat + 2 + what.toNat) ∧ v (5 * p.toNat + 2 + what.toNat) < 2147483648 := by rw [← meas_eq (v := v) (p := p) hwb]; rcases (show what = 0 ∨ what = 1 ∨ what = 2 by omega) with z | z | z; (rw [if_pos z]; omega); (rw [if_neg (by omega), if_pos z]; omega); (rw [if_neg (by omega), if_neg (by omega)]; omega)
      refine lv_aload hx hb dX6_set_27 (lv_at hl 0 rfl) ?_
      refine lv_iload_n hx hb dX6_set_29 rfl (lv_at hl 3 rfl) ?_
      refine vp_callSi (W.runV (As := [.int (iI what)]) (rest := []) ⟨hx, hb, hml, hown, hts⟩ (c_X1_measure l D cs y5 (pv v p 0) (pv v p 1) (pv v p 2) (pv v p 3) (pv v p 4) what (by omega)) (cwV 1 hts (gV tb_325 tb_326 tb_327 tb_5 tb_328) rfl rfl rfl (by decide +kernel) ⟨Nat.le_of_ble_eq_true rfl, Nat.le_of_ble_eq_true rfl⟩) (preV_pan hK hpan5) rfl rfl hl.1 rfl (lv_room (Nat.le_of_ble_eq_true rfl)) dX6_set_30 ⟨Nat.le_of_ble_eq_true rfl, Nat.le_of_ble_eq_true rfl⟩) (fun r9 hr9 => ?_)
      subst hr9
      refine rv_top (y := (v (5 * p.toNat + 2 + what.toNat))) (meas_eq hwb) ?_
      refine lv_istore (lv' := [(5, .int (iI (v (5 * p.toNat + 2 + what.toNat)))), (4, .ref y5), (0, .ref (ad 0)), (1, .int (iI p)), (2, .int (iI what)), (3, .int (iI x))]) hx hb dX6_set_33 hl (by decide) rfl (fun ls hl => ?_)
      refine lv_iload hx hb dX6_set_35 (lv_at hl 0 rfl) ?_
      refine lv_iload_n hx hb dX6_set_37 rfl (lv_at hl 5 rfl) ?_
      refine rv_icmp_ne (tgt := 44) hx hb dX6_set_38 (by decide) (by omega) (fun h38 => ?_) (fun h38 => ?_)
      · refine lv_aload_n hx hb dX6_set_44 rfl (lv_at hl 2 rfl) ?_
        refine lv_aload_n hx hb dX6_set_45 rfl (lv_at hl 2 rfl) ?_
        refine va_get (D := D) (ci := 5) (v := .ref pl) (C := RX6) (T := TX6) (N := 6) hx hb ht inTB_X6 hown hK hP 0 rfl rfl 5 (by decide) (ht _ tb_204) (fun _ h9 => h9) rfl dX6_set_46 ?_
        refine lv_iload_n hx hb dX6_set_49 rfl (lv_at hl 3 rfl) ?_
        refine lv_aload hx hb dX6_set_50 (lv_at hl 1 rfl) ?_
        refine lv_iload_n hx hb dX6_set_52 rfl (lv_at hl 4 rfl) ?_
        refine lv_iload_n hx hb dX6_set_53 rfl (lv_at hl 5 rfl) ?_
        have hFc := va_free (wc := ([] : va_W)) hD hS hA [] rfl
        have hPc := hP.sub (ws' := ([] : va_W)) [] rfl
        have hDc := hD.sub (ws' := ([] : va_W)) [] (by decide) rfl
        refine va_callr (va_runV (As := [.int (iI what), .int (iI x)]) (rest := [.int (iI p), .ref pl, .ref (ad 0)]) ⟨hx, hb, hml, hown, hts⟩ (c_X1_withMeasure l D cs H.size M y5 (pv v p 0) (pv v p 1) (pv v p 2) (pv v p 3) (pv v p 4) what x (by omega) (set_vP hvL hok)) (cwV 2 hts (gV tb_329 tb_330 tb_331 tb_5 tb_332) rfl rfl rfl (by decide +kernel) ⟨Nat.le_of_ble_eq_true rfl, Nat.le_of_ble_eq_true rfl⟩) (preV_M (X := fun U H => (∀ q, M q → q < H.size) ∧ PanelAt D cs M H y5 (pv v p 0) (pv v p 1) (pv v p 2) (pv v p 3) (pv v p 4)) Stb_H hK (PanelAt.recv hK hpan5) hPc hDc ⟨hXI.1.1, hpan5⟩) rfl rfl hl.1 rfl (lv_room (Nat.le_of_ble_eq_true rfl)) dX6_set_54 ⟨Nat.le_of_ble_eq_true rfl, Nat.le_of_ble_eq_true rfl⟩) hS (fun q _ h => hFc q h) hFc (fun u9 r54 t9 H9 locs ht9 hvm9 hw9 hB9 hz9 hk9 hS => ?_)
        obtain ⟨hf54_0, hP1, hD1⟩ := hB9
        rw [ht9] at hP1
        rw [ht9] at hf54_0
        obtain ⟨hPj, hDj⟩ := va_join (wr := [_, _, _, _, _, _, _, _, _, _, _, _, _, _]) hP hD [] [0, 1, 2, 3, 4, 5, 6, 7, 8, 9, 10, 11, 12, 13] rfl rfl (by decide) (by decide) hk9 hFc hP1 hD1
        generalize H9 = H at *
        have hP : va_P D classes (xW cs ad len pl rlen rpc run_ rbo rcw rt tx gp nu kept gq swl sun sbo scw bo cu lo wh dps alk bof us bl lg) H := hPj
        have hD : va_D A (xW cs ad len pl rlen rpc run_ rbo rcw rt tx gp nu kept gq swl sun sbo scw bo cu lo wh dps alk bof us bl lg) := hDj
        have hXI := XI.inS hX0 (fun q z => hM q (Mw_xW q z)) hAe hS
        have hFc := va_free (wc := ([] : va_W)) hD hS hA [] rfl
        have hPc := hP.sub (ws' := ([] : va_W)) [] rfl
        have hDc := hD.sub (ws' := ([] : va_W)) [] (by decide) rfl
        refine va_callr (va_runV (As := [.int (iI p), .ref r54]) (rest := [.ref (ad 0)]) ⟨hx, hb, hml, hown, hts⟩ (c_X3_withPanel l D cs H.size M pl v p r54 (upI v (5 * p.toNat + 2 + what.toNat) x) (by omega) (vL_put hvL hok) (fun j h1 h2 => upI_n (by omega)) (fun q j h1 h2 h3 => upI_n (by omega))) (cwV 2 hts (gV tb_335 tb_336 tb_337 tb_7 tb_338) rfl rfl rfl (by decide +kernel) ⟨Nat.le_of_ble_eq_true rfl, Nat.le_of_ble_eq_true rfl⟩) (preV_M (X := fun U H => ((∀ q, M q → q < H.size) ∧ PlanAt D cs M H pl v ∧ PanelAt D cs M H r54 (pv (upI v (5 * p.toNat + 2 + what.toNat) x) p 0) (pv (upI v (5 * p.toNat + 2 + what.toNat) x) p 1) (pv (upI v (5 * p.toNat + 2 + what.toNat) x) p 2) (pv (upI v (5 * p.toNat + 2 + what.toNat) x) p 3) (pv (upI v (5 * p.toNat + 2 + what.toNat) x) p 4)) ∧ ST U) (Stb_and Stb_H ST_stb) hK (PlanAt.recv hK hXI.1.2.1) hPc hDc ⟨⟨hXI.1.1, hXI.1.2.1, by obtain ⟨e0, e1, e2, e3, e4⟩ := set_pv (v := v) (p := p) (x := x) hwb; rw [e0, e1, e2, e3, e4]; exact hf54_0⟩, hXI.2.2⟩) rfl rfl hl.1 rfl (lv_room (Nat.le_of_ble_eq_true rfl)) dX6_set_57 ⟨Nat.le_of_ble_eq_true rfl, Nat.le_of_ble_eq_true rfl⟩) hS (fun q _ h => hFc q h) hFc (fun u9 r57 t9 H9 locs ht9 hvm9 hw9 hB9 hz9 hk9 hS => ?_)
        obtain ⟨hf57_0, hP1, hD1⟩ := hB9
        rw [ht9] at hP1
        rw [ht9] at hf57_0
        obtain ⟨hPj, hDj⟩ := va_join (wr := [_, _, _, _, _, _, _, _, _, _, _, _, _, _]) hP hD [] [0, 1, 2, 3, 4, 5, 6, 7, 8, 9, 10, 11, 12, 13] rfl rfl (by decide) (by decide) hk9 hFc hP1 hD1
        generalize H9 = H at *
        have hP : va_P D classes (xW cs ad len pl rlen rpc run_ rbo rcw rt tx gp nu kept gq swl sun sbo scw bo cu lo wh dps alk bof us bl lg) H := hPj
        have hD : va_D A (xW cs ad len pl rlen rpc run_ rbo rcw rt tx gp nu kept gq swl sun sbo scw bo cu lo wh dps alk bof us bl lg) := hDj
        have hXI := XI.inS hX0 (fun q z => hM q (Mw_xW q z)) hAe hS
        have hFc := va_free (wc := (xW cs ad len pl rlen rpc run_ rbo rcw rt tx gp nu kept gq swl sun sbo scw bo cu lo wh dps alk bof us bl lg)) hD hS hA [0, 1, 2, 3, 4, 5, 6, 7, 8, 9, 10, 11, 12, 13] rfl
        refine va_callv (va_runV (As := [.ref r57]) (rest := []) ⟨hx, hb, hml, hown, hts⟩ (c_X6_change l D cs ad H.size len pl rlen rpc run_ rbo rcw rt tx gp nu kept gq swl sun sbo scw bo cu lo wh dps alk bof us bl lg M v bf r57 (upI v (5 * p.toNat + 2 + what.toNat) x) hM hkp hlen) (cwV 1 hts (gV tb_348 tb_350 tbs_8 tb_1 tb_351) rfl rfl rfl (by decide +kernel) ⟨Nat.le_of_ble_eq_true rfl, Nat.le_of_ble_eq_true rfl⟩) (preV_M (X := fun U H => XI D cs M pl v kept gq bf U H ∧ PlanAt D cs M H r57 (upI v (5 * p.toNat + 2 + what.toNat) x)) (Stb_and XI_stb Stb_H) hK (va_recv hK hP (ci := 5) (q0 := 0) rfl rfl) hP hD ⟨hXI, hf57_0⟩) rfl rfl hl.1 rfl (lv_room (Nat.le_of_ble_eq_true rfl)) dX6_set_60 ⟨Nat.le_of_ble_eq_true rfl, Nat.le_of_ble_eq_true rfl⟩) hS (fun q _ h => hFc q h) hFc (fun u9 t9 H9 locs ht9 hvm9 hw9 hB9 hz9 hk9 hS => ?_)
        obtain ⟨kept2_60, gq2_60, hf60_0, hf60_1, hP1, hD1⟩ := hB9
        rw [ht9] at hP1
        rw [ht9] at hf60_0
        rw [ht9] at hf60_1
        have hP := hP1
        have hD := hD1.weaken (fun _ _ _ h => hFc _ h)
        generalize H9 = H at *
        have hP : va_P D classes (xW cs ad len r57 rlen rpc run_ rbo rcw rt tx gp nu kept2_60 gq2_60 swl sun sbo scw bo cu lo wh dps alk bof us bl lg) H := hP
        have hD : va_D A (xW cs ad len r57 rlen rpc run_ rbo rcw rt tx gp nu kept2_60 gq2_60 swl sun sbo scw bo cu lo wh dps alk bof us bl lg) := hD
        refine lv_iload hx hb dX6_set_63 (lv_at hl 0 rfl) ?_
        subst hQ
        exact W.iret hx hb hr (fun t9 ht9 hW9 => ⟨⟨_, _, rfl, rfl, ⟨r57, kept2_60, gq2_60, by rw [aSet, cif_pos hok, aBec, cif_neg h38], fun v2 un2 bf2 hR => by obtain ⟨rfl, hN⟩ := (hR.2 hok).2 h38; rw [ht9]; exact ⟨hf60_0, hf60_1 un2 bf2 hN⟩, by rw [ht9]; exact hP, by rw [hAe]; exact hD⟩⟩, by rw [hAe]; exact hS.F ht9⟩) (by rw [hAe]; exact hS.2.2) dX6_set_65
      · refine rv_bipush hx hb dX6_set_41 (by decide) ?_
        refine W.widen (k := 4) (n := 46) (by omega) (by omega) ?_
        subst hQ
        exact W.iret hx hb hr (fun t9 ht9 hW9 => ⟨⟨_, _, rfl, rfl, ⟨pl, kept, gq, by rw [aSet, cif_pos hok, aBec, cif_pos h38], fun v2 un2 bf2 hR => by obtain ⟨rfl, rfl, rfl⟩ := (hR.2 hok).1 h38; rw [ht9]; exact ⟨hXI.1.2.1, rfl, hXI.1.2.2⟩, by rw [ht9]; exact hP, by rw [hAe]; exact hD⟩⟩, by rw [hAe]; exact hS.F ht9⟩) (by rw [hAe]; exact hS.2.2) dX6_set_43
    · refine rv_if_ne (tgt := 27) hx hb dX6_set_22 (by decide) (by decide) (fun q => absurd q (by decide)) (fun _ => ?_)
      refine rv_iconst hx hb dX6_set_25 ?_
      refine W.widen (k := 4) (n := 46) (by omega) (by omega) ?_
      subst hQ
      exact W.iret hx hb hr (fun t9 ht9 hW9 => ⟨⟨_, _, rfl, rfl, ⟨pl, kept, gq, by rw [aSet, cif_neg (fun q => by first | exact hb19 q.2 | (have := q.1; omega))], fun v2 un2 bf2 hR => by obtain ⟨rfl, rfl, rfl⟩ := hR.1 (fun q => by first | exact hb19 q.2 | (have := q.1; omega)); rw [ht9]; exact ⟨hXI.1.2.1, rfl, hXI.1.2.2⟩, by rw [ht9]; exact hP, by rw [hAe]; exact hD⟩⟩, by rw [hAe]; exact hS.F ht9⟩) (by rw [hAe]; exact hS.2.2) dX6_set_26
  · rw [cF_neg hq5]
    refine W.eq (g2 := F0 m 8 ls [.null]) rfl ?_
    refine lv_astoreN (lv' := [(4, .null), (0, .ref (ad 0)), (1, .int (iI p)), (2, .int (iI what)), (3, .int (iI x))]) hx hb dX6_set_8 hl (by decide) rfl (fun ls hl => ?_)
    refine lv_aloadN hx hb dX6_set_10 (lv_at hl 0 rfl) ?_
    refine lv_ifnullN (tgt := 25) hx hb dX6_set_12 (by decide) ?_
    refine rv_iconst hx hb dX6_set_25 ?_
    refine W.widen (k := 4) (n := 46) (by omega) (by omega) ?_
    subst hQ
    exact W.iret hx hb hr (fun t9 ht9 hW9 => ⟨⟨_, _, rfl, rfl, ⟨pl, kept, gq, by rw [aSet, cif_neg (fun q => by first | exact hb19 q.2 | (have := q.1; omega))], fun v2 un2 bf2 hR => by obtain ⟨rfl, rfl, rfl⟩ := hR.1 (fun q => by first | exact hb19 q.2 | (have := q.1; omega)); rw [ht9]; exact ⟨hXI.1.2.1, rfl, hXI.1.2.2⟩, by rw [ht9]; exact hP, by rw [hAe]; exact hD⟩⟩, by rw [hAe]; exact hS.F ht9⟩) (by rw [hAe]; exact hS.2.2) dX6_set_26

abbrev rm_X6_tell : Room := { frames := 3, cells := 1, slots := 4, locals := 58 }
set_option maxHeartbeats 8000000 in
set_option maxRecDepth 100000 in
/-- tell -/
theorem c_X6_tell (l : Launch) (D : va_G) (cs : Nat → ClassId) (ad : Nat → Nat) (sz : Nat) (len : Int) (pl : Nat) (rlen : Int) (rpc : Int) (run_ : Int) (rbo : Int) (rcw : Int) (rt : Value) (tx : Nat → Int) (gp : Nat → Option Nat) (nu : Nat → Int) (kept : Int) (gq : Nat → Option Nat) (swl : Int) (sun : Int) (sbo : Int) (scw : Int) (bo : Int) (cu : Int) (lo : Int) (wh : Int) (dps : Nat → Int) (alk : Nat → Int) (bof : Nat → Int) (us : Nat → Int) (bl : Nat → Int) (lg : Nat → Int) (M : Nat → Prop) (v : Nat → Int) (bf : Nat → Int) (what : Int) (x : Int) (hM : ∀ q, inAd ad 0 14 q → M q) (hkp : 0 ≤ kept ∧ kept ≤ 6) (hlen : 0 ≤ len ∧ len ≤ 200) (hw : -2147483648 ≤ what ∧ what < 2147483648) (hx1 : -2147483648 ≤ x ∧ x < 2147483648) : Met l yX6_tell (Cond.code yX6_tell cX6_tell 4 (some .int) :: TB) rm_X6_tell (va_Pc [.ref (ad 0), .int (iI what), .int (iI x)] (MPre D cs sz (xW cs ad len pl rlen rpc run_ rbo rcw rt tx gp nu kept gq swl sun sbo scw bo cu lo wh dps alk bof us bl lg) (fun U H => XI D cs M pl v kept gq bf U H))) (va_Qi (fun (r u : Int32) => r = u) (fun r t => ∃ (pl2 : Nat) (kept2 : Int) (gq2 : Nat → Option Nat), (r = iI (aTell v what x)) ∧ (∀ (v2 : Nat → Int) (un2 : Int) (bf2 : Nat → Int), (¬ okTell what x → v2 = v ∧ un2 = kept ∧ bf2 = bf) ∧ (okTell what x → Beca v kept bf (21 + what.toNat) x v2 un2 bf2) → XK D cs M t.heap pl2 kept2 gq2 v2 un2 bf2) ∧ va_P D classes (xW cs ad len pl2 rlen rpc run_ rbo rcw rt tx gp nu kept2 gq2 swl sun sbo scw bo cu lo wh dps alk bof us bl lg) t.heap ∧ va_D (va_A (xW cs ad len pl rlen rpc run_ rbo rcw rt tx gp nu kept gq swl sun sbo scw bo cu lo wh dps alk bof us bl lg) sz) (xW cs ad len pl2 rlen rpc run_ rbo rcw rt tx gp nu kept2 gq2 swl sun sbo scw bo cu lo wh dps alk bof us bl lg)) (va_A (xW cs ad len pl rlen rpc run_ rbo rcw rt tx gp nu kept gq swl sun sbo scw bo cu lo wh dps alk bof us bl lg) sz)) 1 4 (va_A (xW cs ad len pl rlen rpc run_ rbo rcw rt tx gp nu kept gq swl sun sbo scw bo cu lo wh dps alk bof us bl lg) sz) := by
  refine enter (cc := cX6_tell) (maxL := 4) (ret := (some .int)) (by decide) (Nat.le_of_ble_eq_true rfl) ?_
  intro pg ev s m below meth c Q ls hx hb hml hown hts hr hlocks hnm ⟨hsz, hP, hD0, hK, hX0⟩ hl hQ
  have ht : ∀ w ∈ TB, w.before _ s = true := fun w h => hts w (List.mem_cons_of_mem _ h)
  subst hsz
  have hD := hD0.self (sz := s.heap.size)
  obtain ⟨A, hAe⟩ : ∃ A, va_A (xW cs ad len pl rlen rpc run_ rbo rcw rt tx gp nu kept gq swl sun sbo scw bo cu lo wh dps alk bof us bl lg) s.heap.size = A := ⟨_, rfl⟩
  rw [hAe] at hD
  have hA : ∀ q : Nat, s.heap.size ≤ q → A q := fun q h => by rw [← hAe]; exact Or.inr h
  obtain ⟨H, hH⟩ : ∃ H, H = s.heap := ⟨_, rfl⟩
  obtain ⟨locs, hlocs⟩ : ∃ locs : List Loc, locs = [] := ⟨_, rfl⟩
  have hS : va_S A s.heap H locs := by rw [hH, hlocs]; exact va_S.rf
  rw [← hH] at hP
  suffices hgo : W pg l ev rm_X6_tell s m [.ref (ad 0), .int (iI what), .int (iI x)].toArray below meth c H locs 0 0 Q (F0 m 0 ls []) by rw [hH, hlocs] at hgo; exact hgo
  have hl : lv_has ls 4 [(0, .ref (ad 0)), (1, .int (iI what)), (2, .int (iI x))] := hl
  have hXI := XI.inS hX0 (fun q z => hM q (Mw_xW q z)) hAe (show va_S A s.heap H locs from hS)
  have hvL := hX0.1.2.1.1
  obtain ⟨hv20, hv21, hv22, hv23, hvp⟩ := id hvL
  obtain ⟨arr, g, hG0⟩ := hX0.1.2.1.g
  refine lv_iload_n hx hb dX6_tell_0 rfl (lv_at hl 1 rfl) ?_
  refine lv_iload_n hx hb dX6_tell_1 rfl (lv_at hl 2 rfl) ?_
  refine vp_callSi (W.runS (As := [.int (iI what), .int (iI x)]) (rest := []) ⟨hx, hb, hml, hown, hts⟩ (c_X3_allows l what x (by omega) (by omega)) (va_cwS 2 hts (gS tb_360 tb_266 tb_7 tb_267) rfl rfl rfl (by decide +kernel) ⟨Nat.le_of_ble_eq_true rfl, Nat.le_of_ble_eq_true rfl⟩) preS0 rfl rfl hl.1 rfl (lv_room (Nat.le_of_ble_eq_true rfl)) dX6_tell_2 ⟨Nat.le_of_ble_eq_true rfl, Nat.le_of_ble_eq_true rfl⟩) (fun r9 hr9 => ?_)
  rcases hr9 with ⟨rfl, hb2⟩ | ⟨rfl, hb2⟩
  · refine rv_if_ne (tgt := 10) hx hb dX6_tell_5 (by decide) (by decide) (fun _ => ?_) (fun q => absurd q (by decide))
    have hwb : 0 ≤ what ∧ what ≤ 2 := by have hz := hb2; unfold okTell at hz; omega
    have hmb : -2147483648 ≤ v (21 + what.toNat) ∧ v (21 + what.toNat) < 2147483648 := by rcases (show what = 0 ∨ what = 1 ∨ what = 2 by omega) with z | z | z; (rw [show 21 + what.toNat = 21 by omega]; omega); (rw [show 21 + what.toNat = 22 by omega]; omega); (rw [show 21 + what.toNat = 23 by omega]; omega)
    refine lv_aload_n hx hb dX6_tell_10 rfl (lv_at hl 0 rfl) ?_
    refine va_get (D := D) (ci := 5) (v := .ref pl) (C := RX6) (T := TX6) (N := 6) hx hb ht inTB_X6 hown hK hP 0 rfl rfl 5 (by decide) (ht _ tb_204) (fun _ h9 => h9) rfl dX6_tell_11 ?_
    refine lv_iload_n hx hb dX6_tell_14 rfl (lv_at hl 1 rfl) ?_
    refine vp_callSi (W.runV (As := [.int (iI what)]) (rest := []) ⟨hx, hb, hml, hown, hts⟩ (c_X3_measure l D cs pl v what (by omega)) (cwV 1 hts (gV tb_361 tb_362 tb_363 tb_7 tb_364) rfl rfl rfl (by decide +kernel) ⟨Nat.le_of_ble_eq_true rfl, Nat.le_of_ble_eq_true rfl⟩) (preV_pl hK hXI.1.2.1) rfl rfl hl.1 rfl (lv_room (Nat.le_of_ble_eq_true rfl)) dX6_tell_15 ⟨Nat.le_of_ble_eq_true rfl, Nat.le_of_ble_eq_true rfl⟩) (fun r9 hr9 => ?_)
    subst hr9
    refine lv_istore_n (lv' := [(3, .int (iI (v (21 + (what).toNat)))), (0, .ref (ad 0)), (1, .int (iI what)), (2, .int (iI x))]) hx hb dX6_tell_18 rfl hl (by decide) rfl (fun ls hl => ?_)
    refine lv_iload_n hx hb dX6_tell_19 rfl (lv_at hl 0 rfl) ?_
    refine lv_iload_n hx hb dX6_tell_20 rfl (lv_at hl 3 rfl) ?_
    refine rv_icmp_ne (tgt := 27) hx hb dX6_tell_21 (by decide) (by omega) (fun h21 => ?_) (fun h21 => ?_)
    · refine lv_aload_n hx hb dX6_tell_27 rfl (lv_at hl 1 rfl) ?_
      refine lv_aload_n hx hb dX6_tell_28 rfl (lv_at hl 1 rfl) ?_
      refine va_get (D := D) (ci := 5) (v := .ref pl) (C := RX6) (T := TX6) (N := 6) hx hb ht inTB_X6 hown hK hP 0 rfl rfl 5 (by decide) (ht _ tb_204) (fun _ h9 => h9) rfl dX6_tell_29 ?_
      refine lv_iload_n hx hb dX6_tell_32 rfl (lv_at hl 2 rfl) ?_
      refine lv_iload_n hx hb dX6_tell_33 rfl (lv_at hl 3 rfl) ?_
      have hFc := va_free (wc := ([] : va_W)) hD hS hA [] rfl
      have hPc := hP.sub (ws' := ([] : va_W)) [] rfl
      have hDc := hD.sub (ws' := ([] : va_W)) [] (by decide) rfl
      refine va_callr (va_runV (As := [.int (iI what), .int (iI x)]) (rest := [.ref (ad 0)]) ⟨hx, hb, hml, hown, hts⟩ (c_X3_withMeasure l D cs H.size M pl v what x hb2) (cwV 2 hts (gV tb_365 tb_366 tb_367 tb_7 tb_368) rfl rfl rfl (by decide +kernel) ⟨Nat.le_of_ble_eq_true rfl, Nat.le_of_ble_eq_true rfl⟩) (preV_M (X := fun U H => (∀ q, M q → q < H.size) ∧ PlanAt D cs M H pl v) Stb_H hK (PlanAt.recv hK hXI.1.2.1) hPc hDc ⟨hXI.1.1, hXI.1.2.1⟩) rfl rfl hl.1 rfl (lv_room (Nat.le_of_ble_eq_true rfl)) dX6_tell_34 ⟨Nat.le_of_ble_eq_true rfl, Nat.le_of_ble_eq_true rfl⟩) hS (fun q _ h => hFc q h) hFc (fun u9 r34 t9 H9 locs ht9 hvm9 hw9 hB9 hz9 hk9 hS => ?_)
      obtain ⟨hf34_0, hP1, hD1⟩ := hB9
      rw [ht9] at hP1
      rw [ht9] at hf34_0
      obtain ⟨hPj, hDj⟩ := va_join (wr := [_, _, _, _, _, _, _, _, _, _, _, _, _, _]) hP hD [] [0, 1, 2, 3, 4, 5, 6, 7, 8, 9, 10, 11, 12, 13] rfl rfl (by decide) (by decide) hk9 hFc hP1 hD1
      generalize H9 = H at *
      have hP : va_P D classes (xW cs ad len pl rlen rpc run_ rbo rcw rt tx gp nu kept gq swl sun sbo scw bo cu lo wh dps alk bof us bl lg) H := hPj
      have hD : va_D A (xW cs ad len pl rlen rpc run_ rbo rcw rt tx gp nu kept gq swl sun sbo scw bo cu lo wh dps alk bof us bl lg) := hDj
      have hXI := XI.inS hX0 (fun q z => hM q (Mw_xW q z)) hAe hS
      have hFc := va_free (wc := (xW cs ad len pl rlen rpc run_ rbo rcw rt tx gp nu kept gq swl sun sbo scw bo cu lo wh dps alk bof us bl lg)) hD hS hA [0, 1, 2, 3, 4, 5, 6, 7, 8, 9, 10, 11, 12, 13] rfl
      refine va_callv (va_runV (As := [.ref r34]) (rest := []) ⟨hx, hb, hml, hown, hts⟩ (c_X6_change l D cs ad H.size len pl rlen rpc run_ rbo rcw rt tx gp nu kept gq swl sun sbo scw bo cu lo wh dps alk bof us bl lg M v bf r34 (upI v (21 + what.toNat) x) hM hkp hlen) (cwV 1 hts (gV tb_348 tb_350 tbs_8 tb_1 tb_351) rfl rfl rfl (by decide +kernel) ⟨Nat.le_of_ble_eq_true rfl, Nat.le_of_ble_eq_true rfl⟩) (preV_M (X := fun U H => XI D cs M pl v kept gq bf U H ∧ PlanAt D cs M H r34 (upI v (21 + what.toNat) x)) (Stb_and XI_stb Stb_H) hK (va_recv hK hP (ci := 5) (q0 := 0) rfl rfl) hP hD ⟨hXI, hf34_0⟩) rfl rfl hl.1 rfl (lv_room (Nat.le_of_ble_eq_true rfl)) dX6_tell_37 ⟨Nat.le_of_ble_eq_true rfl, Nat.le_of_ble_eq_true rfl⟩) hS (fun q _ h => hFc q h) hFc (fun u9 t9 H9 locs ht9 hvm9 hw9 hB9 hz9 hk9 hS => ?_)
      obtain ⟨kept2_37, gq2_37, hf37_0, hf37_1, hP1, hD1⟩ := hB9
      rw [ht9] at hP1
      rw [ht9] at hf37_0
      rw [ht9] at hf37_1
      have hP := hP1
      have hD := hD1.weaken (fun _ _ _ h => hFc _ h)
      generalize H9 = H at *
      have hP : va_P D classes (xW cs ad len r34 rlen rpc run_ rbo rcw rt tx gp nu kept2_37 gq2_37 swl sun sbo scw bo cu lo wh dps alk bof us bl lg) H := hP
      have hD : va_D A (xW cs ad len r34 rlen rpc run_ rbo rcw rt tx gp nu kept2_37 gq2_37 swl sun sbo scw bo cu lo wh dps alk bof us bl lg) := hD
      refine lv_iload_n hx hb dX6_tell_40 rfl (lv_at hl 0 rfl) ?_
      subst hQ
      exact W.iret hx hb hr (fun t9 ht9 hW9 => ⟨⟨_, _, rfl, rfl, ⟨r34, kept2_37, gq2_37, by rw [aTell, cif_pos hb2, aBec, cif_neg h21], fun v2 un2 bf2 hR => by obtain ⟨rfl, hN⟩ := (hR.2 hb2).2 h21; rw [ht9]; exact ⟨hf37_0, hf37_1 un2 bf2 hN⟩, by rw [ht9]; exact hP, by rw [hAe]; exact hD⟩⟩, by rw [hAe]; exact hS.F ht9⟩) (by rw [hAe]; exact hS.2.2) dX6_tell_41
    · refine rv_bipush hx hb dX6_tell_24 (by decide) ?_
      refine W.widen (k := 1) (n := 4) (by omega) (by omega) ?_
      subst hQ
      exact W.iret hx hb hr (fun t9 ht9 hW9 => ⟨⟨_, _, rfl, rfl, ⟨pl, kept, gq, by rw [aTell, cif_pos hb2, aBec, cif_pos h21], fun v2 un2 bf2 hR => by obtain ⟨rfl, rfl, rfl⟩ := (hR.2 hb2).1 h21; rw [ht9]; exact ⟨hXI.1.2.1, rfl, hXI.1.2.2⟩, by rw [ht9]; exact hP, by rw [hAe]; exact hD⟩⟩, by rw [hAe]; exact hS.F ht9⟩) (by rw [hAe]; exact hS.2.2) dX6_tell_26
  · refine rv_if_ne (tgt := 10) hx hb dX6_tell_5 (by decide) (by decide) (fun q => absurd q (by decide)) (fun _ => ?_)
    refine rv_iconst hx hb dX6_tell_8 ?_
    refine W.widen (k := 1) (n := 4) (by omega) (by omega) ?_
    subst hQ
    exact W.iret hx hb hr (fun t9 ht9 hW9 => ⟨⟨_, _, rfl, rfl, ⟨pl, kept, gq, by rw [aTell, cif_neg hb2], fun v2 un2 bf2 hR => by obtain ⟨rfl, rfl, rfl⟩ := hR.1 hb2; rw [ht9]; exact ⟨hXI.1.2.1, rfl, hXI.1.2.2⟩, by rw [ht9]; exact hP, by rw [hAe]; exact hD⟩⟩, by rw [hAe]; exact hS.F ht9⟩) (by rw [hAe]; exact hS.2.2) dX6_tell_9

abbrev rm_X6_take : Room := { frames := 3, cells := 2, slots := 8, locals := 59 }
set_option maxHeartbeats 8000000 in
set_option maxRecDepth 100000 in
/-- take -/
theorem c_X6_take (l : Launch) (D : va_G) (cs : Nat → ClassId) (ad : Nat → Nat) (sz : Nat) (len : Int) (pl : Nat) (rlen : Int) (rpc : Int) (run_ : Int) (rbo : Int) (rcw : Int) (rt : Value) (tx : Nat → Int) (gp : Nat → Option Nat) (nu : Nat → Int) (kept : Int) (gq : Nat → Option Nat) (swl : Int) (sun : Int) (sbo : Int) (scw : Int) (bo : Int) (cu : Int) (lo : Int) (wh : Int) (dps : Nat → Int) (alk : Nat → Int) (bof : Nat → Int) (us : Nat → Int) (bl : Nat → Int) (lg : Nat → Int) (M : Nat → Prop) (v : Nat → Int) (bf : Nat → Int) (p : Int) (hM : ∀ q, inAd ad 0 14 q → M q) (hkp : 0 ≤ kept ∧ kept ≤ 6) (hlen : 0 ≤ len ∧ len ≤ 200) (hp0 : -2147483648 ≤ p ∧ p < 2147483648) : Met l yX6_take (Cond.code yX6_take cX6_take 2 (some .int) :: TB) rm_X6_take (va_Pc [.ref (ad 0), .int (iI p)] (MPre D cs sz (xW cs ad len pl rlen rpc run_ rbo rcw rt tx gp nu kept gq swl sun sbo scw bo cu lo wh dps alk bof us bl lg) (fun U H => XI D cs M pl v kept gq bf U H))) (va_Qi (fun (r u : Int32) => r = u) (fun r t => ∃ (pl2 : Nat) (kept2 : Int) (gq2 : Nat → Option Nat), (r = iI (cif (0 ≤ p ∧ p < v 20) (v 20 - 1) (-1))) ∧ (∀ (v2 : Nat → Int) (un2 : Int) (bf2 : Nat → Int), (¬ (0 ≤ p ∧ p < v 20) → v2 = v ∧ un2 = kept ∧ bf2 = bf) ∧ ((0 ≤ p ∧ p < v 20) → (v2 = tkV v p.toNat) ∧ Noted kept bf v un2 bf2) → XK D cs M t.heap pl2 kept2 gq2 v2 un2 bf2) ∧ va_P D classes (xW cs ad len pl2 rlen rpc run_ rbo rcw rt tx gp nu kept2 gq2 swl sun sbo scw bo cu lo wh dps alk bof us bl lg) t.heap ∧ va_D (va_A (xW cs ad len pl rlen rpc run_ rbo rcw rt tx gp nu kept gq swl sun sbo scw bo cu lo wh dps alk bof us bl lg) sz) (xW cs ad len pl2 rlen rpc run_ rbo rcw rt tx gp nu kept2 gq2 swl sun sbo scw bo cu lo wh dps alk bof us bl lg)) (va_A (xW cs ad len pl rlen rpc run_ rbo rcw rt tx gp nu kept gq swl sun sbo scw bo cu lo wh dps alk bof us bl lg) sz)) 2 8 (va_A (xW cs ad len pl rlen rpc run_ rbo rcw rt tx gp nu kept gq swl sun sbo scw bo cu lo wh dps alk bof us bl lg) sz) := by
  refine enter (cc := cX6_take) (maxL := 2) (ret := (some .int)) (by decide) (Nat.le_of_ble_eq_true rfl) ?_
  intro pg ev s m below meth c Q ls hx hb hml hown hts hr hlocks hnm ⟨hsz, hP, hD0, hK, hX0⟩ hl hQ
  have ht : ∀ w ∈ TB, w.before _ s = true := fun w h => hts w (List.mem_cons_of_mem _ h)
  subst hsz
  have hD := hD0.self (sz := s.heap.size)
  obtain ⟨A, hAe⟩ : ∃ A, va_A (xW cs ad len pl rlen rpc run_ rbo rcw rt tx gp nu kept gq swl sun sbo scw bo cu lo wh dps alk bof us bl lg) s.heap.size = A := ⟨_, rfl⟩
  rw [hAe] at hD
  have hA : ∀ q : Nat, s.heap.size ≤ q → A q := fun q h => by rw [← hAe]; exact Or.inr h
  obtain ⟨H, hH⟩ : ∃ H, H = s.heap := ⟨_, rfl⟩
  obtain ⟨locs, hlocs⟩ : ∃ locs : List Loc, locs = [] := ⟨_, rfl⟩
  have hS : va_S A s.heap H locs := by rw [hH, hlocs]; exact va_S.rf
  rw [← hH] at hP
  suffices hgo : W pg l ev rm_X6_take s m [.ref (ad 0), .int (iI p)].toArray below meth c H locs 0 0 Q (F0 m 0 ls []) by rw [hH, hlocs] at hgo; exact hgo
  have hl : lv_has ls 2 [(0, .ref (ad 0)), (1, .int (iI p))] := hl
  have hXI := XI.inS hX0 (fun q z => hM q (Mw_xW q z)) hAe (show va_S A s.heap H locs from hS)
  have hvL := hX0.1.2.1.1
  obtain ⟨hv20, hv21, hv22, hv23, hvp⟩ := id hvL
  obtain ⟨arr, g, hG0⟩ := hX0.1.2.1.g
  have hGG := hG0.inS (fun q z => hM q (Mw_xW q z)) hAe hS
  obtain ⟨_, hPl, hna, hnr, hgy⟩ := id hGG
  refine lv_aload_n hx hb dX6_take_0 rfl (lv_at hl 0 rfl) ?_
  refine va_get (D := D) (ci := 5) (v := .ref pl) (C := RX6) (T := TX6) (N := 6) hx hb ht inTB_X6 hown hK hP 0 rfl rfl 5 (by decide) (ht _ tb_204) (fun _ h9 => h9) rfl dX6_take_1 ?_
  refine lv_iload_n hx hb dX6_take_4 rfl (lv_at hl 1 rfl) ?_
  refine va_csq (W.runV (As := [.int (iI p)]) (rest := []) ⟨hx, hb, hml, hown, hts⟩ (c_X3_panelAt l D cs pl arr ((v 20).toNat) g (v 21) (v 22) (v 23) p (by omega) (by omega)) (cwV 1 hts (gV tb_314 tb_315 tb_316 tb_7 tb_317) rfl rfl rfl (by decide +kernel) ⟨Nat.le_of_ble_eq_true rfl, Nat.le_of_ble_eq_true rfl⟩) (preV_pi hK hGG.pin) rfl rfl hl.1 rfl (lv_room (Nat.le_of_ble_eq_true rfl)) dX6_take_5 ⟨Nat.le_of_ble_eq_true rfl, Nat.le_of_ble_eq_true rfl⟩) (fun r9 hr9 => ?_)
  subst hr9
  by_cases hq5 : 0 ≤ p ∧ p < ((((v 20).toNat) : Nat) : Int)
  · obtain ⟨y5, hy5, hpan5⟩ := (show ∃ y, g p.toNat = some y ∧ PanelAt D cs M H y (pv v p 0) (pv v p 1) (pv v p 2) (pv v p 3) (pv v p 4) from hgy p.toNat (by omega))
    rw [cF_pos hq5, hy5]
    refine W.eq (g2 := F0 m 8 ls [.ref y5]) rfl ?_
    have hpp : 0 ≤ p ∧ p < v 20 := by omega
    obtain ⟨hvk, hvn, hvf, hvo, hvw⟩ := vL_p hvL hpp
    have hnb := isPr_bd hvn
    have hpb := per_bd (k := pv v p 0) hvn
    have hfb := fOK_bd hvk hvn hvf
    obtain ⟨_, r0, row0, hPn, _, _, _⟩ := id hpan5
    refine lv_ifnonnull (tgt := 13) hx hb dX6_take_8 (by decide) ?_
    refine lv_aload_n hx hb dX6_take_13 rfl (lv_at hl 0 rfl) ?_
    refine lv_aload_n hx hb dX6_take_14 rfl (lv_at hl 0 rfl) ?_
    refine va_get (D := D) (ci := 5) (v := .ref pl) (C := RX6) (T := TX6) (N := 6) hx hb ht inTB_X6 hown hK hP 0 rfl rfl 5 (by decide) (ht _ tb_204) (fun _ h9 => h9) rfl dX6_take_15 ?_
    refine lv_iload_n hx hb dX6_take_18 rfl (lv_at hl 1 rfl) ?_
    have hFc := va_free (wc := ([] : va_W)) hD hS hA [] rfl
    have hPc := hP.sub (ws' := ([] : va_W)) [] rfl
    have hDc := hD.sub (ws' := ([] : va_W)) [] (by decide) rfl
    refine va_callr (va_runV (As := [.int (iI p)]) (rest := [.ref (ad 0)]) ⟨hx, hb, hml, hown, hts⟩ (c_X3_withoutPanel l D cs H.size M pl v p (by omega)) (cwV 1 hts (gV tb_373 tb_374 tb_375 tb_7 tb_376) rfl rfl rfl (by decide +kernel) ⟨Nat.le_of_ble_eq_true rfl, Nat.le_of_ble_eq_true rfl⟩) (preV_M (X := fun U H => ((∀ q, M q → q < H.size) ∧ PlanAt D cs M H pl v) ∧ ST U) (Stb_and Stb_H ST_stb) hK (PlanAt.recv hK hXI.1.2.1) hPc hDc ⟨⟨hXI.1.1, hXI.1.2.1⟩, hXI.2.2⟩) rfl rfl hl.1 rfl (lv_room (Nat.le_of_ble_eq_true rfl)) dX6_take_19 ⟨Nat.le_of_ble_eq_true rfl, Nat.le_of_ble_eq_true rfl⟩) hS (fun q _ h => hFc q h) hFc (fun u9 r19 t9 H9 locs ht9 hvm9 hw9 hB9 hz9 hk9 hS => ?_)
    obtain ⟨hf19_0, hP1, hD1⟩ := hB9
    rw [ht9] at hP1
    rw [ht9] at hf19_0
    obtain ⟨hPj, hDj⟩ := va_join (wr := [_, _, _, _, _, _, _, _, _, _, _, _, _, _]) hP hD [] [0, 1, 2, 3, 4, 5, 6, 7, 8, 9, 10, 11, 12, 13] rfl rfl (by decide) (by decide) hk9 hFc hP1 hD1
    generalize H9 = H at *
    have hP : va_P D classes (xW cs ad len pl rlen rpc run_ rbo rcw rt tx gp nu kept gq swl sun sbo scw bo cu lo wh dps alk bof us bl lg) H := hPj
    have hD : va_D A (xW cs ad len pl rlen rpc run_ rbo rcw rt tx gp nu kept gq swl sun sbo scw bo cu lo wh dps alk bof us bl lg) := hDj
    have hXI := XI.inS hX0 (fun q z => hM q (Mw_xW q z)) hAe hS
    have hFc := va_free (wc := (xW cs ad len pl rlen rpc run_ rbo rcw rt tx gp nu kept gq swl sun sbo scw bo cu lo wh dps alk bof us bl lg)) hD hS hA [0, 1, 2, 3, 4, 5, 6, 7, 8, 9, 10, 11, 12, 13] rfl
    refine va_callv (va_runV (As := [.ref r19]) (rest := []) ⟨hx, hb, hml, hown, hts⟩ (c_X6_change l D cs ad H.size len pl rlen rpc run_ rbo rcw rt tx gp nu kept gq swl sun sbo scw bo cu lo wh dps alk bof us bl lg M v bf r19 (tkV v p.toNat) hM hkp hlen) (cwV 1 hts (gV tb_348 tb_350 tbs_8 tb_1 tb_351) rfl rfl rfl (by decide +kernel) ⟨Nat.le_of_ble_eq_true rfl, Nat.le_of_ble_eq_true rfl⟩) (preV_M (X := fun U H => XI D cs M pl v kept gq bf U H ∧ PlanAt D cs M H r19 (tkV v p.toNat)) (Stb_and XI_stb Stb_H) hK (va_recv hK hP (ci := 5) (q0 := 0) rfl rfl) hP hD ⟨hXI, hf19_0⟩) rfl rfl hl.1 rfl (lv_room (Nat.le_of_ble_eq_true rfl)) dX6_take_22 ⟨Nat.le_of_ble_eq_true rfl, Nat.le_of_ble_eq_true rfl⟩) hS (fun q _ h => hFc q h) hFc (fun u9 t9 H9 locs ht9 hvm9 hw9 hB9 hz9 hk9 hS => ?_)
    obtain ⟨kept2_22, gq2_22, hf22_0, hf22_1, hP1, hD1⟩ := hB9
    rw [ht9] at hP1
    rw [ht9] at hf22_0
    rw [ht9] at hf22_1
    have hP := hP1
    have hD := hD1.weaken (fun _ _ _ h => hFc _ h)
    generalize H9 = H at *
    have hP : va_P D classes (xW cs ad len r19 rlen rpc run_ rbo rcw rt tx gp nu kept2_22 gq2_22 swl sun sbo scw bo cu lo wh dps alk bof us bl lg) H := hP
    have hD : va_D A (xW cs ad len r19 rlen rpc run_ rbo rcw rt tx gp nu kept2_22 gq2_22 swl sun sbo scw bo cu lo wh dps alk bof us bl lg) := hD
    obtain ⟨hvL2, arr2, g2, hPl2, _, _, _⟩ := id hf22_0
    have hL20 := hvL2.1
    have e20 : tkV v p.toNat 20 = v 20 - 1 := (by unfold tkV; rw [if_pos rfl])
    refine lv_aload_n hx hb dX6_take_25 rfl (lv_at hl 0 rfl) ?_
    refine va_get (D := D) (ci := 5) (v := .ref r19) (C := RX6) (T := TX6) (N := 6) hx hb ht inTB_X6 hown hK hP 0 rfl rfl 5 (by decide) (ht _ tb_204) (fun _ h9 => h9) rfl dX6_take_26 ?_
    refine va_get (D := D) (ci := 2) (v := .ref arr2) (C := RX3) (T := TX3) (N := 4) hx hb ht inTB_X3 hown hK hPl2 0 rfl rfl 0 (by decide) (ht _ tb_180) (fun _ h9 => h9) rfl dX6_take_29 ?_
    refine rv_alen hx hb hK hPl2 1 2 rfl rfl dX6_take_32 ?_
    subst hQ
    exact W.iret hx hb hr (fun t9 ht9 hW9 => ⟨⟨_, _, rfl, rfl, ⟨r19, kept2_22, gq2_22, by rw [cif_pos hpp, Int.toNat_of_nonneg hL20.1, e20], fun v2 un2 bf2 hR => by obtain ⟨rfl, hN⟩ := hR.2 hpp; rw [ht9]; exact ⟨hf22_0, hf22_1 un2 bf2 hN⟩, by rw [ht9]; exact hP, by rw [hAe]; exact hD⟩⟩, by rw [hAe]; exact hS.F ht9⟩) (by rw [hAe]; exact hS.2.2) dX6_take_33
  · rw [cF_neg hq5]
    refine W.eq (g2 := F0 m 8 ls [.null]) rfl ?_
    refine lv_ifnonnullN hx hb dX6_take_8 ?_
    refine rv_iconst hx hb dX6_take_11 ?_
    refine W.widen (k := 2) (n := 8) (by omega) (by omega) ?_
    subst hQ
    exact W.iret hx hb hr (fun t9 ht9 hW9 => ⟨⟨_, _, rfl, rfl, ⟨pl, kept, gq, by rw [cif_neg (by omega)], fun v2 un2 bf2 hR => by obtain ⟨rfl, rfl, rfl⟩ := hR.1 (by omega); rw [ht9]; exact ⟨hXI.1.2.1, rfl, hXI.1.2.2⟩, by rw [ht9]; exact hP, by rw [hAe]; exact hD⟩⟩, by rw [hAe]; exact hS.F ht9⟩) (by rw [hAe]; exact hS.2.2) dX6_take_12

