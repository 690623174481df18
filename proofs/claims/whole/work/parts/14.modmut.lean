/-! the model: what changes its cells -/

abbrev rm_X7_tells : Room := { frames := 0, cells := 0, slots := 0, locals := 0 }
set_option maxHeartbeats 8000000 in
set_option maxRecDepth 100000 in
/-- tells -/
theorem c_X7_tells (l : Launch) (D : va_G) (cs : Nat → ClassId) (ad : Nat → Nat) (sz : Nat) (len : Int) (spot : Int) (un : Int) (bo : Int) (cu : Int) (lo : Int) (wh : Int) (tx : Nat → Int) (now : Nat → Int) (rd : Nat → Int) (bf : Nat → Int) (bl : Nat → Int) (us : Nat → Int) (lg : Nat → Int) (bd : Nat → Int) (dp : Nat → Int) (p : Int) (k : Int) (n : Int) (f : Int) (o : Int) (w : Int) (hp : 0 ≤ p ∧ p < 4) : Met l yX7_tells (Cond.code yX7_tells cX7_tells 7 none :: TB) rm_X7_tells (va_Pc [.ref (ad 0), .int (iI p), .int (iI k), .int (iI n), .int (iI f), .int (iI o), .int (iI w)] (MPre D cs sz (mW cs ad len spot un bo cu lo wh tx now rd bf bl us lg bd dp) (fun _ _ => True))) (va_Qv (fun _ : Unit => True) (fun _ t => va_P D classes (mW cs ad len spot un bo cu lo wh tx (upI (upI (upI (upI (upI now (5 * p.toNat) k) (5 * p.toNat + 1) n) (5 * p.toNat + 2) f) (5 * p.toNat + 3) o) (5 * p.toNat + 4) w) rd bf bl us lg bd dp) t.heap ∧ va_D (va_A (mW cs ad len spot un bo cu lo wh tx now rd bf bl us lg bd dp) sz) (mW cs ad len spot un bo cu lo wh tx (upI (upI (upI (upI (upI now (5 * p.toNat) k) (5 * p.toNat + 1) n) (5 * p.toNat + 2) f) (5 * p.toNat + 3) o) (5 * p.toNat + 4) w) rd bf bl us lg bd dp)) (va_A (mW cs ad len spot un bo cu lo wh tx now rd bf bl us lg bd dp) sz)) 0 0 (va_A (mW cs ad len spot un bo cu lo wh tx now rd bf bl us lg bd dp) sz) := by
  refine enter (cc := cX7_tells) (maxL := 7) (ret := none) (by decide) (Nat.le_of_ble_eq_true rfl) ?_
  intro pg ev s m below meth c Q ls hx hb hml hown hts hr hlocks hnm ⟨hsz, hP, hD0, hK, hX0⟩ hl hQ
  have ht : ∀ w ∈ TB, w.before _ s = true := fun w h => hts w (List.mem_cons_of_mem _ h)
  subst hsz
  have hD := hD0.self (sz := s.heap.size)
  obtain ⟨A, hAe⟩ : ∃ A, va_A (mW cs ad len spot un bo cu lo wh tx now rd bf bl us lg bd dp) s.heap.size = A := ⟨_, rfl⟩
  rw [hAe] at hD
  have hA : ∀ q : Nat, s.heap.size ≤ q → A q := fun q h => by rw [← hAe]; exact Or.inr h
  obtain ⟨H, hH⟩ : ∃ H, H = s.heap := ⟨_, rfl⟩
  obtain ⟨locs, hlocs⟩ : ∃ locs : List Loc, locs = [] := ⟨_, rfl⟩
  have hS : va_S A s.heap H locs := by rw [hH, hlocs]; exact va_S.rf
  rw [← hH] at hP
  suffices hgo : W pg l ev rm_X7_tells s m [.ref (ad 0), .int (iI p), .int (iI k), .int (iI n), .int (iI f), .int (iI o), .int (iI w)].toArray below meth c H locs 0 0 Q (F0 m 0 ls []) by rw [hH, hlocs] at hgo; exact hgo
  have hl : lv_has ls 7 [(0, .ref (ad 0)), (1, .int (iI p)), (2, .int (iI k)), (3, .int (iI n)), (4, .int (iI f)), (5, .int (iI o)), (6, .int (iI w))] := hl
  refine lv_aload_n hx hb dX7_tells_0 rfl (lv_at hl 0 rfl) ?_
  refine va_get (D := D) (ci := 6) (v := .ref (ad 2)) (C := RX7) (T := TX7) (N := 16) hx hb ht inTB_X7 hown hK hP 0 rfl rfl 3 (by decide) (ht _ tb_591) (fun _ h9 => h9) rfl dX7_tells_1 ?_
  refine rv_iconst hx hb dX7_tells_4 ?_
  refine lv_iload_n hx hb dX7_tells_5 rfl (lv_at hl 1 rfl) ?_
  refine rv_imul hx hb dX7_tells_6 ?_
  refine lv_iload_n hx hb dX7_tells_7 rfl (lv_at hl 2 rfl) ?_
  refine rv_iast hx hb hK hP hD hS 2 0 rfl rfl (5 * p.toNat) (by omega) (by omega) dX7_tells_8 (fun H locs hP hD hS => ?_)
  have hP : va_P D classes (mW cs ad len spot un bo cu lo wh tx (upI now (5 * p.toNat) k) rd bf bl us lg bd dp) H := hP
  have hD : va_D A (mW cs ad len spot un bo cu lo wh tx (upI now (5 * p.toNat) k) rd bf bl us lg bd dp) := hD
  refine lv_aload_n hx hb dX7_tells_9 rfl (lv_at hl 0 rfl) ?_
  refine va_get (D := D) (ci := 6) (v := .ref (ad 2)) (C := RX7) (T := TX7) (N := 16) hx hb ht inTB_X7 hown hK hP 0 rfl rfl 3 (by decide) (ht _ tb_591) (fun _ h9 => h9) rfl dX7_tells_10 ?_
  refine rv_iconst hx hb dX7_tells_13 ?_
  refine lv_iload_n hx hb dX7_tells_14 rfl (lv_at hl 1 rfl) ?_
  refine rv_imul hx hb dX7_tells_15 ?_
  refine rv_iconst hx hb dX7_tells_16 ?_
  refine rv_iadd hx hb dX7_tells_17 ?_
  refine lv_iload_n hx hb dX7_tells_18 rfl (lv_at hl 3 rfl) ?_
  refine rv_iast hx hb hK hP hD hS 2 0 rfl rfl (5 * p.toNat + 1) (by omega) (by omega) dX7_tells_19 (fun H locs hP hD hS => ?_)
  have hP : va_P D classes (mW cs ad len spot un bo cu lo wh tx (upI (upI now (5 * p.toNat) k) (5 * p.toNat + 1) n) rd bf bl us lg bd dp) H := hP
  have hD : va_D A (mW cs ad len spot un bo cu lo wh tx (upI (upI now (5 * p.toNat) k) (5 * p.toNat + 1) n) rd bf bl us lg bd dp) := hD
  refine lv_aload_n hx hb dX7_tells_20 rfl (lv_at hl 0 rfl) ?_
  refine va_get (D := D) (ci := 6) (v := .ref (ad 2)) (C := RX7) (T := TX7) (N := 16) hx hb ht inTB_X7 hown hK hP 0 rfl rfl 3 (by decide) (ht _ tb_591) (fun _ h9 => h9) rfl dX7_tells_21 ?_
  refine rv_iconst hx hb dX7_tells_24 ?_
  refine lv_iload_n hx hb dX7_tells_25 rfl (lv_at hl 1 rfl) ?_
  refine rv_imul hx hb dX7_tells_26 ?_
  refine rv_iconst hx hb dX7_tells_27 ?_
  refine rv_iadd hx hb dX7_tells_28 ?_
  refine lv_iload hx hb dX7_tells_29 (lv_at hl 4 rfl) ?_
  refine rv_iast hx hb hK hP hD hS 2 0 rfl rfl (5 * p.toNat + 2) (by omega) (by omega) dX7_tells_31 (fun H locs hP hD hS => ?_)
  have hP : va_P D classes (mW cs ad len spot un bo cu lo wh tx (upI (upI (upI now (5 * p.toNat) k) (5 * p.toNat + 1) n) (5 * p.toNat + 2) f) rd bf bl us lg bd dp) H := hP
  have hD : va_D A (mW cs ad len spot un bo cu lo wh tx (upI (upI (upI now (5 * p.toNat) k) (5 * p.toNat + 1) n) (5 * p.toNat + 2) f) rd bf bl us lg bd dp) := hD
  refine lv_aload_n hx hb dX7_tells_32 rfl (lv_at hl 0 rfl) ?_
  refine va_get (D := D) (ci := 6) (v := .ref (ad 2)) (C := RX7) (T := TX7) (N := 16) hx hb ht inTB_X7 hown hK hP 0 rfl rfl 3 (by decide) (ht _ tb_591) (fun _ h9 => h9) rfl dX7_tells_33 ?_
  refine rv_iconst hx hb dX7_tells_36 ?_
  refine lv_iload_n hx hb dX7_tells_37 rfl (lv_at hl 1 rfl) ?_
  refine rv_imul hx hb dX7_tells_38 ?_
  refine rv_iconst hx hb dX7_tells_39 ?_
  refine rv_iadd hx hb dX7_tells_40 ?_
  refine lv_iload hx hb dX7_tells_41 (lv_at hl 5 rfl) ?_
  refine rv_iast hx hb hK hP hD hS 2 0 rfl rfl (5 * p.toNat + 3) (by omega) (by omega) dX7_tells_43 (fun H locs hP hD hS => ?_)
  have hP : va_P D classes (mW cs ad len spot un bo cu lo wh tx (upI (upI (upI (upI now (5 * p.toNat) k) (5 * p.toNat + 1) n) (5 * p.toNat + 2) f) (5 * p.toNat + 3) o) rd bf bl us lg bd dp) H := hP
  have hD : va_D A (mW cs ad len spot un bo cu lo wh tx (upI (upI (upI (upI now (5 * p.toNat) k) (5 * p.toNat + 1) n) (5 * p.toNat + 2) f) (5 * p.toNat + 3) o) rd bf bl us lg bd dp) := hD
  refine lv_aload_n hx hb dX7_tells_44 rfl (lv_at hl 0 rfl) ?_
  refine va_get (D := D) (ci := 6) (v := .ref (ad 2)) (C := RX7) (T := TX7) (N := 16) hx hb ht inTB_X7 hown hK hP 0 rfl rfl 3 (by decide) (ht _ tb_591) (fun _ h9 => h9) rfl dX7_tells_45 ?_
  refine rv_iconst hx hb dX7_tells_48 ?_
  refine lv_iload_n hx hb dX7_tells_49 rfl (lv_at hl 1 rfl) ?_
  refine rv_imul hx hb dX7_tells_50 ?_
  refine rv_iconst hx hb dX7_tells_51 ?_
  refine rv_iadd hx hb dX7_tells_52 ?_
  refine lv_iload hx hb dX7_tells_53 (lv_at hl 6 rfl) ?_
  refine rv_iast hx hb hK hP hD hS 2 0 rfl rfl (5 * p.toNat + 4) (by omega) (by omega) dX7_tells_55 (fun H locs hP hD hS => ?_)
  have hP : va_P D classes (mW cs ad len spot un bo cu lo wh tx (upI (upI (upI (upI (upI now (5 * p.toNat) k) (5 * p.toNat + 1) n) (5 * p.toNat + 2) f) (5 * p.toNat + 3) o) (5 * p.toNat + 4) w) rd bf bl us lg bd dp) H := hP
  have hD : va_D A (mW cs ad len spot un bo cu lo wh tx (upI (upI (upI (upI (upI now (5 * p.toNat) k) (5 * p.toNat + 1) n) (5 * p.toNat + 2) f) (5 * p.toNat + 3) o) (5 * p.toNat + 4) w) rd bf bl us lg bd dp) := hD
  subst hQ
  exact W.vret hx hb hr (fun t9 ht9 hW9 => ⟨⟨(), rfl, trivial, ⟨by rw [ht9]; exact hP, by rw [hAe]; exact hD⟩⟩, by rw [hAe]; exact hS.F ht9⟩) (by rw [hAe]; exact hS.2.2) dX7_tells_56

abbrev rm_X7_write : Room := { frames := 1, cells := 0, slots := 0, locals := 25 }
set_option maxHeartbeats 8000000 in
set_option maxRecDepth 100000 in
/-- write -/
theorem c_X7_write (l : Launch) (D : va_G) (cs : Nat → ClassId) (ad : Nat → Nat) (sz : Nat) (len : Int) (spot : Int) (un : Int) (bo : Int) (cu : Int) (lo : Int) (wh : Int) (tx : Nat → Int) (now : Nat → Int) (rd : Nat → Int) (bf : Nat → Int) (bl : Nat → Int) (us : Nat → Int) (lg : Nat → Int) (bd : Nat → Int) (dp : Nat → Int) (x : Int) (hx1 : -2147483648 ≤ x ∧ x < 2147483648) (hlen : 0 ≤ len ∧ len ≤ 200) : Met l yX7_write (Cond.code yX7_write cX7_write 2 (some .int) :: TB) rm_X7_write (va_Pc [.ref (ad 0), .int (iI x)] (MPre D cs sz (mW cs ad len spot un bo cu lo wh tx now rd bf bl us lg bd dp) (fun _ _ => True))) (va_Qi (fun (r u : Int32) => r = u) (fun r t => (r = iI (aWrite len x)) ∧ va_P D classes (mW cs ad (nLen len x) spot un bo cu lo wh (nTx len x tx) now rd bf bl us lg bd dp) t.heap ∧ va_D (va_A (mW cs ad len spot un bo cu lo wh tx now rd bf bl us lg bd dp) sz) (mW cs ad (nLen len x) spot un bo cu lo wh (nTx len x tx) now rd bf bl us lg bd dp)) (va_A (mW cs ad len spot un bo cu lo wh tx now rd bf bl us lg bd dp) sz)) 0 0 (va_A (mW cs ad len spot un bo cu lo wh tx now rd bf bl us lg bd dp) sz) := by
  refine enter (cc := cX7_write) (maxL := 2) (ret := (some .int)) (by decide) (Nat.le_of_ble_eq_true rfl) ?_
  intro pg ev s m below meth c Q ls hx hb hml hown hts hr hlocks hnm ⟨hsz, hP, hD0, hK, hX0⟩ hl hQ
  have ht : ∀ w ∈ TB, w.before _ s = true := fun w h => hts w (List.mem_cons_of_mem _ h)
  subst hsz
  have hD := hD0.self (sz := s.heap.size)
  obtain ⟨A, hAe⟩ : ∃ A, va_A (mW cs ad len spot un bo cu lo wh tx now rd bf bl us lg bd dp) s.heap.size = A := ⟨_, rfl⟩
  rw [hAe] at hD
  have hA : ∀ q : Nat, s.heap.size ≤ q → A q := fun q h => by rw [← hAe]; exact Or.inr h
  obtain ⟨H, hH⟩ : ∃ H, H = s.heap := ⟨_, rfl⟩
  obtain ⟨locs, hlocs⟩ : ∃ locs : List Loc, locs = [] := ⟨_, rfl⟩
  have hS : va_S A s.heap H locs := by rw [hH, hlocs]; exact va_S.rf
  rw [← hH] at hP
  suffices hgo : W pg l ev rm_X7_write s m [.ref (ad 0), .int (iI x)].toArray below meth c H locs 0 0 Q (F0 m 0 ls []) by rw [hH, hlocs] at hgo; exact hgo
  have hl : lv_has ls 2 [(0, .ref (ad 0)), (1, .int (iI x))] := hl
  refine lv_iload_n hx hb dX7_write_0 rfl (lv_at hl 1 rfl) ?_
  refine rv_i2l hx hb dX7_write_1 (by omega) ?_
  refine lv_ldc2 (v := lI 32) hx hb hown (ht _ tb_671) dX7_write_2 ?_
  refine lv_ldc2 (v := lI 126) hx hb hown (ht _ tb_672) dX7_write_5 ?_
  refine vp_callSi (W.runS (As := [.long (lI x), .long (lI 32), .long (lI 126)]) (rest := []) ⟨hx, hb, hml, hown, hts⟩ (c_X7_in l x 32 126 (by omega) (by omega) (by omega)) (va_cwS 3 hts (gS tb_649 tb_650 tb_8 tb_651) rfl rfl rfl (by decide +kernel) ⟨Nat.le_of_ble_eq_true rfl, Nat.le_of_ble_eq_true rfl⟩) preS0 rfl rfl hl.1 rfl (lv_room (Nat.le_of_ble_eq_true rfl)) dX7_write_8 ⟨Nat.le_of_ble_eq_true rfl, Nat.le_of_ble_eq_true rfl⟩) (fun r9 hr9 => ?_)
  rcases hr9 with ⟨rfl, hb8⟩ | ⟨rfl, hb8⟩
  · refine rv_if_ne (tgt := 16) hx hb dX7_write_11 (by decide) (by decide) (fun _ => ?_) (fun q => absurd q (by decide))
    refine lv_aload_n hx hb dX7_write_16 rfl (lv_at hl 0 rfl) ?_
    refine va_get (D := D) (ci := 6) (v := .int (iI len)) (C := RX7) (T := TX7) (N := 16) hx hb ht inTB_X7 hown hK hP 0 rfl rfl 0 (by decide) (ht _ tb_588) (fun _ h9 => h9) rfl dX7_write_17 ?_
    refine rv_sipush hx hb dX7_write_20 (by decide) ?_
    refine rv_icmp_ne (tgt := 29) hx hb dX7_write_23 (by decide) (by omega) (fun h23 => ?_) (fun h23 => ?_)
    · refine lv_aload_n hx hb dX7_write_29 rfl (lv_at hl 0 rfl) ?_
      refine va_get (D := D) (ci := 6) (v := .ref (ad 1)) (C := RX7) (T := TX7) (N := 16) hx hb ht inTB_X7 hown hK hP 0 rfl rfl 1 (by decide) (ht _ tb_589) (fun _ h9 => h9) rfl dX7_write_30 ?_
      refine lv_aload_n hx hb dX7_write_33 rfl (lv_at hl 0 rfl) ?_
      refine va_get (D := D) (ci := 6) (v := .int (iI len)) (C := RX7) (T := TX7) (N := 16) hx hb ht inTB_X7 hown hK hP 0 rfl rfl 0 (by decide) (ht _ tb_588) (fun _ h9 => h9) rfl dX7_write_34 ?_
      refine lv_iload_n hx hb dX7_write_37 rfl (lv_at hl 1 rfl) ?_
      refine rv_iast hx hb hK hP hD hS 1 0 rfl rfl len.toNat (by omega) (by omega) dX7_write_38 (fun H locs hP hD hS => ?_)
      have hP : va_P D classes (mW cs ad len spot un bo cu lo wh (upI tx len.toNat x) now rd bf bl us lg bd dp) H := hP
      have hD : va_D A (mW cs ad len spot un bo cu lo wh (upI tx len.toNat x) now rd bf bl us lg bd dp) := hD
      refine lv_aload_n hx hb dX7_write_39 rfl (lv_at hl 0 rfl) ?_
      refine lv_dup hx hb dX7_write_40 rfl ?_
      refine va_get (D := D) (ci := 6) (v := .int (iI len)) (C := RX7) (T := TX7) (N := 16) hx hb ht inTB_X7 hown hK hP 0 rfl rfl 0 (by decide) (ht _ tb_588) (fun _ h9 => h9) rfl dX7_write_41 ?_
      refine rv_iconst hx hb dX7_write_44 ?_
      refine rv_iadd hx hb dX7_write_45 ?_
      refine va_put (D := D) (ci := 6) (v := .int (iI (len + 1))) (ty := tyX7 0) (C := RX7) (T := TX7) (N := 16) hx hb ht inTB_X7 tyX7 tyX7_ok nmX7 hown hK hP hD hS 0 rfl rfl 0 (by decide) (ht _ tb_588) (fun _ h9 => h9) rfl (tyX7_ok 0 (by decide)) rfl rfl (Nat.le_of_ble_eq_true rfl) dX7_write_46 (fun H locs hP hD hS => ?_)
      have hP : va_P D classes (mW cs ad (len + 1) spot un bo cu lo wh (upI tx len.toNat x) now rd bf bl us lg bd dp) H := hP
      have hD : va_D A (mW cs ad (len + 1) spot un bo cu lo wh (upI tx len.toNat x) now rd bf bl us lg bd dp) := hD
      refine lv_aload_n hx hb dX7_write_49 rfl (lv_at hl 0 rfl) ?_
      refine va_get (D := D) (ci := 6) (v := .int (iI (len + 1))) (C := RX7) (T := TX7) (N := 16) hx hb ht inTB_X7 hown hK hP 0 rfl rfl 0 (by decide) (ht _ tb_588) (fun _ h9 => h9) rfl dX7_write_50 ?_
      have e1 : nLen len x = len + 1 := by rw [nLen, cif_pos ⟨hb8, h23⟩]
      have e2 : nTx len x tx = upI tx len.toNat x := by rw [nTx, cF_pos ⟨hb8, h23⟩]
      subst hQ
      exact W.iret hx hb hr (fun t9 ht9 hW9 => ⟨⟨_, _, rfl, rfl, ⟨by rw [aWrite, cif_pos hb8, cif_neg h23], by rw [ht9]; (first | rw [e1, e2] | rw [e1] | skip); exact hP, by rw [hAe]; (first | rw [e1, e2] | rw [e1] | skip); exact hD⟩⟩, by rw [hAe]; exact hS.F ht9⟩) (by rw [hAe]; exact hS.2.2) dX7_write_53
    · refine rv_bipush hx hb dX7_write_26 (by decide) ?_
      have e1 : nLen len x = len := by rw [nLen, cif_neg (fun q => q.2 h23)]
      have e2 : nTx len x tx = tx := by rw [nTx, cF_neg (fun q => q.2 h23)]
      subst hQ
      exact W.iret hx hb hr (fun t9 ht9 hW9 => ⟨⟨_, _, rfl, rfl, ⟨by rw [aWrite, cif_pos hb8, cif_pos h23], by rw [ht9]; (first | rw [e1, e2] | rw [e1] | skip); exact hP, by rw [hAe]; (first | rw [e1, e2] | rw [e1] | skip); exact hD⟩⟩, by rw [hAe]; exact hS.F ht9⟩) (by rw [hAe]; exact hS.2.2) dX7_write_28
  · refine rv_if_ne (tgt := 16) hx hb dX7_write_11 (by decide) (by decide) (fun q => absurd q (by decide)) (fun _ => ?_)
    refine rv_iconst hx hb dX7_write_14 ?_
    have e1 : nLen len x = len := by rw [nLen, cif_neg (fun q => hb8 q.1)]
    have e2 : nTx len x tx = tx := by rw [nTx, cF_neg (fun q => hb8 q.1)]
    subst hQ
    exact W.iret hx hb hr (fun t9 ht9 hW9 => ⟨⟨_, _, rfl, rfl, ⟨by rw [aWrite, cif_neg hb8], by rw [ht9]; (first | rw [e1, e2] | rw [e1] | skip); exact hP, by rw [hAe]; (first | rw [e1, e2] | rw [e1] | skip); exact hD⟩⟩, by rw [hAe]; exact hS.F ht9⟩) (by rw [hAe]; exact hS.2.2) dX7_write_15

abbrev rm_X7_wipe : Room := { frames := 0, cells := 0, slots := 0, locals := 0 }
set_option maxHeartbeats 8000000 in
set_option maxRecDepth 100000 in
/-- wipe -/
theorem c_X7_wipe (l : Launch) (D : va_G) (cs : Nat → ClassId) (ad : Nat → Nat) (sz : Nat) (len : Int) (spot : Int) (un : Int) (bo : Int) (cu : Int) (lo : Int) (wh : Int) (tx : Nat → Int) (now : Nat → Int) (rd : Nat → Int) (bf : Nat → Int) (bl : Nat → Int) (us : Nat → Int) (lg : Nat → Int) (bd : Nat → Int) (dp : Nat → Int) : Met l yX7_wipe (Cond.code yX7_wipe cX7_wipe 2 (some .int) :: TB) rm_X7_wipe (va_Pc [.ref (ad 0)] (MPre D cs sz (mW cs ad len spot un bo cu lo wh tx now rd bf bl us lg bd dp) (fun _ _ => True))) (va_Qi (fun (r u : Int32) => r = u) (fun r t => (r = iI len) ∧ va_P D classes (mW cs ad 0 spot un bo cu lo wh tx now rd bf bl us lg bd dp) t.heap ∧ va_D (va_A (mW cs ad len spot un bo cu lo wh tx now rd bf bl us lg bd dp) sz) (mW cs ad 0 spot un bo cu lo wh tx now rd bf bl us lg bd dp)) (va_A (mW cs ad len spot un bo cu lo wh tx now rd bf bl us lg bd dp) sz)) 0 0 (va_A (mW cs ad len spot un bo cu lo wh tx now rd bf bl us lg bd dp) sz) := by
  refine enter (cc := cX7_wipe) (maxL := 2) (ret := (some .int)) (by decide) (Nat.le_of_ble_eq_true rfl) ?_
  intro pg ev s m below meth c Q ls hx hb hml hown hts hr hlocks hnm ⟨hsz, hP, hD0, hK, hX0⟩ hl hQ
  have ht : ∀ w ∈ TB, w.before _ s = true := fun w h => hts w (List.mem_cons_of_mem _ h)
  subst hsz
  have hD := hD0.self (sz := s.heap.size)
  obtain ⟨A, hAe⟩ : ∃ A, va_A (mW cs ad len spot un bo cu lo wh tx now rd bf bl us lg bd dp) s.heap.size = A := ⟨_, rfl⟩
  rw [hAe] at hD
  have hA : ∀ q : Nat, s.heap.size ≤ q → A q := fun q h => by rw [← hAe]; exact Or.inr h
  obtain ⟨H, hH⟩ : ∃ H, H = s.heap := ⟨_, rfl⟩
  obtain ⟨locs, hlocs⟩ : ∃ locs : List Loc, locs = [] := ⟨_, rfl⟩
  have hS : va_S A s.heap H locs := by rw [hH, hlocs]; exact va_S.rf
  rw [← hH] at hP
  suffices hgo : W pg l ev rm_X7_wipe s m [.ref (ad 0)].toArray below meth c H locs 0 0 Q (F0 m 0 ls []) by rw [hH, hlocs] at hgo; exact hgo
  have hl : lv_has ls 2 [(0, .ref (ad 0))] := hl
  refine lv_aload_n hx hb dX7_wipe_0 rfl (lv_at hl 0 rfl) ?_
  refine va_get (D := D) (ci := 6) (v := .int (iI len)) (C := RX7) (T := TX7) (N := 16) hx hb ht inTB_X7 hown hK hP 0 rfl rfl 0 (by decide) (ht _ tb_588) (fun _ h9 => h9) rfl dX7_wipe_1 ?_
  refine lv_istore_n (lv' := [(1, .int (iI len)), (0, .ref (ad 0))]) hx hb dX7_wipe_4 rfl hl (by decide) rfl (fun ls hl => ?_)
  refine lv_aload_n hx hb dX7_wipe_5 rfl (lv_at hl 1 rfl) ?_
  refine rv_iconst hx hb dX7_wipe_6 ?_
  refine va_put (D := D) (ci := 6) (v := .int (iI 0)) (ty := tyX7 0) (C := RX7) (T := TX7) (N := 16) hx hb ht inTB_X7 tyX7 tyX7_ok nmX7 hown hK hP hD hS 0 rfl rfl 0 (by decide) (ht _ tb_588) (fun _ h9 => h9) rfl (tyX7_ok 0 (by decide)) rfl rfl (Nat.le_of_ble_eq_true rfl) dX7_wipe_7 (fun H locs hP hD hS => ?_)
  have hP : va_P D classes (mW cs ad 0 spot un bo cu lo wh tx now rd bf bl us lg bd dp) H := hP
  have hD : va_D A (mW cs ad 0 spot un bo cu lo wh tx now rd bf bl us lg bd dp) := hD
  refine lv_iload_n hx hb dX7_wipe_10 rfl (lv_at hl 0 rfl) ?_
  subst hQ
  exact W.iret hx hb hr (fun t9 ht9 hW9 => ⟨⟨_, _, rfl, rfl, ⟨rfl, by rw [ht9]; exact hP, by rw [hAe]; exact hD⟩⟩, by rw [hAe]; exact hS.F ht9⟩) (by rw [hAe]; exact hS.2.2) dX7_wipe_11

abbrev rm_X7_note : Room := { frames := 0, cells := 0, slots := 0, locals := 0 }
set_option maxHeartbeats 8000000 in
set_option maxRecDepth 100000 in
/-- note -/
theorem c_X7_note (l : Launch) (D : va_G) (cs : Nat → ClassId) (ad : Nat → Nat) (sz : Nat) (len : Int) (spot : Int) (un : Int) (bo : Int) (cu : Int) (lo : Int) (wh : Int) (tx : Nat → Int) (now : Nat → Int) (rd : Nat → Int) (bf : Nat → Int) (bl : Nat → Int) (us : Nat → Int) (lg : Nat → Int) (bd : Nat → Int) (dp : Nat → Int) (hun : 0 ≤ un ∧ un ≤ 6) : Met l yX7_note (Cond.code yX7_note cX7_note 2 none :: TB) rm_X7_note (va_Pc [.ref (ad 0)] (MPre D cs sz (mW cs ad len spot un bo cu lo wh tx now rd bf bl us lg bd dp) (fun _ _ => True))) (va_Qv (fun _ : Unit => True) (fun _ t => ∃ (un2 : Int) (bf2 : Nat → Int), (Noted un bf now un2 bf2) ∧ va_P D classes (mW cs ad len spot un2 bo cu lo wh tx now rd bf2 bl us lg bd dp) t.heap ∧ va_D (va_A (mW cs ad len spot un bo cu lo wh tx now rd bf bl us lg bd dp) sz) (mW cs ad len spot un2 bo cu lo wh tx now rd bf2 bl us lg bd dp)) (va_A (mW cs ad len spot un bo cu lo wh tx now rd bf bl us lg bd dp) sz)) 0 0 (va_A (mW cs ad len spot un bo cu lo wh tx now rd bf bl us lg bd dp) sz) := by
  refine enter (cc := cX7_note) (maxL := 2) (ret := none) (by decide) (Nat.le_of_ble_eq_true rfl) ?_
  intro pg ev s m below meth c Q ls hx hb hml hown hts hr hlocks hnm ⟨hsz, hP, hD0, hK, hX0⟩ hl hQ
  have ht : ∀ w ∈ TB, w.before _ s = true := fun w h => hts w (List.mem_cons_of_mem _ h)
  subst hsz
  have hD := hD0.self (sz := s.heap.size)
  obtain ⟨A, hAe⟩ : ∃ A, va_A (mW cs ad len spot un bo cu lo wh tx now rd bf bl us lg bd dp) s.heap.size = A := ⟨_, rfl⟩
  rw [hAe] at hD
  have hA : ∀ q : Nat, s.heap.size ≤ q → A q := fun q h => by rw [← hAe]; exact Or.inr h
  obtain ⟨H, hH⟩ : ∃ H, H = s.heap := ⟨_, rfl⟩
  obtain ⟨locs, hlocs⟩ : ∃ locs : List Loc, locs = [] := ⟨_, rfl⟩
  have hS : va_S A s.heap H locs := by rw [hH, hlocs]; exact va_S.rf
  rw [← hH] at hP
  suffices hgo : W pg l ev rm_X7_note s m [.ref (ad 0)].toArray below meth c H locs 0 0 Q (F0 m 0 ls []) by rw [hH, hlocs] at hgo; exact hgo
  have hl : lv_has ls 2 [(0, .ref (ad 0))] := hl
  refine lv_aload_n hx hb dX7_note_0 rfl (lv_at hl 0 rfl) ?_
  refine va_get (D := D) (ci := 6) (v := .int (iI un)) (C := RX7) (T := TX7) (N := 16) hx hb ht inTB_X7 hown hK hP 0 rfl rfl 6 (by decide) (ht _ tb_594) (fun _ h9 => h9) rfl dX7_note_1 ?_
  refine rv_bipush hx hb dX7_note_4 (by decide) ?_
  refine rv_icmp_ne (tgt := 48) hx hb dX7_note_6 (by decide) (by omega) (fun h6 => ?_) (fun h6 => ?_)
  · obtain ⟨B0, hB0⟩ : ∃ B0, B0 = bf := ⟨_, rfl⟩
    rw [← hB0] at hP hD
    refine rv_iconst hx hb dX7_note_48 ?_
    refine lv_istore_n (lv' := [(1, .int (iI 0)), (0, .ref (ad 0))]) hx hb dX7_note_49 rfl hl (by decide) rfl (fun ls hl => ?_)
    have loop50 : ∀ (fuel50 : Nat) (j : Nat) (C : Nat → Int), (j ≤ 24) → (∀ k : Nat, k < j → C (24 * (un).toNat + k) = now k) → (∀ k : Nat, k < 24 * (un).toNat → C k = B0 k) → 24 - j < fuel50 → ∀ (x1 : Int), x1 = (j : Int) → ∀ (H : Heap) (locs : List Loc), va_P D classes (mW cs ad len spot un bo cu lo wh tx now rd C bl us lg bd dp) H → va_D A (mW cs ad len spot un bo cu lo wh tx now rd C bl us lg bd dp) → va_S A s.heap H locs → ∀ ls : Array Slot, lv_has ls 2 [(0, .ref (ad 0)), (1, .int (iI x1))] → W pg l ev rm_X7_note s m [.ref (ad 0)].toArray below meth c H locs 0 0 Q (F0 m 50 ls []) := by
      intro fuel50
      induction fuel50 with
      | zero => intro j C hj hr1 hr2 hfuel50; exact absurd hfuel50 (Nat.not_lt_zero _)
      | succ fuel50 ih50 =>
        intro j C hj hr1 hr2 hfuel50 x1 ex1 H locs hP hD hS ls hl
        subst ex1
        refine lv_iload_n hx hb dX7_note_50 rfl (lv_at hl 1 rfl) ?_
        refine rv_bipush hx hb dX7_note_51 (by decide) ?_
        refine rv_icmp_ge (tgt := 82) hx hb dX7_note_53 (by decide) (by omega) (fun h53 => ?_) (fun h53 => ?_)
        · refine lv_aload_n hx hb dX7_note_82 rfl (lv_at hl 0 rfl) ?_
          refine lv_dup hx hb dX7_note_83 rfl ?_
          refine va_get (D := D) (ci := 6) (v := .int (iI un)) (C := RX7) (T := TX7) (N := 16) hx hb ht inTB_X7 hown hK hP 0 rfl rfl 6 (by decide) (ht _ tb_594) (fun _ h9 => h9) rfl dX7_note_84 ?_
          refine rv_iconst hx hb dX7_note_87 ?_
          refine rv_iadd hx hb dX7_note_88 ?_
          refine va_put (D := D) (ci := 6) (v := .int (iI (un + 1))) (ty := tyX7 6) (C := RX7) (T := TX7) (N := 16) hx hb ht inTB_X7 tyX7 tyX7_ok nmX7 hown hK hP hD hS 0 rfl rfl 6 (by decide) (ht _ tb_594) (fun _ h9 => h9) rfl (tyX7_ok 6 (by decide)) rfl rfl (Nat.le_of_ble_eq_true rfl) dX7_note_89 (fun H locs hP hD hS => ?_)
          have hP : va_P D classes (mW cs ad len spot (un + 1) bo cu lo wh tx now rd C bl us lg bd dp) H := hP
          have hD : va_D A (mW cs ad len spot (un + 1) bo cu lo wh tx now rd C bl us lg bd dp) := hD
          subst hQ
          exact W.vret hx hb hr (fun t9 ht9 hW9 => ⟨⟨(), rfl, trivial, ⟨(un + 1), C, ⟨fun _ => ⟨rfl, fun k h => by rw [hr2 k (by omega), hB0]⟩, fun q => by omega, fun k h => by rw [show (un + 1 - 1).toNat = un.toNat by omega]; exact hr1 k (by omega)⟩, by rw [ht9]; exact hP, by rw [hAe]; exact hD⟩⟩, by rw [hAe]; exact hS.F ht9⟩) (by rw [hAe]; exact hS.2.2) dX7_note_92
        · refine lv_aload_n hx hb dX7_note_56 rfl (lv_at hl 0 rfl) ?_
          refine va_get (D := D) (ci := 6) (v := .ref (ad 4)) (C := RX7) (T := TX7) (N := 16) hx hb ht inTB_X7 hown hK hP 0 rfl rfl 5 (by decide) (ht _ tb_593) (fun _ h9 => h9) rfl dX7_note_57 ?_
          refine rv_bipush hx hb dX7_note_60 (by decide) ?_
          refine lv_aload_n hx hb dX7_note_62 rfl (lv_at hl 0 rfl) ?_
          refine va_get (D := D) (ci := 6) (v := .int (iI un)) (C := RX7) (T := TX7) (N := 16) hx hb ht inTB_X7 hown hK hP 0 rfl rfl 6 (by decide) (ht _ tb_594) (fun _ h9 => h9) rfl dX7_note_63 ?_
          refine rv_imul hx hb dX7_note_66 ?_
          refine lv_iload_n hx hb dX7_note_67 rfl (lv_at hl 1 rfl) ?_
          refine rv_iadd hx hb dX7_note_68 ?_
          refine lv_aload_n hx hb dX7_note_69 rfl (lv_at hl 0 rfl) ?_
          refine va_get (D := D) (ci := 6) (v := .ref (ad 2)) (C := RX7) (T := TX7) (N := 16) hx hb ht inTB_X7 hown hK hP 0 rfl rfl 3 (by decide) (ht _ tb_591) (fun _ h9 => h9) rfl dX7_note_70 ?_
          refine lv_iload_n hx hb dX7_note_73 rfl (lv_at hl 1 rfl) ?_
          refine rv_iald hx hb hK hP 2 0 rfl rfl j rfl (by omega) dX7_note_74 ?_
          refine rv_iast hx hb hK hP hD hS 4 0 rfl rfl (24 * (un).toNat + j) (by omega) (by omega) dX7_note_75 (fun H locs hP hD hS => ?_)
          have hP : va_P D classes (mW cs ad len spot un bo cu lo wh tx now rd (upI C (24 * (un).toNat + j) (now j)) bl us lg bd dp) H := hP
          have hD : va_D A (mW cs ad len spot un bo cu lo wh tx now rd (upI C (24 * (un).toNat + j) (now j)) bl us lg bd dp) := hD
          refine rv_iinc (k := 1) (lv' := [(1, .int (iI ((j : Int) + 1))), (0, .ref (ad 0))]) hx hb dX7_note_76 hl rfl (by decide) rfl (fun ls hl => ?_)
          refine lv_goto (tgt := 50) hx hb dX7_note_79 (by decide) ?_
          exact ih50 (j + 1) (upI C (24 * (un).toNat + j) (now j)) (by omega) (fun k h => by rcases Nat.lt_or_ge k j with q | q; rw [upI_n (by omega)]; exact hr1 k q; rw [show k = j by omega, upI_s]) (fun k h => by rw [upI_n (by omega)]; exact hr2 k h) (by omega) _ (by omega) H locs hP hD hS ls (lv_sub hl [1, 0] rfl)
    exact loop50 (_ + 1) 0 B0 (by omega) (fun k h => absurd h (Nat.not_lt_zero _)) (fun k _ => rfl) (Nat.lt_succ_self _) _ rfl H locs hP hD hS ls (lv_sub hl [1, 0] rfl)
  · refine rv_iconst hx hb dX7_note_9 ?_
    refine lv_istore_n (lv' := [(1, .int (iI 0)), (0, .ref (ad 0))]) hx hb dX7_note_10 rfl hl (by decide) rfl (fun ls hl => ?_)
    have loop11 : ∀ (fuel11 : Nat) (i : Nat) (B : Nat → Int), (i ≤ 120) → (∀ k : Nat, k < i → B k = bf (24 + k)) → (∀ k : Nat, i ≤ k → B k = bf k) → 120 - i < fuel11 → ∀ (x1 : Int), x1 = (i : Int) → ∀ (H : Heap) (locs : List Loc), va_P D classes (mW cs ad len spot un bo cu lo wh tx now rd B bl us lg bd dp) H → va_D A (mW cs ad len spot un bo cu lo wh tx now rd B bl us lg bd dp) → va_S A s.heap H locs → ∀ ls : Array Slot, lv_has ls 2 [(0, .ref (ad 0)), (1, .int (iI x1))] → W pg l ev rm_X7_note s m [.ref (ad 0)].toArray below meth c H locs 0 0 Q (F0 m 11 ls []) := by
      intro fuel11
      induction fuel11 with
      | zero => intro i B hi hq hq2 hfuel11; exact absurd hfuel11 (Nat.not_lt_zero _)
      | succ fuel11 ih11 =>
        intro i B hi hq hq2 hfuel11 x1 ex1 H locs hP hD hS ls hl
        subst ex1
        refine lv_iload_n hx hb dX7_note_11 rfl (lv_at hl 1 rfl) ?_
        refine rv_bipush hx hb dX7_note_12 (by decide) ?_
        refine rv_icmp_ge (tgt := 38) hx hb dX7_note_14 (by decide) (by omega) (fun h14 => ?_) (fun h14 => ?_)
        · refine lv_aload_n hx hb dX7_note_38 rfl (lv_at hl 0 rfl) ?_
          refine lv_dup hx hb dX7_note_39 rfl ?_
          refine va_get (D := D) (ci := 6) (v := .int (iI un)) (C := RX7) (T := TX7) (N := 16) hx hb ht inTB_X7 hown hK hP 0 rfl rfl 6 (by decide) (ht _ tb_594) (fun _ h9 => h9) rfl dX7_note_40 ?_
          refine rv_iconst hx hb dX7_note_43 ?_
          refine rv_isub hx hb dX7_note_44 ?_
          refine va_put (D := D) (ci := 6) (v := .int (iI (un - 1))) (ty := tyX7 6) (C := RX7) (T := TX7) (N := 16) hx hb ht inTB_X7 tyX7 tyX7_ok nmX7 hown hK hP hD hS 0 rfl rfl 6 (by decide) (ht _ tb_594) (fun _ h9 => h9) rfl (tyX7_ok 6 (by decide)) rfl rfl (Nat.le_of_ble_eq_true rfl) dX7_note_45 (fun H locs hP hD hS => ?_)
          have hP : va_P D classes (mW cs ad len spot (un - 1) bo cu lo wh tx now rd B bl us lg bd dp) H := hP
          have hD : va_D A (mW cs ad len spot (un - 1) bo cu lo wh tx now rd B bl us lg bd dp) := hD
          obtain ⟨B0, hB0⟩ : ∃ B0, B0 = B := ⟨_, rfl⟩
          rw [← hB0] at hP hD
          refine rv_iconst hx hb dX7_note_48 ?_
          refine lv_istore_n (lv' := [(1, .int (iI 0)), (0, .ref (ad 0))]) hx hb dX7_note_49 rfl hl (by decide) rfl (fun ls hl => ?_)
          have loop50 : ∀ (fuel50 : Nat) (j : Nat) (C : Nat → Int), (j ≤ 24) → (∀ k : Nat, k < j → C (24 * ((un - 1)).toNat + k) = now k) → (∀ k : Nat, k < 24 * ((un - 1)).toNat → C k = B0 k) → 24 - j < fuel50 → ∀ (x1 : Int), x1 = (j : Int) → ∀ (H : Heap) (locs : List Loc), va_P D classes (mW cs ad len spot (un - 1) bo cu lo wh tx now rd C bl us lg bd dp) H → va_D A (mW cs ad len spot (un - 1) bo cu lo wh tx now rd C bl us lg bd dp) → va_S A s.heap H locs → ∀ ls : Array Slot, lv_has ls 2 [(0, .ref (ad 0)), (1, .int (iI x1))] → W pg l ev rm_X7_note s m [.ref (ad 0)].toArray below meth c H locs 0 0 Q (F0 m 50 ls []) := by
            intro fuel50
            induction fuel50 with
            | zero => intro j C hj hr1 hr2 hfuel50; exact absurd hfuel50 (Nat.not_lt_zero _)
            | succ fuel50 ih50 =>
              intro j C hj hr1 hr2 hfuel50 x1 ex1 H locs hP hD hS ls hl
              subst ex1
              refine lv_iload_n hx hb dX7_note_50 rfl (lv_at hl 1 rfl) ?_
              refine rv_bipush hx hb dX7_note_51 (by decide) ?_
              refine rv_icmp_ge (tgt := 82) hx hb dX7_note_53 (by decide) (by omega) (fun h53 => ?_) (fun h53 => ?_)
              · refine lv_aload_n hx hb dX7_note_82 rfl (lv_at hl 0 rfl) ?_
                refine lv_dup hx hb dX7_note_83 rfl ?_
                refine va_get (D := D) (ci := 6) (v := .int (iI (un - 1))) (C := RX7) (T := TX7) (N := 16) hx hb ht inTB_X7 hown hK hP 0 rfl rfl 6 (by decide) (ht _ tb_594) (fun _ h9 => h9) rfl dX7_note_84 ?_
                refine rv_iconst hx hb dX7_note_87 ?_
                refine rv_iadd hx hb dX7_note_88 ?_
                refine va_put (D := D) (ci := 6) (v := .int (iI ((un - 1) + 1))) (ty := tyX7 6) (C := RX7) (T := TX7) (N := 16) hx hb ht inTB_X7 tyX7 tyX7_ok nmX7 hown hK hP hD hS 0 rfl rfl 6 (by decide) (ht _ tb_594) (fun _ h9 => h9) rfl (tyX7_ok 6 (by decide)) rfl rfl (Nat.le_of_ble_eq_true rfl) dX7_note_89 (fun H locs hP hD hS => ?_)
                have hP : va_P D classes (mW cs ad len spot ((un - 1) + 1) bo cu lo wh tx now rd C bl us lg bd dp) H := hP
                have hD : va_D A (mW cs ad len spot ((un - 1) + 1) bo cu lo wh tx now rd C bl us lg bd dp) := hD
                subst hQ
                exact W.vret hx hb hr (fun t9 ht9 hW9 => ⟨⟨(), rfl, trivial, ⟨((un - 1) + 1), C, ⟨fun q => by omega, fun _ => ⟨by omega, fun k h => by rw [hr2 k (by omega), hB0]; exact hq k (by omega)⟩, fun k h => by rw [show (un - 1 + 1 - 1).toNat = (un - 1).toNat by omega]; exact hr1 k (by omega)⟩, by rw [ht9]; exact hP, by rw [hAe]; exact hD⟩⟩, by rw [hAe]; exact hS.F ht9⟩) (by rw [hAe]; exact hS.2.2) dX7_note_92
              · refine lv_aload_n hx hb dX7_note_56 rfl (lv_at hl 0 rfl) ?_
                refine va_get (D := D) (ci := 6) (v := .ref (ad 4)) (C := RX7) (T := TX7) (N := 16) hx hb ht inTB_X7 hown hK hP 0 rfl rfl 5 (by decide) (ht _ tb_593) (fun _ h9 => h9) rfl dX7_note_57 ?_
                refine rv_bipush hx hb dX7_note_60 (by decide) ?_
                refine lv_aload_n hx hb dX7_note_62 rfl (lv_at hl 0 rfl) ?_
                refine va_get (D := D) (ci := 6) (v := .int (iI (un - 1))) (C := RX7) (T := TX7) (N := 16) hx hb ht inTB_X7 hown hK hP 0 rfl rfl 6 (by decide) (ht _ tb_594) (fun _ h9 => h9) rfl dX7_note_63 ?_
                refine rv_imul hx hb dX7_note_66 ?_
                refine lv_iload_n hx hb dX7_note_67 rfl (lv_at hl 1 rfl) ?_
                refine rv_iadd hx hb dX7_note_68 ?_
                refine lv_aload_n hx hb dX7_note_69 rfl (lv_at hl 0 rfl) ?_
                refine va_get (D := D) (ci := 6) (v := .ref (ad 2)) (C := RX7) (T := TX7) (N := 16) hx hb ht inTB_X7 hown hK hP 0 rfl rfl 3 (by decide) (ht _ tb_591) (fun _ h9 => h9) rfl dX7_note_70 ?_
                refine lv_iload_n hx hb dX7_note_73 rfl (lv_at hl 1 rfl) ?_
                refine rv_iald hx hb hK hP 2 0 rfl rfl j rfl (by omega) dX7_note_74 ?_
                refine rv_iast hx hb hK hP hD hS 4 0 rfl rfl (24 * ((un - 1)).toNat + j) (by omega) (by omega) dX7_note_75 (fun H locs hP hD hS => ?_)
                have hP : va_P D classes (mW cs ad len spot (un - 1) bo cu lo wh tx now rd (upI C (24 * ((un - 1)).toNat + j) (now j)) bl us lg bd dp) H := hP
                have hD : va_D A (mW cs ad len spot (un - 1) bo cu lo wh tx now rd (upI C (24 * ((un - 1)).toNat + j) (now j)) bl us lg bd dp) := hD
                refine rv_iinc (k := 1) (lv' := [(1, .int (iI ((j : Int) + 1))), (0, .ref (ad 0))]) hx hb dX7_note_76 hl rfl (by decide) rfl (fun ls hl => ?_)
                refine lv_goto (tgt := 50) hx hb dX7_note_79 (by decide) ?_
                exact ih50 (j + 1) (upI C (24 * ((un - 1)).toNat + j) (now j)) (by omega) (fun k h => by rcases Nat.lt_or_ge k j with q | q; rw [upI_n (by omega)]; exact hr1 k q; rw [show k = j by omega, upI_s]) (fun k h => by rw [upI_n (by omega)]; exact hr2 k h) (by omega) _ (by omega) H locs hP hD hS ls (lv_sub hl [1, 0] rfl)
          exact loop50 (_ + 1) 0 B0 (by omega) (fun k h => absurd h (Nat.not_lt_zero _)) (fun k _ => rfl) (Nat.lt_succ_self _) _ rfl H locs hP hD hS ls (lv_sub hl [1, 0] rfl)
        · refine lv_aload_n hx hb dX7_note_17 rfl (lv_at hl 0 rfl) ?_
          refine va_get (D := D) (ci := 6) (v := .ref (ad 4)) (C := RX7) (T := TX7) (N := 16) hx hb ht inTB_X7 hown hK hP 0 rfl rfl 5 (by decide) (ht _ tb_593) (fun _ h9 => h9) rfl dX7_note_18 ?_
          refine lv_iload_n hx hb dX7_note_21 rfl (lv_at hl 1 rfl) ?_
          refine lv_aload_n hx hb dX7_note_22 rfl (lv_at hl 0 rfl) ?_
          refine va_get (D := D) (ci := 6) (v := .ref (ad 4)) (C := RX7) (T := TX7) (N := 16) hx hb ht inTB_X7 hown hK hP 0 rfl rfl 5 (by decide) (ht _ tb_593) (fun _ h9 => h9) rfl dX7_note_23 ?_
          refine rv_bipush hx hb dX7_note_26 (by decide) ?_
          refine lv_iload_n hx hb dX7_note_28 rfl (lv_at hl 1 rfl) ?_
          refine rv_iadd hx hb dX7_note_29 ?_
          refine rv_iald hx hb hK hP 4 0 rfl rfl (24 + i) (by omega) (by omega) dX7_note_30 ?_
          refine rv_iast hx hb hK hP hD hS 4 0 rfl rfl i rfl (by omega) dX7_note_31 (fun H locs hP hD hS => ?_)
          have hP : va_P D classes (mW cs ad len spot un bo cu lo wh tx now rd (upI B i (B (24 + i))) bl us lg bd dp) H := hP
          have hD : va_D A (mW cs ad len spot un bo cu lo wh tx now rd (upI B i (B (24 + i))) bl us lg bd dp) := hD
          refine rv_iinc (k := 1) (lv' := [(1, .int (iI ((i : Int) + 1))), (0, .ref (ad 0))]) hx hb dX7_note_32 hl rfl (by decide) rfl (fun ls hl => ?_)
          refine lv_goto (tgt := 11) hx hb dX7_note_35 (by decide) ?_
          exact ih11 (i + 1) (upI B i (B (24 + i))) (by omega) (fun k h => by rcases Nat.lt_or_ge k i with q | q; rw [upI_n (by omega)]; exact hq k q; rw [show k = i by omega, upI_s, hq2 _ (by omega)]) (fun k h => by rw [upI_n (by omega)]; exact hq2 k (by omega)) (by omega) _ (by omega) H locs hP hD hS ls (lv_sub hl [1, 0] rfl)
    exact loop11 (_ + 1) 0 bf (by omega) (fun k h => absurd h (Nat.not_lt_zero _)) (fun k _ => rfl) (Nat.lt_succ_self _) _ rfl H locs hP hD hS ls (lv_sub hl [1, 0] rfl)

abbrev rm_X7_undo : Room := { frames := 0, cells := 0, slots := 0, locals := 0 }
set_option maxHeartbeats 8000000 in
set_option maxRecDepth 100000 in
/-- undo -/
theorem c_X7_undo (l : Launch) (D : va_G) (cs : Nat → ClassId) (ad : Nat → Nat) (sz : Nat) (len : Int) (spot : Int) (un : Int) (bo : Int) (cu : Int) (lo : Int) (wh : Int) (tx : Nat → Int) (now : Nat → Int) (rd : Nat → Int) (bf : Nat → Int) (bl : Nat → Int) (us : Nat → Int) (lg : Nat → Int) (bd : Nat → Int) (dp : Nat → Int) (hun : 0 ≤ un ∧ un ≤ 6) : Met l yX7_undo (Cond.code yX7_undo cX7_undo 2 (some .int) :: TB) rm_X7_undo (va_Pc [.ref (ad 0)] (MPre D cs sz (mW cs ad len spot un bo cu lo wh tx now rd bf bl us lg bd dp) (fun _ _ => True))) (va_Qi (fun (r u : Int32) => r = u) (fun r t => ∃ (now2 : Nat → Int), (r = iI (cif (un = 0) (-2) (un - 1))) ∧ (un = 0 → now2 = now) ∧ (¬ un = 0 → ∀ j : Nat, j < 24 → now2 j = bf (24 * (un - 1).toNat + j)) ∧ va_P D classes (mW cs ad len spot (cif (un = 0) 0 (un - 1)) bo cu lo wh tx now2 rd bf bl us lg bd dp) t.heap ∧ va_D (va_A (mW cs ad len spot un bo cu lo wh tx now rd bf bl us lg bd dp) sz) (mW cs ad len spot (cif (un = 0) 0 (un - 1)) bo cu lo wh tx now2 rd bf bl us lg bd dp)) (va_A (mW cs ad len spot un bo cu lo wh tx now rd bf bl us lg bd dp) sz)) 0 0 (va_A (mW cs ad len spot un bo cu lo wh tx now rd bf bl us lg bd dp) sz) := by
  refine enter (cc := cX7_undo) (maxL := 2) (ret := (some .int)) (by decide) (Nat.le_of_ble_eq_true rfl) ?_
  intro pg ev s m below meth c Q ls hx hb hml hown hts hr hlocks hnm ⟨hsz, hP, hD0, hK, hX0⟩ hl hQ
  have ht : ∀ w ∈ TB, w.before _ s = true := fun w h => hts w (List.mem_cons_of_mem _ h)
  subst hsz
  have hD := hD0.self (sz := s.heap.size)
  obtain ⟨A, hAe⟩ : ∃ A, va_A (mW cs ad len spot un bo cu lo wh tx now rd bf bl us lg bd dp) s.heap.size = A := ⟨_, rfl⟩
  rw [hAe] at hD
  have hA : ∀ q : Nat, s.heap.size ≤ q → A q := fun q h => by rw [← hAe]; exact Or.inr h
  obtain ⟨H, hH⟩ : ∃ H, H = s.heap := ⟨_, rfl⟩
  obtain ⟨locs, hlocs⟩ : ∃ locs : List Loc, locs = [] := ⟨_, rfl⟩
  have hS : va_S A s.heap H locs := by rw [hH, hlocs]; exact va_S.rf
  rw [← hH] at hP
  suffices hgo : W pg l ev rm_X7_undo s m [.ref (ad 0)].toArray below meth c H locs 0 0 Q (F0 m 0 ls []) by rw [hH, hlocs] at hgo; exact hgo
  have hl : lv_has ls 2 [(0, .ref (ad 0))] := hl
  refine lv_aload_n hx hb dX7_undo_0 rfl (lv_at hl 0 rfl) ?_
  refine va_get (D := D) (ci := 6) (v := .int (iI un)) (C := RX7) (T := TX7) (N := 16) hx hb ht inTB_X7 hown hK hP 0 rfl rfl 6 (by decide) (ht _ tb_594) (fun _ h9 => h9) rfl dX7_undo_1 ?_
  refine rv_if_ne (tgt := 10) hx hb dX7_undo_4 (by decide) (by omega) (fun h4 => ?_) (fun h4 => ?_)
  · refine lv_aload_n hx hb dX7_undo_10 rfl (lv_at hl 0 rfl) ?_
    refine lv_dup hx hb dX7_undo_11 rfl ?_
    refine va_get (D := D) (ci := 6) (v := .int (iI un)) (C := RX7) (T := TX7) (N := 16) hx hb ht inTB_X7 hown hK hP 0 rfl rfl 6 (by decide) (ht _ tb_594) (fun _ h9 => h9) rfl dX7_undo_12 ?_
    refine rv_iconst hx hb dX7_undo_15 ?_
    refine rv_isub hx hb dX7_undo_16 ?_
    refine va_put (D := D) (ci := 6) (v := .int (iI (un - 1))) (ty := tyX7 6) (C := RX7) (T := TX7) (N := 16) hx hb ht inTB_X7 tyX7 tyX7_ok nmX7 hown hK hP hD hS 0 rfl rfl 6 (by decide) (ht _ tb_594) (fun _ h9 => h9) rfl (tyX7_ok 6 (by decide)) rfl rfl (Nat.le_of_ble_eq_true rfl) dX7_undo_17 (fun H locs hP hD hS => ?_)
    have hP : va_P D classes (mW cs ad len spot (un - 1) bo cu lo wh tx now rd bf bl us lg bd dp) H := hP
    have hD : va_D A (mW cs ad len spot (un - 1) bo cu lo wh tx now rd bf bl us lg bd dp) := hD
    refine rv_iconst hx hb dX7_undo_20 ?_
    refine lv_istore_n (lv' := [(1, .int (iI 0)), (0, .ref (ad 0))]) hx hb dX7_undo_21 rfl hl (by decide) rfl (fun ls hl => ?_)
    have loop22 : ∀ (fuel22 : Nat) (i : Nat) (B : Nat → Int), (i ≤ 24) → (∀ k : Nat, k < i → B k = bf (24 * (un - 1).toNat + k)) → 24 - i < fuel22 → ∀ (x1 : Int), x1 = (i : Int) → ∀ (H : Heap) (locs : List Loc), va_P D classes (mW cs ad len spot (un - 1) bo cu lo wh tx B rd bf bl us lg bd dp) H → va_D A (mW cs ad len spot (un - 1) bo cu lo wh tx B rd bf bl us lg bd dp) → va_S A s.heap H locs → ∀ ls : Array Slot, lv_has ls 2 [(0, .ref (ad 0)), (1, .int (iI x1))] → W pg l ev rm_X7_undo s m [.ref (ad 0)].toArray below meth c H locs 0 0 Q (F0 m 22 ls []) := by
      intro fuel22
      induction fuel22 with
      | zero => intro i B hi hq hfuel22; exact absurd hfuel22 (Nat.not_lt_zero _)
      | succ fuel22 ih22 =>
        intro i B hi hq hfuel22 x1 ex1 H locs hP hD hS ls hl
        subst ex1
        refine lv_iload_n hx hb dX7_undo_22 rfl (lv_at hl 1 rfl) ?_
        refine rv_bipush hx hb dX7_undo_23 (by decide) ?_
        refine rv_icmp_ge (tgt := 54) hx hb dX7_undo_25 (by decide) (by omega) (fun h25 => ?_) (fun h25 => ?_)
        · refine lv_aload_n hx hb dX7_undo_54 rfl (lv_at hl 0 rfl) ?_
          refine va_get (D := D) (ci := 6) (v := .int (iI (un - 1))) (C := RX7) (T := TX7) (N := 16) hx hb ht inTB_X7 hown hK hP 0 rfl rfl 6 (by decide) (ht _ tb_594) (fun _ h9 => h9) rfl dX7_undo_55 ?_
          have e1 : cif (un = 0) 0 (un - 1) = un - 1 := by rw [cif_neg h4]
          subst hQ
          exact W.iret hx hb hr (fun t9 ht9 hW9 => ⟨⟨_, _, rfl, rfl, ⟨B, by rw [cif_neg h4], fun q => absurd q h4, fun _ k h => hq k (by omega), by rw [ht9]; (first | rw [e1, e2] | rw [e1] | skip); exact hP, by rw [hAe]; (first | rw [e1, e2] | rw [e1] | skip); exact hD⟩⟩, by rw [hAe]; exact hS.F ht9⟩) (by rw [hAe]; exact hS.2.2) dX7_undo_58
        · refine lv_aload_n hx hb dX7_undo_28 rfl (lv_at hl 0 rfl) ?_
          refine va_get (D := D) (ci := 6) (v := .ref (ad 2)) (C := RX7) (T := TX7) (N := 16) hx hb ht inTB_X7 hown hK hP 0 rfl rfl 3 (by decide) (ht _ tb_591) (fun _ h9 => h9) rfl dX7_undo_29 ?_
          refine lv_iload_n hx hb dX7_undo_32 rfl (lv_at hl 1 rfl) ?_
          refine lv_aload_n hx hb dX7_undo_33 rfl (lv_at hl 0 rfl) ?_
          refine va_get (D := D) (ci := 6) (v := .ref (ad 4)) (C := RX7) (T := TX7) (N := 16) hx hb ht inTB_X7 hown hK hP 0 rfl rfl 5 (by decide) (ht _ tb_593) (fun _ h9 => h9) rfl dX7_undo_34 ?_
          refine rv_bipush hx hb dX7_undo_37 (by decide) ?_
          refine lv_aload_n hx hb dX7_undo_39 rfl (lv_at hl 0 rfl) ?_
          refine va_get (D := D) (ci := 6) (v := .int (iI (un - 1))) (C := RX7) (T := TX7) (N := 16) hx hb ht inTB_X7 hown hK hP 0 rfl rfl 6 (by decide) (ht _ tb_594) (fun _ h9 => h9) rfl dX7_undo_40 ?_
          refine rv_imul hx hb dX7_undo_43 ?_
          refine lv_iload_n hx hb dX7_undo_44 rfl (lv_at hl 1 rfl) ?_
          refine rv_iadd hx hb dX7_undo_45 ?_
          refine rv_iald hx hb hK hP 4 0 rfl rfl (24 * (un - 1).toNat + i) (by omega) (by omega) dX7_undo_46 ?_
          refine rv_iast hx hb hK hP hD hS 2 0 rfl rfl i rfl (by omega) dX7_undo_47 (fun H locs hP hD hS => ?_)
          have hP : va_P D classes (mW cs ad len spot (un - 1) bo cu lo wh tx (upI B i (bf (24 * (un - 1).toNat + i))) rd bf bl us lg bd dp) H := hP
          have hD : va_D A (mW cs ad len spot (un - 1) bo cu lo wh tx (upI B i (bf (24 * (un - 1).toNat + i))) rd bf bl us lg bd dp) := hD
          refine rv_iinc (k := 1) (lv' := [(1, .int (iI ((i : Int) + 1))), (0, .ref (ad 0))]) hx hb dX7_undo_48 hl rfl (by decide) rfl (fun ls hl => ?_)
          refine lv_goto (tgt := 22) hx hb dX7_undo_51 (by decide) ?_
          exact ih22 (i + 1) (upI B i (bf (24 * (un - 1).toNat + i))) (by omega) (fun k h => by rcases Nat.lt_or_ge k i with q | q; rw [upI_n (by omega)]; exact hq k q; rw [show k = i by omega, upI_s]) (by omega) _ (by omega) H locs hP hD hS ls (lv_sub hl [1, 0] rfl)
    exact loop22 (_ + 1) 0 now (by omega) (fun k h => absurd h (Nat.not_lt_zero _)) (Nat.lt_succ_self _) _ rfl H locs hP hD hS ls (lv_sub hl [1, 0] rfl)
  · refine rv_bipush hx hb dX7_undo_7 (by decide) ?_
    have e1 : cif (un = 0) 0 (un - 1) = un := by rw [cif_pos h4]; omega
    subst hQ
    exact W.iret hx hb hr (fun t9 ht9 hW9 => ⟨⟨_, _, rfl, rfl, ⟨now, by rw [cif_pos h4], fun _ => rfl, fun q => absurd h4 q, by rw [ht9]; (first | rw [e1, e2] | rw [e1] | skip); exact hP, by rw [hAe]; (first | rw [e1, e2] | rw [e1] | skip); exact hD⟩⟩, by rw [hAe]; exact hS.F ht9⟩) (by rw [hAe]; exact hS.2.2) dX7_undo_9

abbrev rm_X7_becomes : Room := { frames := 1, cells := 0, slots := 0, locals := 21 }
set_option maxHeartbeats 8000000 in
set_option maxRecDepth 100000 in
/-- becomes -/
theorem c_X7_becomes (l : Launch) (D : va_G) (cs : Nat → ClassId) (ad : Nat → Nat) (sz : Nat) (len : Int) (spot : Int) (un : Int) (bo : Int) (cu : Int) (lo : Int) (wh : Int) (tx : Nat → Int) (now : Nat → Int) (rd : Nat → Int) (bf : Nat → Int) (bl : Nat → Int) (us : Nat → Int) (lg : Nat → Int) (bd : Nat → Int) (dp : Nat → Int) (a_ : Int) (x : Int) (hun : 0 ≤ un ∧ un ≤ 6) (ha : 0 ≤ a_ ∧ a_ < 24) (hx1 : -2147483648 ≤ x ∧ x < 2147483648) (hna : -2147483648 ≤ now a_.toNat ∧ now a_.toNat < 2147483648) : Met l yX7_becomes (Cond.code yX7_becomes cX7_becomes 4 (some .int) :: TB) rm_X7_becomes (va_Pc [.ref (ad 0), .int (iI a_), .int (iI x)] (MPre D cs sz (mW cs ad len spot un bo cu lo wh tx now rd bf bl us lg bd dp) (fun _ _ => True))) (va_Qi (fun (r u : Int32) => r = u) (fun r t => ∃ (now2 : Nat → Int) (un2 : Int) (bf2 : Nat → Int), (r = iI (aBec now a_.toNat x)) ∧ (Beca now un bf a_.toNat x now2 un2 bf2) ∧ va_P D classes (mW cs ad len spot un2 bo cu lo wh tx now2 rd bf2 bl us lg bd dp) t.heap ∧ va_D (va_A (mW cs ad len spot un bo cu lo wh tx now rd bf bl us lg bd dp) sz) (mW cs ad len spot un2 bo cu lo wh tx now2 rd bf2 bl us lg bd dp)) (va_A (mW cs ad len spot un bo cu lo wh tx now rd bf bl us lg bd dp) sz)) 0 0 (va_A (mW cs ad len spot un bo cu lo wh tx now rd bf bl us lg bd dp) sz) := by
  refine enter (cc := cX7_becomes) (maxL := 4) (ret := (some .int)) (by decide) (Nat.le_of_ble_eq_true rfl) ?_
  intro pg ev s m below meth c Q ls hx hb hml hown hts hr hlocks hnm ⟨hsz, hP, hD0, hK, hX0⟩ hl hQ
  have ht : ∀ w ∈ TB, w.before _ s = true := fun w h => hts w (List.mem_cons_of_mem _ h)
  subst hsz
  have hD := hD0.self (sz := s.heap.size)
  obtain ⟨A, hAe⟩ : ∃ A, va_A (mW cs ad len spot un bo cu lo wh tx now rd bf bl us lg bd dp) s.heap.size = A := ⟨_, rfl⟩
  rw [hAe] at hD
  have hA : ∀ q : Nat, s.heap.size ≤ q → A q := fun q h => by rw [← hAe]; exact Or.inr h
  obtain ⟨H, hH⟩ : ∃ H, H = s.heap := ⟨_, rfl⟩
  obtain ⟨locs, hlocs⟩ : ∃ locs : List Loc, locs = [] := ⟨_, rfl⟩
  have hS : va_S A s.heap H locs := by rw [hH, hlocs]; exact va_S.rf
  rw [← hH] at hP
  suffices hgo : W pg l ev rm_X7_becomes s m [.ref (ad 0), .int (iI a_), .int (iI x)].toArray below meth c H locs 0 0 Q (F0 m 0 ls []) by rw [hH, hlocs] at hgo; exact hgo
  have hl : lv_has ls 4 [(0, .ref (ad 0)), (1, .int (iI a_)), (2, .int (iI x))] := hl
  refine lv_aload_n hx hb dX7_becomes_0 rfl (lv_at hl 0 rfl) ?_
  refine va_get (D := D) (ci := 6) (v := .ref (ad 2)) (C := RX7) (T := TX7) (N := 16) hx hb ht inTB_X7 hown hK hP 0 rfl rfl 3 (by decide) (ht _ tb_591) (fun _ h9 => h9) rfl dX7_becomes_1 ?_
  refine lv_iload_n hx hb dX7_becomes_4 rfl (lv_at hl 1 rfl) ?_
  refine rv_iald hx hb hK hP 2 0 rfl rfl a_.toNat (by omega) (by omega) dX7_becomes_5 ?_
  refine lv_istore_n (lv' := [(3, .int (iI (now a_.toNat))), (0, .ref (ad 0)), (1, .int (iI a_)), (2, .int (iI x))]) hx hb dX7_becomes_6 rfl hl (by decide) rfl (fun ls hl => ?_)
  refine lv_iload_n hx hb dX7_becomes_7 rfl (lv_at hl 0 rfl) ?_
  refine lv_iload_n hx hb dX7_becomes_8 rfl (lv_at hl 3 rfl) ?_
  refine rv_icmp_ne (tgt := 15) hx hb dX7_becomes_9 (by decide) (by omega) (fun h9 => ?_) (fun h9 => ?_)
  · refine lv_aload_n hx hb dX7_becomes_15 rfl (lv_at hl 1 rfl) ?_
    have hFc := va_free (wc := (mW cs ad len spot un bo cu lo wh tx now rd bf bl us lg bd dp)) hD hS hA [0, 1, 2, 3, 4, 5, 6, 7, 8, 9] rfl
    refine va_callv (va_runV (As := []) (rest := []) ⟨hx, hb, hml, hown, hts⟩ (c_X7_note l D cs ad H.size len spot un bo cu lo wh tx now rd bf bl us lg bd dp (by omega)) (cwV 0 hts (gV tb_725 tb_727 tbs_22 tb_8 tb_728) rfl rfl rfl (by decide +kernel) ⟨Nat.le_of_ble_eq_true rfl, Nat.le_of_ble_eq_true rfl⟩) (preV_M (X := fun _ _ => True) Stb_T hK (va_recv hK hP (ci := 6) (q0 := 0) rfl rfl) hP hD trivial) rfl rfl hl.1 rfl (lv_room (Nat.le_of_ble_eq_true rfl)) dX7_becomes_16 ⟨Nat.le_of_ble_eq_true rfl, Nat.le_of_ble_eq_true rfl⟩) hS (fun q _ h => hFc q h) hFc (fun u9 t9 H9 locs ht9 hvm9 hw9 hB9 hz9 hk9 hS => ?_)
    obtain ⟨un2_16, bf2_16, hf16_0, hP1, hD1⟩ := hB9
    rw [ht9] at hP1
    have hP := hP1
    have hD := hD1.weaken (fun _ _ _ h => hFc _ h)
    generalize H9 = H at hP hS hz9 hk9 ht9 ⊢
    have hP : va_P D classes (mW cs ad len spot un2_16 bo cu lo wh tx now rd bf2_16 bl us lg bd dp) H := hP
    have hD : va_D A (mW cs ad len spot un2_16 bo cu lo wh tx now rd bf2_16 bl us lg bd dp) := hD
    refine lv_aload_n hx hb dX7_becomes_19 rfl (lv_at hl 1 rfl) ?_
    refine va_get (D := D) (ci := 6) (v := .ref (ad 2)) (C := RX7) (T := TX7) (N := 16) hx hb ht inTB_X7 hown hK hP 0 rfl rfl 3 (by decide) (ht _ tb_591) (fun _ h9 => h9) rfl dX7_becomes_20 ?_
    refine lv_iload_n hx hb dX7_becomes_23 rfl (lv_at hl 2 rfl) ?_
    refine lv_iload_n hx hb dX7_becomes_24 rfl (lv_at hl 3 rfl) ?_
    refine rv_iast hx hb hK hP hD hS 2 0 rfl rfl a_.toNat (by omega) (by omega) dX7_becomes_25 (fun H locs hP hD hS => ?_)
    have hP : va_P D classes (mW cs ad len spot un2_16 bo cu lo wh tx (upI now a_.toNat x) rd bf2_16 bl us lg bd dp) H := hP
    have hD : va_D A (mW cs ad len spot un2_16 bo cu lo wh tx (upI now a_.toNat x) rd bf2_16 bl us lg bd dp) := hD
    refine lv_iload_n hx hb dX7_becomes_26 rfl (lv_at hl 0 rfl) ?_
    subst hQ
    exact W.iret hx hb hr (fun t9 ht9 hW9 => ⟨⟨_, _, rfl, rfl, ⟨(upI now a_.toNat x), un2_16, bf2_16, by rw [aBec, cif_neg h9], ⟨fun q => absurd q h9, fun _ => ⟨rfl, hf16_0⟩⟩, by rw [ht9]; exact hP, by rw [hAe]; exact hD⟩⟩, by rw [hAe]; exact hS.F ht9⟩) (by rw [hAe]; exact hS.2.2) dX7_becomes_27
  · refine rv_bipush hx hb dX7_becomes_12 (by decide) ?_
    subst hQ
    exact W.iret hx hb hr (fun t9 ht9 hW9 => ⟨⟨_, _, rfl, rfl, ⟨now, un, bf, by rw [aBec, cif_pos h9], ⟨fun _ => ⟨rfl, rfl, rfl⟩, fun q => absurd h9 q⟩, by rw [ht9]; exact hP, by rw [hAe]; exact hD⟩⟩, by rw [hAe]; exact hS.F ht9⟩) (by rw [hAe]; exact hS.2.2) dX7_becomes_14

abbrev rm_X7_set : Room := { frames := 3, cells := 0, slots := 0, locals := 70 }
set_option maxHeartbeats 8000000 in
set_option maxRecDepth 100000 in
/-- set -/
theorem c_X7_set (l : Launch) (D : va_G) (cs : Nat → ClassId) (ad : Nat → Nat) (sz : Nat) (len : Int) (spot : Int) (un : Int) (bo : Int) (cu : Int) (lo : Int) (wh : Int) (tx : Nat → Int) (now : Nat → Int) (rd : Nat → Int) (bf : Nat → Int) (bl : Nat → Int) (us : Nat → Int) (lg : Nat → Int) (bd : Nat → Int) (dp : Nat → Int) (p : Int) (what : Int) (x : Int) (hvL : vL now) (hun : 0 ≤ un ∧ un ≤ 6) (hp0 : -2147483648 ≤ p ∧ p < 2147483648) (hw : -2147483648 ≤ what ∧ what < 2147483648) (hx1 : -2147483648 ≤ x ∧ x < 2147483648) : Met l yX7_set (Cond.code yX7_set cX7_set 6 (some .int) :: TB) rm_X7_set (va_Pc [.ref (ad 0), .int (iI p), .int (iI what), .int (iI x)] (MPre D cs sz (mW cs ad len spot un bo cu lo wh tx now rd bf bl us lg bd dp) (fun _ _ => True))) (va_Qi (fun (r u : Int32) => r = u) (fun r t => ∃ (now2 : Nat → Int) (un2 : Int) (bf2 : Nat → Int), (r = iI (aSet now p what x)) ∧ ((¬ okSet now p what x → now2 = now ∧ un2 = un ∧ bf2 = bf) ∧ (okSet now p what x → Beca now un bf (5 * p.toNat + 2 + what.toNat) x now2 un2 bf2)) ∧ va_P D classes (mW cs ad len spot un2 bo cu lo wh tx now2 rd bf2 bl us lg bd dp) t.heap ∧ va_D (va_A (mW cs ad len spot un bo cu lo wh tx now rd bf bl us lg bd dp) sz) (mW cs ad len spot un2 bo cu lo wh tx now2 rd bf2 bl us lg bd dp)) (va_A (mW cs ad len spot un bo cu lo wh tx now rd bf bl us lg bd dp) sz)) 0 0 (va_A (mW cs ad len spot un bo cu lo wh tx now rd bf bl us lg bd dp) sz) := by
  refine enter (cc := cX7_set) (maxL := 6) (ret := (some .int)) (by decide) (Nat.le_of_ble_eq_true rfl) ?_
  intro pg ev s m below meth c Q ls hx hb hml hown hts hr hlocks hnm ⟨hsz, hP, hD0, hK, hX0⟩ hl hQ
  have ht : ∀ w ∈ TB, w.before _ s = true := fun w h => hts w (List.mem_cons_of_mem _ h)
  subst hsz
  have hD := hD0.self (sz := s.heap.size)
  obtain ⟨A, hAe⟩ : ∃ A, va_A (mW cs ad len spot un bo cu lo wh tx now rd bf bl us lg bd dp) s.heap.size = A := ⟨_, rfl⟩
  rw [hAe] at hD
  have hA : ∀ q : Nat, s.heap.size ≤ q → A q := fun q h => by rw [← hAe]; exact Or.inr h
  obtain ⟨H, hH⟩ : ∃ H, H = s.heap := ⟨_, rfl⟩
  obtain ⟨locs, hlocs⟩ : ∃ locs : List Loc, locs = [] := ⟨_, rfl⟩
  have hS : va_S A s.heap H locs := by rw [hH, hlocs]; exact va_S.rf
  rw [← hH] at hP
  suffices hgo : W pg l ev rm_X7_set s m [.ref (ad 0), .int (iI p), .int (iI what), .int (iI x)].toArray below meth c H locs 0 0 Q (F0 m 0 ls []) by rw [hH, hlocs] at hgo; exact hgo
  have hl : lv_has ls 6 [(0, .ref (ad 0)), (1, .int (iI p)), (2, .int (iI what)), (3, .int (iI x))] := hl
  obtain ⟨hv20, hv21, hv22, hv23, hvp⟩ := id hvL
  refine lv_aload_n hx hb dX7_set_0 rfl (lv_at hl 0 rfl) ?_
  refine lv_iload_n hx hb dX7_set_1 rfl (lv_at hl 1 rfl) ?_
  refine vp_callSi (W.runV (As := [.int (iI p)]) (rest := []) ⟨hx, hb, hml, hown, hts⟩ (c_X7_isPanel l D cs (ad 0) (ad 2) _ now p (by omega)) (cwV 1 hts (gV tb_716 tb_718 tbs_20 tb_8 tb_719) rfl rfl rfl (by decide +kernel) ⟨Nat.le_of_ble_eq_true rfl, Nat.le_of_ble_eq_true rfl⟩) (preV_mod hK ⟨hP.sub [0, 2] rfl, rfl, hvL⟩) rfl rfl hl.1 rfl (lv_room (Nat.le_of_ble_eq_true rfl)) dX7_set_2 ⟨Nat.le_of_ble_eq_true rfl, Nat.le_of_ble_eq_true rfl⟩) (fun r9 hr9 => ?_)
  rcases hr9 with ⟨rfl, hb2⟩ | ⟨rfl, hb2⟩
  · refine rv_if_eq (tgt := 20) hx hb dX7_set_5 (by decide) (by decide) (fun q => absurd q (by decide)) (fun _ => ?_)
    obtain ⟨hvk, hvn, hvf, hvo, hvw⟩ := vL_p hvL hb2
    have hnb := isPr_bd hvn
    have hpb := per_bd (k := pv now p 0) hvn
    have hfb := fOK_bd hvk hvn hvf
    refine lv_iload_n hx hb dX7_set_8 rfl (lv_at hl 2 rfl) ?_
    refine rv_i2l hx hb dX7_set_9 (by omega) ?_
    refine rv_lconst (z := 0) hx hb dX7_set_10 (by decide) ?_
    refine lv_ldc2 (v := lI 2) hx hb hown (ht _ tb_662) dX7_set_11 ?_
    refine vp_callSi (W.runS (As := [.long (lI what), .long (lI 0), .long (lI 2)]) (rest := []) ⟨hx, hb, hml, hown, hts⟩ (c_X7_in l what 0 2 (by omega) (by omega) (by omega)) (va_cwS 3 hts (gS tb_649 tb_650 tb_8 tb_651) rfl rfl rfl (by decide +kernel) ⟨Nat.le_of_ble_eq_true rfl, Nat.le_of_ble_eq_true rfl⟩) preS0 rfl rfl hl.1 rfl (lv_room (Nat.le_of_ble_eq_true rfl)) dX7_set_14 ⟨Nat.le_of_ble_eq_true rfl, Nat.le_of_ble_eq_true rfl⟩) (fun r9 hr9 => ?_)
    rcases hr9 with ⟨rfl, hb14⟩ | ⟨rfl, hb14⟩
    · refine rv_if_ne (tgt := 22) hx hb dX7_set_17 (by decide) (by decide) (fun _ => ?_) (fun q => absurd q (by decide))
      refine lv_aload_n hx hb dX7_set_22 rfl (lv_at hl 0 rfl) ?_
      refine va_get (D := D) (ci := 6) (v := .ref (ad 2)) (C := RX7) (T := TX7) (N := 16) hx hb ht inTB_X7 hown hK hP 0 rfl rfl 3 (by decide) (ht _ tb_591) (fun _ h9 => h9) rfl dX7_set_23 ?_
      refine rv_iconst hx hb dX7_set_26 ?_
      refine lv_iload_n hx hb dX7_set_27 rfl (lv_at hl 1 rfl) ?_
      refine rv_imul hx hb dX7_set_28 ?_
      refine rv_iconst hx hb dX7_set_29 ?_
      refine rv_iadd hx hb dX7_set_30 ?_
      refine rv_iald hx hb hK hP 2 0 rfl rfl (5 * p.toNat + 1) (by omega) (by omega) dX7_set_31 ?_
      refine rv_top (y := pv now p 1) rfl ?_
      refine lv_istore (lv' := [(4, .int (iI (pv now p 1))), (0, .ref (ad 0)), (1, .int (iI p)), (2, .int (iI what)), (3, .int (iI x))]) hx hb dX7_set_32 hl (by decide) rfl (fun ls hl => ?_)
      refine lv_iload_n hx hb dX7_set_34 rfl (lv_at hl 3 rfl) ?_
      refine rv_if_ne (tgt := 55) hx hb dX7_set_35 (by decide) (by omega) (fun h35 => ?_) (fun h35 => ?_)
      · refine lv_iload_n hx hb dX7_set_55 rfl (lv_at hl 3 rfl) ?_
        refine rv_iconst hx hb dX7_set_56 ?_
        refine rv_icmp_ne (tgt := 74) hx hb dX7_set_57 (by decide) (by omega) (fun h57 => ?_) (fun h57 => ?_)
        · refine lv_iload_n hx hb dX7_set_74 rfl (lv_at hl 4 rfl) ?_
          refine rv_i2l hx hb dX7_set_75 (by omega) ?_
          refine rv_lconst (z := 1) hx hb dX7_set_76 (by decide) ?_
          refine lv_ldc2 (v := lI 40) hx hb hown (ht _ tb_720) dX7_set_77 ?_
          refine vp_callSi (W.runS (As := [.long (lI x), .long (lI 1), .long (lI 40)]) (rest := []) ⟨hx, hb, hml, hown, hts⟩ (c_X7_in l x 1 40 (by omega) (by omega) (by omega)) (va_cwS 3 hts (gS tb_649 tb_650 tb_8 tb_651) rfl rfl rfl (by decide +kernel) ⟨Nat.le_of_ble_eq_true rfl, Nat.le_of_ble_eq_true rfl⟩) preS0 rfl rfl hl.1 rfl (lv_room (Nat.le_of_ble_eq_true rfl)) dX7_set_80 ⟨Nat.le_of_ble_eq_true rfl, Nat.le_of_ble_eq_true rfl⟩) (fun r9 hr9 => ?_)
          rcases hr9 with ⟨rfl, hb80⟩ | ⟨rfl, hb80⟩
          · refine lv_istore (lv' := [(5, .int (iI 1)), (4, .int (iI (pv now p 1))), (0, .ref (ad 0)), (1, .int (iI p)), (2, .int (iI what)), (3, .int (iI x))]) hx hb dX7_set_83 hl (by decide) rfl (fun ls hl => ?_)
            refine lv_iload hx hb dX7_set_85 (lv_at hl 0 rfl) ?_
            refine rv_if_eq (tgt := 105) hx hb dX7_set_87 (by decide) (by decide) (fun q => absurd q (by decide)) (fun _ => ?_)
            refine lv_aload_n hx hb dX7_set_90 rfl (lv_at hl 2 rfl) ?_
            refine rv_iconst hx hb dX7_set_91 ?_
            refine lv_iload_n hx hb dX7_set_92 rfl (lv_at hl 3 rfl) ?_
            refine rv_imul hx hb dX7_set_93 ?_
            refine rv_iconst hx hb dX7_set_94 ?_
            refine rv_iadd hx hb dX7_set_95 ?_
            refine lv_iload_n hx hb dX7_set_96 rfl (lv_at hl 4 rfl) ?_
            refine rv_iadd hx hb dX7_set_97 ?_
            refine lv_iload_n hx hb dX7_set_98 rfl (lv_at hl 5 rfl) ?_
            have hFc := va_free (wc := (mW cs ad len spot un bo cu lo wh tx now rd bf bl us lg bd dp)) hD hS hA [0, 1, 2, 3, 4, 5, 6, 7, 8, 9] rfl
            refine va_calli (va_runV (As := [.int (iI (((5 * p) + 2) + what)), .int (iI x)]) (rest := []) ⟨hx, hb, hml, hown, hts⟩ (c_X7_becomes l D cs ad H.size len spot un bo cu lo wh tx now rd bf bl us lg bd dp (((5 * p) + 2) + what) x (by omega) (by omega) (by omega) (by rcases (show what = 0 ∨ what = 1 ∨ what = 2 by omega) with z | z | z; rw [show (5 * p + 2 + what).toNat = 5 * p.toNat + 2 by omega]; exact (show -2147483648 ≤ pv now p 2 ∧ pv now p 2 < 2147483648 by omega); rw [show (5 * p + 2 + what).toNat = 5 * p.toNat + 3 by omega]; exact (show -2147483648 ≤ pv now p 3 ∧ pv now p 3 < 2147483648 by omega); rw [show (5 * p + 2 + what).toNat = 5 * p.toNat + 4 by omega]; exact (show -2147483648 ≤ pv now p 4 ∧ pv now p 4 < 2147483648 by omega))) (cwV 2 hts (gV tb_721 tb_723 tbs_21 tb_8 tb_724) rfl rfl rfl (by decide +kernel) ⟨Nat.le_of_ble_eq_true rfl, Nat.le_of_ble_eq_true rfl⟩) (preV_M (X := fun _ _ => True) Stb_T hK (va_recv hK hP (ci := 6) (q0 := 0) rfl rfl) hP hD trivial) rfl rfl hl.1 rfl (lv_room (Nat.le_of_ble_eq_true rfl)) dX7_set_99 ⟨Nat.le_of_ble_eq_true rfl, Nat.le_of_ble_eq_true rfl⟩) hS (fun q _ h => hFc q h) hFc (fun r9 u9 t9 H9 locs ht9 hvm9 hw9 hB9 hz9 hk9 hS => ?_)
            obtain rfl := hw9
            obtain ⟨now2_99, un2_99, bf2_99, hf99_0, hf99_1, hP1, hD1⟩ := hB9
            rw [ht9] at hP1
            have hP := hP1
            have hD := hD1.weaken (fun _ _ _ h => hFc _ h)
            generalize H9 = H at hP hS hz9 hk9 ht9 ⊢
            have hP : va_P D classes (mW cs ad len spot un2_99 bo cu lo wh tx now2_99 rd bf2_99 bl us lg bd dp) H := hP
            have hD : va_D A (mW cs ad len spot un2_99 bo cu lo wh tx now2_99 rd bf2_99 bl us lg bd dp) := hD
            subst hf99_0
            refine lv_goto (tgt := 106) hx hb dX7_set_102 (by decide) ?_
            subst hQ
            exact W.iret hx hb hr (fun t9 ht9 hW9 => ⟨⟨_, _, rfl, rfl, ⟨now2_99, un2_99, bf2_99, by rw [aSet, cif_pos (show okSet now p what x from ⟨hb2, by first | exact Or.inl ⟨by omega, hb49⟩ | exact Or.inr (Or.inl (by omega)) | exact Or.inr (Or.inr (by omega))⟩), show 5 * p.toNat + 2 + what.toNat = (5 * p + 2 + what).toNat by omega], ⟨fun q => absurd (show okSet now p what x from ⟨hb2, by first | exact Or.inl ⟨by omega, hb49⟩ | exact Or.inr (Or.inl (by omega)) | exact Or.inr (Or.inr (by omega))⟩) q, fun _ => by rw [show 5 * p.toNat + 2 + what.toNat = (5 * p + 2 + what).toNat by omega]; exact hf99_1⟩, by rw [ht9]; exact hP, by rw [hAe]; exact hD⟩⟩, by rw [hAe]; exact hS.F ht9⟩) (by rw [hAe]; exact hS.2.2) dX7_set_106
          · refine lv_istore (lv' := [(5, .int (iI 0)), (4, .int (iI (pv now p 1))), (0, .ref (ad 0)), (1, .int (iI p)), (2, .int (iI what)), (3, .int (iI x))]) hx hb dX7_set_83 hl (by decide) rfl (fun ls hl => ?_)
            refine lv_iload hx hb dX7_set_85 (lv_at hl 0 rfl) ?_
            refine rv_if_eq (tgt := 105) hx hb dX7_set_87 (by decide) (by decide) (fun _ => ?_) (fun q => absurd q (by decide))
            refine rv_iconst hx hb dX7_set_105 ?_
            subst hQ
            exact W.iret hx hb hr (fun t9 ht9 hW9 => ⟨⟨_, _, rfl, rfl, ⟨now, un, bf, by rw [aSet, cif_neg (fun q => by rcases q.2 with z | z | z; (first | exact hb49 z.2 | omega); omega; omega)], ⟨fun _ => ⟨rfl, rfl, rfl⟩, fun q => absurd q (fun q => by rcases q.2 with z | z | z; (first | exact hb49 z.2 | omega); omega; omega)⟩, by rw [ht9]; exact hP, by rw [hAe]; exact hD⟩⟩, by rw [hAe]; exact hS.F ht9⟩) (by rw [hAe]; exact hS.2.2) dX7_set_106
        · refine lv_iload_n hx hb dX7_set_60 rfl (lv_at hl 4 rfl) ?_
          refine rv_i2l hx hb dX7_set_61 (by omega) ?_
          refine rv_lconst (z := 0) hx hb dX7_set_62 (by decide) ?_
          refine lv_iload hx hb dX7_set_63 (lv_at hl 0 rfl) ?_
          refine rv_iconst hx hb dX7_set_65 ?_
          refine rv_isub hx hb dX7_set_66 ?_
          refine rv_i2l hx hb dX7_set_67 (by omega) ?_
          refine vp_callSi (W.runS (As := [.long (lI x), .long (lI 0), .long (lI ((pv now p 1) - 1))]) (rest := []) ⟨hx, hb, hml, hown, hts⟩ (c_X7_in l x 0 ((pv now p 1) - 1) (by omega) (by omega) (by omega)) (va_cwS 3 hts (gS tb_649 tb_650 tb_8 tb_651) rfl rfl rfl (by decide +kernel) ⟨Nat.le_of_ble_eq_true rfl, Nat.le_of_ble_eq_true rfl⟩) preS0 rfl rfl hl.1 rfl (lv_room (Nat.le_of_ble_eq_true rfl)) dX7_set_68 ⟨Nat.le_of_ble_eq_true rfl, Nat.le_of_ble_eq_true rfl⟩) (fun r9 hr9 => ?_)
          rcases hr9 with ⟨rfl, hb68⟩ | ⟨rfl, hb68⟩
          · refine lv_goto (tgt := 83) hx hb dX7_set_71 (by decide) ?_
            refine lv_istore (lv' := [(5, .int (iI 1)), (4, .int (iI (pv now p 1))), (0, .ref (ad 0)), (1, .int (iI p)), (2, .int (iI what)), (3, .int (iI x))]) hx hb dX7_set_83 hl (by decide) rfl (fun ls hl => ?_)
            refine lv_iload hx hb dX7_set_85 (lv_at hl 0 rfl) ?_
            refine rv_if_eq (tgt := 105) hx hb dX7_set_87 (by decide) (by decide) (fun q => absurd q (by decide)) (fun _ => ?_)
            refine lv_aload_n hx hb dX7_set_90 rfl (lv_at hl 2 rfl) ?_
            refine rv_iconst hx hb dX7_set_91 ?_
            refine lv_iload_n hx hb dX7_set_92 rfl (lv_at hl 3 rfl) ?_
            refine rv_imul hx hb dX7_set_93 ?_
            refine rv_iconst hx hb dX7_set_94 ?_
            refine rv_iadd hx hb dX7_set_95 ?_
            refine lv_iload_n hx hb dX7_set_96 rfl (lv_at hl 4 rfl) ?_
            refine rv_iadd hx hb dX7_set_97 ?_
            refine lv_iload_n hx hb dX7_set_98 rfl (lv_at hl 5 rfl) ?_
            have hFc := va_free (wc := (mW cs ad len spot un bo cu lo wh tx now rd bf bl us lg bd dp)) hD hS hA [0, 1, 2, 3, 4, 5, 6, 7, 8, 9] rfl
            refine va_calli (va_runV (As := [.int (iI (((5 * p) + 2) + what)), .int (iI x)]) (rest := []) ⟨hx, hb, hml, hown, hts⟩ (c_X7_becomes l D cs ad H.size len spot un bo cu lo wh tx now rd bf bl us lg bd dp (((5 * p) + 2) + what) x (by omega) (by omega) (by omega) (by rcases (show what = 0 ∨ what = 1 ∨ what = 2 by omega) with z | z | z; rw [show (5 * p + 2 + what).toNat = 5 * p.toNat + 2 by omega]; exact (show -2147483648 ≤ pv now p 2 ∧ pv now p 2 < 2147483648 by omega); rw [show (5 * p + 2 + what).toNat = 5 * p.toNat + 3 by omega]; exact (show -2147483648 ≤ pv now p 3 ∧ pv now p 3 < 2147483648 by omega); rw [show (5 * p + 2 + what).toNat = 5 * p.toNat + 4 by omega]; exact (show -2147483648 ≤ pv now p 4 ∧ pv now p 4 < 2147483648 by omega))) (cwV 2 hts (gV tb_721 tb_723 tbs_21 tb_8 tb_724) rfl rfl rfl (by decide +kernel) ⟨Nat.le_of_ble_eq_true rfl, Nat.le_of_ble_eq_true rfl⟩) (preV_M (X := fun _ _ => True) Stb_T hK (va_recv hK hP (ci := 6) (q0 := 0) rfl rfl) hP hD trivial) rfl rfl hl.1 rfl (lv_room (Nat.le_of_ble_eq_true rfl)) dX7_set_99 ⟨Nat.le_of_ble_eq_true rfl, Nat.le_of_ble_eq_true rfl⟩) hS (fun q _ h => hFc q h) hFc (fun r9 u9 t9 H9 locs ht9 hvm9 hw9 hB9 hz9 hk9 hS => ?_)
            obtain rfl := hw9
            obtain ⟨now2_99, un2_99, bf2_99, hf99_0, hf99_1, hP1, hD1⟩ := hB9
            rw [ht9] at hP1
            have hP := hP1
            have hD := hD1.weaken (fun _ _ _ h => hFc _ h)
            generalize H9 = H at hP hS hz9 hk9 ht9 ⊢
            have hP : va_P D classes (mW cs ad len spot un2_99 bo cu lo wh tx now2_99 rd bf2_99 bl us lg bd dp) H := hP
            have hD : va_D A (mW cs ad len spot un2_99 bo cu lo wh tx now2_99 rd bf2_99 bl us lg bd dp) := hD
            subst hf99_0
            refine lv_goto (tgt := 106) hx hb dX7_set_102 (by decide) ?_
            subst hQ
            exact W.iret hx hb hr (fun t9 ht9 hW9 => ⟨⟨_, _, rfl, rfl, ⟨now2_99, un2_99, bf2_99, by rw [aSet, cif_pos (show okSet now p what x from ⟨hb2, by first | exact Or.inl ⟨by omega, hb49⟩ | exact Or.inr (Or.inl (by omega)) | exact Or.inr (Or.inr (by omega))⟩), show 5 * p.toNat + 2 + what.toNat = (5 * p + 2 + what).toNat by omega], ⟨fun q => absurd (show okSet now p what x from ⟨hb2, by first | exact Or.inl ⟨by omega, hb49⟩ | exact Or.inr (Or.inl (by omega)) | exact Or.inr (Or.inr (by omega))⟩) q, fun _ => by rw [show 5 * p.toNat + 2 + what.toNat = (5 * p + 2 + what).toNat by omega]; exact hf99_1⟩, by rw [ht9]; exact hP, by rw [hAe]; exact hD⟩⟩, by rw [hAe]; exact hS.F ht9⟩) (by rw [hAe]; exact hS.2.2) dX7_set_106
          · refine lv_goto (tgt := 83) hx hb dX7_set_71 (by decide) ?_
            refine lv_istore (lv' := [(5, .int (iI 0)), (4, .int (iI (pv now p 1))), (0, .ref (ad 0)), (1, .int (iI p)), (2, .int (iI what)), (3, .int (iI x))]) hx hb dX7_set_83 hl (by decide) rfl (fun ls hl => ?_)
            refine lv_iload hx hb dX7_set_85 (lv_at hl 0 rfl) ?_
            refine rv_if_eq (tgt := 105) hx hb dX7_set_87 (by decide) (by decide) (fun _ => ?_) (fun q => absurd q (by decide))
            refine rv_iconst hx hb dX7_set_105 ?_
            subst hQ
            exact W.iret hx hb hr (fun t9 ht9 hW9 => ⟨⟨_, _, rfl, rfl, ⟨now, un, bf, by rw [aSet, cif_neg (fun q => by rcases q.2 with z | z | z; (first | exact hb49 z.2 | omega); omega; omega)], ⟨fun _ => ⟨rfl, rfl, rfl⟩, fun q => absurd q (fun q => by rcases q.2 with z | z | z; (first | exact hb49 z.2 | omega); omega; omega)⟩, by rw [ht9]; exact hP, by rw [hAe]; exact hD⟩⟩, by rw [hAe]; exact hS.F ht9⟩) (by rw [hAe]; exact hS.2.2) dX7_set_106
      · refine lv_aload_n hx hb dX7_set_38 rfl (lv_at hl 1 rfl) ?_
        refine va_get (D := D) (ci := 6) (v := .ref (ad 2)) (C := RX7) (T := TX7) (N := 16) hx hb ht inTB_X7 hown hK hP 0 rfl rfl 3 (by decide) (ht _ tb_591) (fun _ h9 => h9) rfl dX7_set_39 ?_
        refine rv_iconst hx hb dX7_set_42 ?_
        refine lv_iload_n hx hb dX7_set_43 rfl (lv_at hl 2 rfl) ?_
        refine rv_imul hx hb dX7_set_44 ?_
        refine rv_iald hx hb hK hP 2 0 rfl rfl (5 * p.toNat + 0) (by omega) (by omega) dX7_set_45 ?_
        refine rv_top (y := pv now p 0) rfl ?_
        refine lv_iload hx hb dX7_set_46 (lv_at hl 0 rfl) ?_
        refine lv_iload_n hx hb dX7_set_48 rfl (lv_at hl 4 rfl) ?_
        refine vp_callSi (W.runS (As := [.int (iI (pv now p 0)), .int (iI (pv now p 1)), .int (iI x)]) (rest := []) ⟨hx, hb, hml, hown, hts⟩ (c_X7_mayBe l (pv now p 0) (pv now p 1) x hvk hvn (by omega)) (va_cwS 3 hts (gS tb_699 tb_700 tb_8 tb_701) rfl rfl rfl (by decide +kernel) ⟨Nat.le_of_ble_eq_true rfl, Nat.le_of_ble_eq_true rfl⟩) preS0 rfl rfl hl.1 rfl (lv_room (Nat.le_of_ble_eq_true rfl)) dX7_set_49 ⟨Nat.le_of_ble_eq_true rfl, Nat.le_of_ble_eq_true rfl⟩) (fun r9 hr9 => ?_)
        rcases hr9 with ⟨rfl, hb49⟩ | ⟨rfl, hb49⟩
        · refine lv_goto (tgt := 83) hx hb dX7_set_52 (by decide) ?_
          refine lv_istore (lv' := [(5, .int (iI 1)), (4, .int (iI (pv now p 1))), (0, .ref (ad 0)), (1, .int (iI p)), (2, .int (iI what)), (3, .int (iI x))]) hx hb dX7_set_83 hl (by decide) rfl (fun ls hl => ?_)
          refine lv_iload hx hb dX7_set_85 (lv_at hl 0 rfl) ?_
          refine rv_if_eq (tgt := 105) hx hb dX7_set_87 (by decide) (by decide) (fun q => absurd q (by decide)) (fun _ => ?_)
          refine lv_aload_n hx hb dX7_set_90 rfl (lv_at hl 2 rfl) ?_
          refine rv_iconst hx hb dX7_set_91 ?_
          refine lv_iload_n hx hb dX7_set_92 rfl (lv_at hl 3 rfl) ?_
          refine rv_imul hx hb dX7_set_93 ?_
          refine rv_iconst hx hb dX7_set_94 ?_
          refine rv_iadd hx hb dX7_set_95 ?_
          refine lv_iload_n hx hb dX7_set_96 rfl (lv_at hl 4 rfl) ?_
          refine rv_iadd hx hb dX7_set_97 ?_
          refine lv_iload_n hx hb dX7_set_98 rfl (lv_at hl 5 rfl) ?_
          have hFc := va_free (wc := (mW cs ad len spot un bo cu lo wh tx now rd bf bl us lg bd dp)) hD hS hA [0, 1, 2, 3, 4, 5, 6, 7, 8, 9] rfl
          refine va_calli (va_runV (As := [.int (iI (((5 * p) + 2) + what)), .int (iI x)]) (rest := []) ⟨hx, hb, hml, hown, hts⟩ (c_X7_becomes l D cs ad H.size len spot un bo cu lo wh tx now rd bf bl us lg bd dp (((5 * p) + 2) + what) x (by omega) (by omega) (by omega) (by rcases (show what = 0 ∨ what = 1 ∨ what = 2 by omega) with z | z | z; rw [show (5 * p + 2 + what).toNat = 5 * p.toNat + 2 by omega]; exact (show -2147483648 ≤ pv now p 2 ∧ pv now p 2 < 2147483648 by omega); rw [show (5 * p + 2 + what).toNat = 5 * p.toNat + 3 by omega]; exact (show -2147483648 ≤ pv now p 3 ∧ pv now p 3 < 2147483648 by omega); rw [show (5 * p + 2 + what).toNat = 5 * p.toNat + 4 by omega]; exact (show -2147483648 ≤ pv now p 4 ∧ pv now p 4 < 2147483648 by omega))) (cwV 2 hts (gV tb_721 tb_723 tbs_21 tb_8 tb_724) rfl rfl rfl (by decide +kernel) ⟨Nat.le_of_ble_eq_true rfl, Nat.le_of_ble_eq_true rfl⟩) (preV_M (X := fun _ _ => True) Stb_T hK (va_recv hK hP (ci := 6) (q0 := 0) rfl rfl) hP hD trivial) rfl rfl hl.1 rfl (lv_room (Nat.le_of_ble_eq_true rfl)) dX7_set_99 ⟨Nat.le_of_ble_eq_true rfl, Nat.le_of_ble_eq_true rfl⟩) hS (fun q _ h => hFc q h) hFc (fun r9 u9 t9 H9 locs ht9 hvm9 hw9 hB9 hz9 hk9 hS => ?_)
          obtain rfl := hw9
          obtain ⟨now2_99, un2_99, bf2_99, hf99_0, hf99_1, hP1, hD1⟩ := hB9
          rw [ht9] at hP1
          have hP := hP1
          have hD := hD1.weaken (fun _ _ _ h => hFc _ h)
          generalize H9 = H at hP hS hz9 hk9 ht9 ⊢
          have hP : va_P D classes (mW cs ad len spot un2_99 bo cu lo wh tx now2_99 rd bf2_99 bl us lg bd dp) H := hP
          have hD : va_D A (mW cs ad len spot un2_99 bo cu lo wh tx now2_99 rd bf2_99 bl us lg bd dp) := hD
          subst hf99_0
          refine lv_goto (tgt := 106) hx hb dX7_set_102 (by decide) ?_
          subst hQ
          exact W.iret hx hb hr (fun t9 ht9 hW9 => ⟨⟨_, _, rfl, rfl, ⟨now2_99, un2_99, bf2_99, by rw [aSet, cif_pos (show okSet now p what x from ⟨hb2, by first | exact Or.inl ⟨by omega, hb49⟩ | exact Or.inr (Or.inl (by omega)) | exact Or.inr (Or.inr (by omega))⟩), show 5 * p.toNat + 2 + what.toNat = (5 * p + 2 + what).toNat by omega], ⟨fun q => absurd (show okSet now p what x from ⟨hb2, by first | exact Or.inl ⟨by omega, hb49⟩ | exact Or.inr (Or.inl (by omega)) | exact Or.inr (Or.inr (by omega))⟩) q, fun _ => by rw [show 5 * p.toNat + 2 + what.toNat = (5 * p + 2 + what).toNat by omega]; exact hf99_1⟩, by rw [ht9]; exact hP, by rw [hAe]; exact hD⟩⟩, by rw [hAe]; exact hS.F ht9⟩) (by rw [hAe]; exact hS.2.2) dX7_set_106
        · refine lv_goto (tgt := 83) hx hb dX7_set_52 (by decide) ?_
          refine lv_istore (lv' := [(5, .int (iI 0)), (4, .int (iI (pv now p 1))), (0, .ref (ad 0)), (1, .int (iI p)), (2, .int (iI what)), (3, .int (iI x))]) hx hb dX7_set_83 hl (by decide) rfl (fun ls hl => ?_)
          refine lv_iload hx hb dX7_set_85 (lv_at hl 0 rfl) ?_
          refine rv_if_eq (tgt := 105) hx hb dX7_set_87 (by decide) (by decide) (fun _ => ?_) (fun q => absurd q (by decide))
          refine rv_iconst hx hb dX7_set_105 ?_
          subst hQ
          exact W.iret hx hb hr (fun t9 ht9 hW9 => ⟨⟨_, _, rfl, rfl, ⟨now, un, bf, by rw [aSet, cif_neg (fun q => by rcases q.2 with z | z | z; (first | exact hb49 z.2 | omega); omega; omega)], ⟨fun _ => ⟨rfl, rfl, rfl⟩, fun q => absurd q (fun q => by rcases q.2 with z | z | z; (first | exact hb49 z.2 | omega); omega; omega)⟩, by rw [ht9]; exact hP, by rw [hAe]; exact hD⟩⟩, by rw [hAe]; exact hS.F ht9⟩) (by rw [hAe]; exact hS.2.2) dX7_set_106
    · refine rv_if_ne (tgt := 22) hx hb dX7_set_17 (by decide) (by decide) (fun q => absurd q (by decide)) (fun _ => ?_)
      refine rv_iconst hx hb dX7_set_20 ?_
      subst hQ
      exact W.iret hx hb hr (fun t9 ht9 hW9 => ⟨⟨_, _, rfl, rfl, ⟨now, un, bf, by rw [aSet, cif_neg (fun q => by first | exact hb2 q.1 | (rcases q.2 with z | z | z; omega; omega; omega))], ⟨fun _ => ⟨rfl, rfl, rfl⟩, fun q => absurd q (fun q => by first | exact hb2 q.1 | (rcases q.2 with z | z | z; omega; omega; omega))⟩, by rw [ht9]; exact hP, by rw [hAe]; exact hD⟩⟩, by rw [hAe]; exact hS.F ht9⟩) (by rw [hAe]; exact hS.2.2) dX7_set_21
  · refine rv_if_eq (tgt := 20) hx hb dX7_set_5 (by decide) (by decide) (fun _ => ?_) (fun q => absurd q (by decide))
    refine rv_iconst hx hb dX7_set_20 ?_
    subst hQ
    exact W.iret hx hb hr (fun t9 ht9 hW9 => ⟨⟨_, _, rfl, rfl, ⟨now, un, bf, by rw [aSet, cif_neg (fun q => by first | exact hb2 q.1 | (rcases q.2 with z | z | z; omega; omega; omega))], ⟨fun _ => ⟨rfl, rfl, rfl⟩, fun q => absurd q (fun q => by first | exact hb2 q.1 | (rcases q.2 with z | z | z; omega; omega; omega))⟩, by rw [ht9]; exact hP, by rw [hAe]; exact hD⟩⟩, by rw [hAe]; exact hS.F ht9⟩) (by rw [hAe]; exact hS.2.2) dX7_set_21

abbrev rm_X7_tell : Room := { frames := 2, cells := 0, slots := 0, locals := 44 }
set_option maxHeartbeats 8000000 in
set_option maxRecDepth 100000 in
/-- tell -/
theorem c_X7_tell (l : Launch) (D : va_G) (cs : Nat → ClassId) (ad : Nat → Nat) (sz : Nat) (len : Int) (spot : Int) (un : Int) (bo : Int) (cu : Int) (lo : Int) (wh : Int) (tx : Nat → Int) (now : Nat → Int) (rd : Nat → Int) (bf : Nat → Int) (bl : Nat → Int) (us : Nat → Int) (lg : Nat → Int) (bd : Nat → Int) (dp : Nat → Int) (what : Int) (x : Int) (hvL : vL now) (hun : 0 ≤ un ∧ un ≤ 6) (hw : -2147483648 ≤ what ∧ what < 2147483648) (hx1 : -2147483648 ≤ x ∧ x < 2147483648) : Met l yX7_tell (Cond.code yX7_tell cX7_tell 4 (some .int) :: TB) rm_X7_tell (va_Pc [.ref (ad 0), .int (iI what), .int (iI x)] (MPre D cs sz (mW cs ad len spot un bo cu lo wh tx now rd bf bl us lg bd dp) (fun _ _ => True))) (va_Qi (fun (r u : Int32) => r = u) (fun r t => ∃ (now2 : Nat → Int) (un2 : Int) (bf2 : Nat → Int), (r = iI (aTell now what x)) ∧ ((¬ okTell what x → now2 = now ∧ un2 = un ∧ bf2 = bf) ∧ (okTell what x → Beca now un bf (21 + what.toNat) x now2 un2 bf2)) ∧ va_P D classes (mW cs ad len spot un2 bo cu lo wh tx now2 rd bf2 bl us lg bd dp) t.heap ∧ va_D (va_A (mW cs ad len spot un bo cu lo wh tx now rd bf bl us lg bd dp) sz) (mW cs ad len spot un2 bo cu lo wh tx now2 rd bf2 bl us lg bd dp)) (va_A (mW cs ad len spot un bo cu lo wh tx now rd bf bl us lg bd dp) sz)) 0 0 (va_A (mW cs ad len spot un bo cu lo wh tx now rd bf bl us lg bd dp) sz) := by
  refine enter (cc := cX7_tell) (maxL := 4) (ret := (some .int)) (by decide) (Nat.le_of_ble_eq_true rfl) ?_
  intro pg ev s m below meth c Q ls hx hb hml hown hts hr hlocks hnm ⟨hsz, hP, hD0, hK, hX0⟩ hl hQ
  have ht : ∀ w ∈ TB, w.before _ s = true := fun w h => hts w (List.mem_cons_of_mem _ h)
  subst hsz
  have hD := hD0.self (sz := s.heap.size)
  obtain ⟨A, hAe⟩ : ∃ A, va_A (mW cs ad len spot un bo cu lo wh tx now rd bf bl us lg bd dp) s.heap.size = A := ⟨_, rfl⟩
  rw [hAe] at hD
  have hA : ∀ q : Nat, s.heap.size ≤ q → A q := fun q h => by rw [← hAe]; exact Or.inr h
  obtain ⟨H, hH⟩ : ∃ H, H = s.heap := ⟨_, rfl⟩
  obtain ⟨locs, hlocs⟩ : ∃ locs : List Loc, locs = [] := ⟨_, rfl⟩
  have hS : va_S A s.heap H locs := by rw [hH, hlocs]; exact va_S.rf
  rw [← hH] at hP
  suffices hgo : W pg l ev rm_X7_tell s m [.ref (ad 0), .int (iI what), .int (iI x)].toArray below meth c H locs 0 0 Q (F0 m 0 ls []) by rw [hH, hlocs] at hgo; exact hgo
  have hl : lv_has ls 4 [(0, .ref (ad 0)), (1, .int (iI what)), (2, .int (iI x))] := hl
  obtain ⟨hv20, hv21, hv22, hv23, hvp⟩ := id hvL
  refine lv_iload_n hx hb dX7_tell_0 rfl (lv_at hl 1 rfl) ?_
  refine rv_if_ne (tgt := 16) hx hb dX7_tell_1 (by decide) (by omega) (fun h1 => ?_) (fun h1 => ?_)
  · refine lv_iload_n hx hb dX7_tell_16 rfl (lv_at hl 1 rfl) ?_
    refine rv_iconst hx hb dX7_tell_17 ?_
    refine rv_icmp_ne (tgt := 35) hx hb dX7_tell_18 (by decide) (by omega) (fun h18 => ?_) (fun h18 => ?_)
    · refine lv_iload_n hx hb dX7_tell_35 rfl (lv_at hl 1 rfl) ?_
      refine rv_iconst hx hb dX7_tell_36 ?_
      refine rv_icmp_ne (tgt := 56) hx hb dX7_tell_37 (by decide) (by omega) (fun h37 => ?_) (fun h37 => ?_)
      · refine rv_iconst hx hb dX7_tell_56 ?_
        refine lv_istore_n (lv' := [(3, .int (iI 0)), (0, .ref (ad 0)), (1, .int (iI what)), (2, .int (iI x))]) hx hb dX7_tell_57 rfl hl (by decide) rfl (fun ls hl => ?_)
        refine lv_iload_n hx hb dX7_tell_58 rfl (lv_at hl 0 rfl) ?_
        refine rv_if_eq (tgt := 74) hx hb dX7_tell_59 (by decide) (by decide) (fun _ => ?_) (fun q => absurd q (by decide))
        refine rv_iconst hx hb dX7_tell_74 ?_
        subst hQ
        exact W.iret hx hb hr (fun t9 ht9 hW9 => ⟨⟨_, _, rfl, rfl, ⟨now, un, bf, by rw [aTell, cif_neg (fun q : okTell what x => by unfold okTell at q; omega)], ⟨fun _ => ⟨rfl, rfl, rfl⟩, fun q => absurd q (fun q : okTell what x => by unfold okTell at q; omega)⟩, by rw [ht9]; exact hP, by rw [hAe]; exact hD⟩⟩, by rw [hAe]; exact hS.F ht9⟩) (by rw [hAe]; exact hS.2.2) dX7_tell_75
      · refine lv_iload_n hx hb dX7_tell_40 rfl (lv_at hl 2 rfl) ?_
        refine rv_i2l hx hb dX7_tell_41 (by omega) ?_
        refine rv_lconst (z := 0) hx hb dX7_tell_42 (by decide) ?_
        refine lv_ldc2 (v := lI 5) hx hb hown (ht _ tb_735) dX7_tell_43 ?_
        refine vp_callSi (W.runS (As := [.long (lI x), .long (lI 0), .long (lI 5)]) (rest := []) ⟨hx, hb, hml, hown, hts⟩ (c_X7_in l x 0 5 (by omega) (by omega) (by omega)) (va_cwS 3 hts (gS tb_649 tb_650 tb_8 tb_651) rfl rfl rfl (by decide +kernel) ⟨Nat.le_of_ble_eq_true rfl, Nat.le_of_ble_eq_true rfl⟩) preS0 rfl rfl hl.1 rfl (lv_room (Nat.le_of_ble_eq_true rfl)) dX7_tell_46 ⟨Nat.le_of_ble_eq_true rfl, Nat.le_of_ble_eq_true rfl⟩) (fun r9 hr9 => ?_)
        rcases hr9 with ⟨rfl, hb46⟩ | ⟨rfl, hb46⟩
        · refine rv_if_eq (tgt := 56) hx hb dX7_tell_49 (by decide) (by decide) (fun q => absurd q (by decide)) (fun _ => ?_)
          refine rv_iconst hx hb dX7_tell_52 ?_
          refine lv_goto (tgt := 57) hx hb dX7_tell_53 (by decide) ?_
          refine lv_istore_n (lv' := [(3, .int (iI 1)), (0, .ref (ad 0)), (1, .int (iI what)), (2, .int (iI x))]) hx hb dX7_tell_57 rfl hl (by decide) rfl (fun ls hl => ?_)
          refine lv_iload_n hx hb dX7_tell_58 rfl (lv_at hl 0 rfl) ?_
          refine rv_if_eq (tgt := 74) hx hb dX7_tell_59 (by decide) (by decide) (fun q => absurd q (by decide)) (fun _ => ?_)
          refine lv_aload_n hx hb dX7_tell_62 rfl (lv_at hl 1 rfl) ?_
          refine rv_bipush hx hb dX7_tell_63 (by decide) ?_
          refine lv_iload_n hx hb dX7_tell_65 rfl (lv_at hl 2 rfl) ?_
          refine rv_iadd hx hb dX7_tell_66 ?_
          refine lv_iload_n hx hb dX7_tell_67 rfl (lv_at hl 3 rfl) ?_
          have hFc := va_free (wc := (mW cs ad len spot un bo cu lo wh tx now rd bf bl us lg bd dp)) hD hS hA [0, 1, 2, 3, 4, 5, 6, 7, 8, 9] rfl
          refine va_calli (va_runV (As := [.int (iI (21 + what)), .int (iI x)]) (rest := []) ⟨hx, hb, hml, hown, hts⟩ (c_X7_becomes l D cs ad H.size len spot un bo cu lo wh tx now rd bf bl us lg bd dp (21 + what) x (by omega) (by omega) (by omega) (by rcases (show what = 0 ∨ what = 1 ∨ what = 2 by omega) with z | z | z; rw [show (21 + what).toNat = 21 by omega]; omega; rw [show (21 + what).toNat = 22 by omega]; omega; rw [show (21 + what).toNat = 23 by omega]; omega)) (cwV 2 hts (gV tb_721 tb_723 tbs_21 tb_8 tb_724) rfl rfl rfl (by decide +kernel) ⟨Nat.le_of_ble_eq_true rfl, Nat.le_of_ble_eq_true rfl⟩) (preV_M (X := fun _ _ => True) Stb_T hK (va_recv hK hP (ci := 6) (q0 := 0) rfl rfl) hP hD trivial) rfl rfl hl.1 rfl (lv_room (Nat.le_of_ble_eq_true rfl)) dX7_tell_68 ⟨Nat.le_of_ble_eq_true rfl, Nat.le_of_ble_eq_true rfl⟩) hS (fun q _ h => hFc q h) hFc (fun r9 u9 t9 H9 locs ht9 hvm9 hw9 hB9 hz9 hk9 hS => ?_)
          obtain rfl := hw9
          obtain ⟨now2_68, un2_68, bf2_68, hf68_0, hf68_1, hP1, hD1⟩ := hB9
          rw [ht9] at hP1
          have hP := hP1
          have hD := hD1.weaken (fun _ _ _ h => hFc _ h)
          generalize H9 = H at hP hS hz9 hk9 ht9 ⊢
          have hP : va_P D classes (mW cs ad len spot un2_68 bo cu lo wh tx now2_68 rd bf2_68 bl us lg bd dp) H := hP
          have hD : va_D A (mW cs ad len spot un2_68 bo cu lo wh tx now2_68 rd bf2_68 bl us lg bd dp) := hD
          subst hf68_0
          refine lv_goto (tgt := 75) hx hb dX7_tell_71 (by decide) ?_
          subst hQ
          exact W.iret hx hb hr (fun t9 ht9 hW9 => ⟨⟨_, _, rfl, rfl, ⟨now2_68, un2_68, bf2_68, by rw [aTell, cif_pos (show okTell what x by unfold okTell; omega), show 21 + what.toNat = (21 + what).toNat by omega], ⟨fun q => absurd (show okTell what x by unfold okTell; omega) q, fun _ => by rw [show 21 + what.toNat = (21 + what).toNat by omega]; exact hf68_1⟩, by rw [ht9]; exact hP, by rw [hAe]; exact hD⟩⟩, by rw [hAe]; exact hS.F ht9⟩) (by rw [hAe]; exact hS.2.2) dX7_tell_75
        · refine rv_if_eq (tgt := 56) hx hb dX7_tell_49 (by decide) (by decide) (fun _ => ?_) (fun q => absurd q (by decide))
          refine rv_iconst hx hb dX7_tell_56 ?_
          refine lv_istore_n (lv' := [(3, .int (iI 0)), (0, .ref (ad 0)), (1, .int (iI what)), (2, .int (iI x))]) hx hb dX7_tell_57 rfl hl (by decide) rfl (fun ls hl => ?_)
          refine lv_iload_n hx hb dX7_tell_58 rfl (lv_at hl 0 rfl) ?_
          refine rv_if_eq (tgt := 74) hx hb dX7_tell_59 (by decide) (by decide) (fun _ => ?_) (fun q => absurd q (by decide))
          refine rv_iconst hx hb dX7_tell_74 ?_
          subst hQ
          exact W.iret hx hb hr (fun t9 ht9 hW9 => ⟨⟨_, _, rfl, rfl, ⟨now, un, bf, by rw [aTell, cif_neg (fun q : okTell what x => by unfold okTell at q; omega)], ⟨fun _ => ⟨rfl, rfl, rfl⟩, fun q => absurd q (fun q : okTell what x => by unfold okTell at q; omega)⟩, by rw [ht9]; exact hP, by rw [hAe]; exact hD⟩⟩, by rw [hAe]; exact hS.F ht9⟩) (by rw [hAe]; exact hS.2.2) dX7_tell_75
    · refine lv_iload_n hx hb dX7_tell_21 rfl (lv_at hl 2 rfl) ?_
      refine rv_i2l hx hb dX7_tell_22 (by omega) ?_
      refine lv_ldc2 (v := lI 20) hx hb hown (ht _ tb_733) dX7_tell_23 ?_
      refine lv_ldc2 (v := lI 400) hx hb hown (ht _ tb_734) dX7_tell_26 ?_
      refine vp_callSi (W.runS (As := [.long (lI x), .long (lI 20), .long (lI 400)]) (rest := []) ⟨hx, hb, hml, hown, hts⟩ (c_X7_in l x 20 400 (by omega) (by omega) (by omega)) (va_cwS 3 hts (gS tb_649 tb_650 tb_8 tb_651) rfl rfl rfl (by decide +kernel) ⟨Nat.le_of_ble_eq_true rfl, Nat.le_of_ble_eq_true rfl⟩) preS0 rfl rfl hl.1 rfl (lv_room (Nat.le_of_ble_eq_true rfl)) dX7_tell_29 ⟨Nat.le_of_ble_eq_true rfl, Nat.le_of_ble_eq_true rfl⟩) (fun r9 hr9 => ?_)
      rcases hr9 with ⟨rfl, hb29⟩ | ⟨rfl, hb29⟩
      · refine lv_goto (tgt := 57) hx hb dX7_tell_32 (by decide) ?_
        refine lv_istore_n (lv' := [(3, .int (iI 1)), (0, .ref (ad 0)), (1, .int (iI what)), (2, .int (iI x))]) hx hb dX7_tell_57 rfl hl (by decide) rfl (fun ls hl => ?_)
        refine lv_iload_n hx hb dX7_tell_58 rfl (lv_at hl 0 rfl) ?_
        refine rv_if_eq (tgt := 74) hx hb dX7_tell_59 (by decide) (by decide) (fun q => absurd q (by decide)) (fun _ => ?_)
        refine lv_aload_n hx hb dX7_tell_62 rfl (lv_at hl 1 rfl) ?_
        refine rv_bipush hx hb dX7_tell_63 (by decide) ?_
        refine lv_iload_n hx hb dX7_tell_65 rfl (lv_at hl 2 rfl) ?_
        refine rv_iadd hx hb dX7_tell_66 ?_
        refine lv_iload_n hx hb dX7_tell_67 rfl (lv_at hl 3 rfl) ?_
        have hFc := va_free (wc := (mW cs ad len spot un bo cu lo wh tx now rd bf bl us lg bd dp)) hD hS hA [0, 1, 2, 3, 4, 5, 6, 7, 8, 9] rfl
        refine va_calli (va_runV (As := [.int (iI (21 + what)), .int (iI x)]) (rest := []) ⟨hx, hb, hml, hown, hts⟩ (c_X7_becomes l D cs ad H.size len spot un bo cu lo wh tx now rd bf bl us lg bd dp (21 + what) x (by omega) (by omega) (by omega) (by rcases (show what = 0 ∨ what = 1 ∨ what = 2 by omega) with z | z | z; rw [show (21 + what).toNat = 21 by omega]; omega; rw [show (21 + what).toNat = 22 by omega]; omega; rw [show (21 + what).toNat = 23 by omega]; omega)) (cwV 2 hts (gV tb_721 tb_723 tbs_21 tb_8 tb_724) rfl rfl rfl (by decide +kernel) ⟨Nat.le_of_ble_eq_true rfl, Nat.le_of_ble_eq_true rfl⟩) (preV_M (X := fun _ _ => True) Stb_T hK (va_recv hK hP (ci := 6) (q0 := 0) rfl rfl) hP hD trivial) rfl rfl hl.1 rfl (lv_room (Nat.le_of_ble_eq_true rfl)) dX7_tell_68 ⟨Nat.le_of_ble_eq_true rfl, Nat.le_of_ble_eq_true rfl⟩) hS (fun q _ h => hFc q h) hFc (fun r9 u9 t9 H9 locs ht9 hvm9 hw9 hB9 hz9 hk9 hS => ?_)
        obtain rfl := hw9
        obtain ⟨now2_68, un2_68, bf2_68, hf68_0, hf68_1, hP1, hD1⟩ := hB9
        rw [ht9] at hP1
        have hP := hP1
        have hD := hD1.weaken (fun _ _ _ h => hFc _ h)
        generalize H9 = H at hP hS hz9 hk9 ht9 ⊢
        have hP : va_P D classes (mW cs ad len spot un2_68 bo cu lo wh tx now2_68 rd bf2_68 bl us lg bd dp) H := hP
        have hD : va_D A (mW cs ad len spot un2_68 bo cu lo wh tx now2_68 rd bf2_68 bl us lg bd dp) := hD
        subst hf68_0
        refine lv_goto (tgt := 75) hx hb dX7_tell_71 (by decide) ?_
        subst hQ
        exact W.iret hx hb hr (fun t9 ht9 hW9 => ⟨⟨_, _, rfl, rfl, ⟨now2_68, un2_68, bf2_68, by rw [aTell, cif_pos (show okTell what x by unfold okTell; omega), show 21 + what.toNat = (21 + what).toNat by omega], ⟨fun q => absurd (show okTell what x by unfold okTell; omega) q, fun _ => by rw [show 21 + what.toNat = (21 + what).toNat by omega]; exact hf68_1⟩, by rw [ht9]; exact hP, by rw [hAe]; exact hD⟩⟩, by rw [hAe]; exact hS.F ht9⟩) (by rw [hAe]; exact hS.2.2) dX7_tell_75
      · refine lv_goto (tgt := 57) hx hb dX7_tell_32 (by decide) ?_
        refine lv_istore_n (lv' := [(3, .int (iI 0)), (0, .ref (ad 0)), (1, .int (iI what)), (2, .int (iI x))]) hx hb dX7_tell_57 rfl hl (by decide) rfl (fun ls hl => ?_)
        refine lv_iload_n hx hb dX7_tell_58 rfl (lv_at hl 0 rfl) ?_
        refine rv_if_eq (tgt := 74) hx hb dX7_tell_59 (by decide) (by decide) (fun _ => ?_) (fun q => absurd q (by decide))
        refine rv_iconst hx hb dX7_tell_74 ?_
        subst hQ
        exact W.iret hx hb hr (fun t9 ht9 hW9 => ⟨⟨_, _, rfl, rfl, ⟨now, un, bf, by rw [aTell, cif_neg (fun q : okTell what x => by unfold okTell at q; omega)], ⟨fun _ => ⟨rfl, rfl, rfl⟩, fun q => absurd q (fun q : okTell what x => by unfold okTell at q; omega)⟩, by rw [ht9]; exact hP, by rw [hAe]; exact hD⟩⟩, by rw [hAe]; exact hS.F ht9⟩) (by rw [hAe]; exact hS.2.2) dX7_tell_75
  · refine lv_iload_n hx hb dX7_tell_4 rfl (lv_at hl 2 rfl) ?_
    refine rv_i2l hx hb dX7_tell_5 (by omega) ?_
    refine rv_lconst (z := 1) hx hb dX7_tell_6 (by decide) ?_
    refine lv_ldc2 (v := lI 20) hx hb hown (ht _ tb_733) dX7_tell_7 ?_
    refine vp_callSi (W.runS (As := [.long (lI x), .long (lI 1), .long (lI 20)]) (rest := []) ⟨hx, hb, hml, hown, hts⟩ (c_X7_in l x 1 20 (by omega) (by omega) (by omega)) (va_cwS 3 hts (gS tb_649 tb_650 tb_8 tb_651) rfl rfl rfl (by decide +kernel) ⟨Nat.le_of_ble_eq_true rfl, Nat.le_of_ble_eq_true rfl⟩) preS0 rfl rfl hl.1 rfl (lv_room (Nat.le_of_ble_eq_true rfl)) dX7_tell_10 ⟨Nat.le_of_ble_eq_true rfl, Nat.le_of_ble_eq_true rfl⟩) (fun r9 hr9 => ?_)
    rcases hr9 with ⟨rfl, hb10⟩ | ⟨rfl, hb10⟩
    · refine lv_goto (tgt := 57) hx hb dX7_tell_13 (by decide) ?_
      refine lv_istore_n (lv' := [(3, .int (iI 1)), (0, .ref (ad 0)), (1, .int (iI what)), (2, .int (iI x))]) hx hb dX7_tell_57 rfl hl (by decide) rfl (fun ls hl => ?_)
      refine lv_iload_n hx hb dX7_tell_58 rfl (lv_at hl 0 rfl) ?_
      refine rv_if_eq (tgt := 74) hx hb dX7_tell_59 (by decide) (by decide) (fun q => absurd q (by decide)) (fun _ => ?_)
      refine lv_aload_n hx hb dX7_tell_62 rfl (lv_at hl 1 rfl) ?_
      refine rv_bipush hx hb dX7_tell_63 (by decide) ?_
      refine lv_iload_n hx hb dX7_tell_65 rfl (lv_at hl 2 rfl) ?_
      refine rv_iadd hx hb dX7_tell_66 ?_
      refine lv_iload_n hx hb dX7_tell_67 rfl (lv_at hl 3 rfl) ?_
      have hFc := va_free (wc := (mW cs ad len spot un bo cu lo wh tx now rd bf bl us lg bd dp)) hD hS hA [0, 1, 2, 3, 4, 5, 6, 7, 8, 9] rfl
      refine va_calli (va_runV (As := [.int (iI (21 + what)), .int (iI x)]) (rest := []) ⟨hx, hb, hml, hown, hts⟩ (c_X7_becomes l D cs ad H.size len spot un bo cu lo wh tx now rd bf bl us lg bd dp (21 + what) x (by omega) (by omega) (by omega) (by rcases (show what = 0 ∨ what = 1 ∨ what = 2 by omega) with z | z | z; rw [show (21 + what).toNat = 21 by omega]; omega; rw [show (21 + what).toNat = 22 by omega]; omega; rw [show (21 + what).toNat = 23 by omega]; omega)) (cwV 2 hts (gV tb_721 tb_723 tbs_21 tb_8 tb_724) rfl rfl rfl (by decide +kernel) ⟨Nat.le_of_ble_eq_true rfl, Nat.le_of_ble_eq_true rfl⟩) (preV_M (X := fun _ _ => True) Stb_T hK (va_recv hK hP (ci := 6) (q0 := 0) rfl rfl) hP hD trivial) rfl rfl hl.1 rfl (lv_room (Nat.le_of_ble_eq_true rfl)) dX7_tell_68 ⟨Nat.le_of_ble_eq_true rfl, Nat.le_of_ble_eq_true rfl⟩) hS (fun q _ h => hFc q h) hFc (fun r9 u9 t9 H9 locs ht9 hvm9 hw9 hB9 hz9 hk9 hS => ?_)
      obtain rfl := hw9
      obtain ⟨now2_68, un2_68, bf2_68, hf68_0, hf68_1, hP1, hD1⟩ := hB9
      rw [ht9] at hP1
      have hP := hP1
      have hD := hD1.weaken (fun _ _ _ h => hFc _ h)
      generalize H9 = H at hP hS hz9 hk9 ht9 ⊢
      have hP : va_P D classes (mW cs ad len spot un2_68 bo cu lo wh tx now2_68 rd bf2_68 bl us lg bd dp) H := hP
      have hD : va_D A (mW cs ad len spot un2_68 bo cu lo wh tx now2_68 rd bf2_68 bl us lg bd dp) := hD
      subst hf68_0
      refine lv_goto (tgt := 75) hx hb dX7_tell_71 (by decide) ?_
      subst hQ
      exact W.iret hx hb hr (fun t9 ht9 hW9 => ⟨⟨_, _, rfl, rfl, ⟨now2_68, un2_68, bf2_68, by rw [aTell, cif_pos (show okTell what x by unfold okTell; omega), show 21 + what.toNat = (21 + what).toNat by omega], ⟨fun q => absurd (show okTell what x by unfold okTell; omega) q, fun _ => by rw [show 21 + what.toNat = (21 + what).toNat by omega]; exact hf68_1⟩, by rw [ht9]; exact hP, by rw [hAe]; exact hD⟩⟩, by rw [hAe]; exact hS.F ht9⟩) (by rw [hAe]; exact hS.2.2) dX7_tell_75
    · refine lv_goto (tgt := 57) hx hb dX7_tell_13 (by decide) ?_
      refine lv_istore_n (lv' := [(3, .int (iI 0)), (0, .ref (ad 0)), (1, .int (iI what)), (2, .int (iI x))]) hx hb dX7_tell_57 rfl hl (by decide) rfl (fun ls hl => ?_)
      refine lv_iload_n hx hb dX7_tell_58 rfl (lv_at hl 0 rfl) ?_
      refine rv_if_eq (tgt := 74) hx hb dX7_tell_59 (by decide) (by decide) (fun _ => ?_) (fun q => absurd q (by decide))
      refine rv_iconst hx hb dX7_tell_74 ?_
      subst hQ
      exact W.iret hx hb hr (fun t9 ht9 hW9 => ⟨⟨_, _, rfl, rfl, ⟨now, un, bf, by rw [aTell, cif_neg (fun q : okTell what x => by unfold okTell at q; omega)], ⟨fun _ => ⟨rfl, rfl, rfl⟩, fun q => absurd q (fun q : okTell what x => by unfold okTell at q; omega)⟩, by rw [ht9]; exact hP, by rw [hAe]; exact hD⟩⟩, by rw [hAe]; exact hS.F ht9⟩) (by rw [hAe]; exact hS.2.2) dX7_tell_75

abbrev rm_X7_take : Room := { frames := 2, cells := 0, slots := 0, locals := 46 }
set_option maxHeartbeats 8000000 in
set_option maxRecDepth 100000 in
/-- take -/
theorem c_X7_take (l : Launch) (D : va_G) (cs : Nat → ClassId) (ad : Nat → Nat) (sz : Nat) (len : Int) (spot : Int) (un : Int) (bo : Int) (cu : Int) (lo : Int) (wh : Int) (tx : Nat → Int) (now : Nat → Int) (rd : Nat → Int) (bf : Nat → Int) (bl : Nat → Int) (us : Nat → Int) (lg : Nat → Int) (bd : Nat → Int) (dp : Nat → Int) (p : Int) (hvL : vL now) (hun : 0 ≤ un ∧ un ≤ 6) (hp0 : -2147483648 ≤ p ∧ p < 2147483648) : Met l yX7_take (Cond.code yX7_take cX7_take 3 (some .int) :: TB) rm_X7_take (va_Pc [.ref (ad 0), .int (iI p)] (MPre D cs sz (mW cs ad len spot un bo cu lo wh tx now rd bf bl us lg bd dp) (fun _ _ => True))) (va_Qi (fun (r u : Int32) => r = u) (fun r t => ∃ (now2 : Nat → Int) (un2 : Int) (bf2 : Nat → Int), (r = iI (cif (0 ≤ p ∧ p < now 20) (now 20 - 1) (-1))) ∧ ((¬ (0 ≤ p ∧ p < now 20) → now2 = now ∧ un2 = un ∧ bf2 = bf) ∧ ((0 ≤ p ∧ p < now 20) → (now2 = tkV now p.toNat) ∧ Noted un bf now un2 bf2)) ∧ va_P D classes (mW cs ad len spot un2 bo cu lo wh tx now2 rd bf2 bl us lg bd dp) t.heap ∧ va_D (va_A (mW cs ad len spot un bo cu lo wh tx now rd bf bl us lg bd dp) sz) (mW cs ad len spot un2 bo cu lo wh tx now2 rd bf2 bl us lg bd dp)) (va_A (mW cs ad len spot un bo cu lo wh tx now rd bf bl us lg bd dp) sz)) 0 0 (va_A (mW cs ad len spot un bo cu lo wh tx now rd bf bl us lg bd dp) sz) := by
  refine enter (cc := cX7_take) (maxL := 3) (ret := (some .int)) (by decide) (Nat.le_of_ble_eq_true rfl) ?_
  intro pg ev s m below meth c Q ls hx hb hml hown hts hr hlocks hnm ⟨hsz, hP, hD0, hK, hX0⟩ hl hQ
  have ht : ∀ w ∈ TB, w.before _ s = true := fun w h => hts w (List.mem_cons_of_mem _ h)
  subst hsz
  have hD := hD0.self (sz := s.heap.size)
  obtain ⟨A, hAe⟩ : ∃ A, va_A (mW cs ad len spot un bo cu lo wh tx now rd bf bl us lg bd dp) s.heap.size = A := ⟨_, rfl⟩
  rw [hAe] at hD
  have hA : ∀ q : Nat, s.heap.size ≤ q → A q := fun q h => by rw [← hAe]; exact Or.inr h
  obtain ⟨H, hH⟩ : ∃ H, H = s.heap := ⟨_, rfl⟩
  obtain ⟨locs, hlocs⟩ : ∃ locs : List Loc, locs = [] := ⟨_, rfl⟩
  have hS : va_S A s.heap H locs := by rw [hH, hlocs]; exact va_S.rf
  rw [← hH] at hP
  suffices hgo : W pg l ev rm_X7_take s m [.ref (ad 0), .int (iI p)].toArray below meth c H locs 0 0 Q (F0 m 0 ls []) by rw [hH, hlocs] at hgo; exact hgo
  have hl : lv_has ls 3 [(0, .ref (ad 0)), (1, .int (iI p))] := hl
  obtain ⟨hv20, hv21, hv22, hv23, hvp⟩ := id hvL
  refine lv_aload_n hx hb dX7_take_0 rfl (lv_at hl 0 rfl) ?_
  refine lv_iload_n hx hb dX7_take_1 rfl (lv_at hl 1 rfl) ?_
  refine vp_callSi (W.runV (As := [.int (iI p)]) (rest := []) ⟨hx, hb, hml, hown, hts⟩ (c_X7_isPanel l D cs (ad 0) (ad 2) _ now p (by omega)) (cwV 1 hts (gV tb_716 tb_718 tbs_20 tb_8 tb_719) rfl rfl rfl (by decide +kernel) ⟨Nat.le_of_ble_eq_true rfl, Nat.le_of_ble_eq_true rfl⟩) (preV_mod hK ⟨hP.sub [0, 2] rfl, rfl, hvL⟩) rfl rfl hl.1 rfl (lv_room (Nat.le_of_ble_eq_true rfl)) dX7_take_2 ⟨Nat.le_of_ble_eq_true rfl, Nat.le_of_ble_eq_true rfl⟩) (fun r9 hr9 => ?_)
  rcases hr9 with ⟨rfl, hb2⟩ | ⟨rfl, hb2⟩
  · refine rv_if_ne (tgt := 10) hx hb dX7_take_5 (by decide) (by decide) (fun _ => ?_) (fun q => absurd q (by decide))
    refine lv_aload_n hx hb dX7_take_10 rfl (lv_at hl 0 rfl) ?_
    have hFc := va_free (wc := (mW cs ad len spot un bo cu lo wh tx now rd bf bl us lg bd dp)) hD hS hA [0, 1, 2, 3, 4, 5, 6, 7, 8, 9] rfl
    refine va_callv (va_runV (As := []) (rest := []) ⟨hx, hb, hml, hown, hts⟩ (c_X7_note l D cs ad H.size len spot un bo cu lo wh tx now rd bf bl us lg bd dp (by omega)) (cwV 0 hts (gV tb_725 tb_727 tbs_22 tb_8 tb_728) rfl rfl rfl (by decide +kernel) ⟨Nat.le_of_ble_eq_true rfl, Nat.le_of_ble_eq_true rfl⟩) (preV_M (X := fun _ _ => True) Stb_T hK (va_recv hK hP (ci := 6) (q0 := 0) rfl rfl) hP hD trivial) rfl rfl hl.1 rfl (lv_room (Nat.le_of_ble_eq_true rfl)) dX7_take_11 ⟨Nat.le_of_ble_eq_true rfl, Nat.le_of_ble_eq_true rfl⟩) hS (fun q _ h => hFc q h) hFc (fun u9 t9 H9 locs ht9 hvm9 hw9 hB9 hz9 hk9 hS => ?_)
    obtain ⟨un2_11, bf2_11, hf11_0, hP1, hD1⟩ := hB9
    rw [ht9] at hP1
    have hP := hP1
    have hD := hD1.weaken (fun _ _ _ h => hFc _ h)
    generalize H9 = H at hP hS hz9 hk9 ht9 ⊢
    have hP : va_P D classes (mW cs ad len spot un2_11 bo cu lo wh tx now rd bf2_11 bl us lg bd dp) H := hP
    have hD : va_D A (mW cs ad len spot un2_11 bo cu lo wh tx now rd bf2_11 bl us lg bd dp) := hD
    refine rv_iconst hx hb dX7_take_14 ?_
    refine lv_iload_n hx hb dX7_take_15 rfl (lv_at hl 1 rfl) ?_
    refine rv_imul hx hb dX7_take_16 ?_
    refine lv_istore_n (lv' := [(2, .int (iI (5 * p))), (0, .ref (ad 0)), (1, .int (iI p))]) hx hb dX7_take_17 rfl hl (by decide) rfl (fun ls hl => ?_)
    have loop18 : ∀ (fuel18 : Nat) (k : Nat) (B : Nat → Int), (5 * p.toNat ≤ k ∧ k ≤ 15) → (∀ j : Nat, B j = if 5 * p.toNat ≤ j ∧ j < k then now (j + 5) else now j) → 15 - k < fuel18 → ∀ (x2 : Int), x2 = (k : Int) → ∀ (H : Heap) (locs : List Loc), va_P D classes (mW cs ad len spot un2_11 bo cu lo wh tx B rd bf2_11 bl us lg bd dp) H → va_D A (mW cs ad len spot un2_11 bo cu lo wh tx B rd bf2_11 bl us lg bd dp) → va_S A s.heap H locs → ∀ ls : Array Slot, lv_has ls 3 [(0, .ref (ad 0)), (1, .int (iI p)), (2, .int (iI x2))] → W pg l ev rm_X7_take s m [.ref (ad 0), .int (iI p)].toArray below meth c H locs 0 0 Q (F0 m 18 ls []) := by
      intro fuel18
      induction fuel18 with
      | zero => intro k B hk hq hfuel18; exact absurd hfuel18 (Nat.not_lt_zero _)
      | succ fuel18 ih18 =>
        intro k B hk hq hfuel18 x2 ex2 H locs hP hD hS ls hl
        subst ex2
        refine lv_iload_n hx hb dX7_take_18 rfl (lv_at hl 2 rfl) ?_
        refine rv_bipush hx hb dX7_take_19 (by decide) ?_
        refine rv_icmp_ge (tgt := 44) hx hb dX7_take_21 (by decide) (by omega) (fun h21 => ?_) (fun h21 => ?_)
        · have h20 : B 20 = now 20 := by rw [hq, if_neg (by omega)]
          refine lv_aload_n hx hb dX7_take_44 rfl (lv_at hl 0 rfl) ?_
          refine va_get (D := D) (ci := 6) (v := .ref (ad 2)) (C := RX7) (T := TX7) (N := 16) hx hb ht inTB_X7 hown hK hP 0 rfl rfl 3 (by decide) (ht _ tb_591) (fun _ h9 => h9) rfl dX7_take_45 ?_
          refine rv_bipush hx hb dX7_take_48 (by decide) ?_
          refine lv_dup2_11 hx hb dX7_take_50 rfl rfl ?_
          refine rv_iald hx hb hK hP 2 0 rfl rfl 20 rfl (by omega) dX7_take_51 ?_
          refine rv_iconst hx hb dX7_take_52 ?_
          refine rv_isub hx hb dX7_take_53 ?_
          refine rv_iast hx hb hK hP hD hS 2 0 rfl rfl 20 rfl (by omega) dX7_take_54 (fun H locs hP hD hS => ?_)
          have hP : va_P D classes (mW cs ad len spot un2_11 bo cu lo wh tx (upI B 20 ((B 20) - 1)) rd bf2_11 bl us lg bd dp) H := hP
          have hD : va_D A (mW cs ad len spot un2_11 bo cu lo wh tx (upI B 20 ((B 20) - 1)) rd bf2_11 bl us lg bd dp) := hD
          refine lv_aload_n hx hb dX7_take_55 rfl (lv_at hl 0 rfl) ?_
          refine va_get (D := D) (ci := 6) (v := .ref (ad 2)) (C := RX7) (T := TX7) (N := 16) hx hb ht inTB_X7 hown hK hP 0 rfl rfl 3 (by decide) (ht _ tb_591) (fun _ h9 => h9) rfl dX7_take_56 ?_
          refine rv_bipush hx hb dX7_take_59 (by decide) ?_
          refine rv_iald hx hb hK hP 2 0 rfl rfl 20 rfl (by omega) dX7_take_61 ?_
          subst hQ
          exact W.iret hx hb hr (fun t9 ht9 hW9 => ⟨⟨_, _, rfl, rfl, ⟨(upI B 20 ((B 20) - 1)), un2_11, bf2_11, by rw [cif_pos hb2, upI_s, h20], ⟨fun q => absurd hb2 q, fun _ => ⟨by funext j; unfold tkV; by_cases z : j = 20; subst z; rw [upI_s, if_pos rfl, h20]; rw [upI_n z, if_neg z, hq]; by_cases y : 5 * p.toNat ≤ j ∧ j < 15; rw [if_pos y, if_pos (by omega)]; rw [if_neg y, if_neg (by omega)], hf11_0⟩⟩, by rw [ht9]; exact hP, by rw [hAe]; exact hD⟩⟩, by rw [hAe]; exact hS.F ht9⟩) (by rw [hAe]; exact hS.2.2) dX7_take_62
        · refine lv_aload_n hx hb dX7_take_24 rfl (lv_at hl 0 rfl) ?_
          refine va_get (D := D) (ci := 6) (v := .ref (ad 2)) (C := RX7) (T := TX7) (N := 16) hx hb ht inTB_X7 hown hK hP 0 rfl rfl 3 (by decide) (ht _ tb_591) (fun _ h9 => h9) rfl dX7_take_25 ?_
          refine lv_iload_n hx hb dX7_take_28 rfl (lv_at hl 2 rfl) ?_
          refine lv_aload_n hx hb dX7_take_29 rfl (lv_at hl 0 rfl) ?_
          refine va_get (D := D) (ci := 6) (v := .ref (ad 2)) (C := RX7) (T := TX7) (N := 16) hx hb ht inTB_X7 hown hK hP 0 rfl rfl 3 (by decide) (ht _ tb_591) (fun _ h9 => h9) rfl dX7_take_30 ?_
          refine lv_iload_n hx hb dX7_take_33 rfl (lv_at hl 2 rfl) ?_
          refine rv_iconst hx hb dX7_take_34 ?_
          refine rv_iadd hx hb dX7_take_35 ?_
          refine rv_iald hx hb hK hP 2 0 rfl rfl (k + 5) (by omega) (by omega) dX7_take_36 ?_
          refine rv_iast hx hb hK hP hD hS 2 0 rfl rfl k rfl (by omega) dX7_take_37 (fun H locs hP hD hS => ?_)
          have hP : va_P D classes (mW cs ad len spot un2_11 bo cu lo wh tx (upI B k (B (k + 5))) rd bf2_11 bl us lg bd dp) H := hP
          have hD : va_D A (mW cs ad len spot un2_11 bo cu lo wh tx (upI B k (B (k + 5))) rd bf2_11 bl us lg bd dp) := hD
          refine rv_iinc (k := 2) (lv' := [(2, .int (iI ((k : Int) + 1))), (0, .ref (ad 0)), (1, .int (iI p))]) hx hb dX7_take_38 hl rfl (by decide) rfl (fun ls hl => ?_)
          refine lv_goto (tgt := 18) hx hb dX7_take_41 (by decide) ?_
          exact ih18 (k + 1) (upI B k (B (k + 5))) (by omega) (fun j => by by_cases z : j = k; subst z; rw [upI_s, hq, if_neg (by omega), if_pos (by omega)]; rw [upI_n z, hq]; by_cases y : 5 * p.toNat ≤ j ∧ j < k; rw [if_pos y, if_pos (by omega)]; rw [if_neg y, if_neg (by omega)]) (by omega) _ (by omega) H locs hP hD hS ls (lv_sub hl [1, 2, 0] rfl)
    exact loop18 (_ + 1) (5 * p.toNat) now (by omega) (fun j => by rw [if_neg (by omega)]) (Nat.lt_succ_self _) _ (by omega) H locs hP hD hS ls (lv_sub hl [1, 2, 0] rfl)
  · refine rv_if_ne (tgt := 10) hx hb dX7_take_5 (by decide) (by decide) (fun q => absurd q (by decide)) (fun _ => ?_)
    refine rv_iconst hx hb dX7_take_8 ?_
    subst hQ
    exact W.iret hx hb hr (fun t9 ht9 hW9 => ⟨⟨_, _, rfl, rfl, ⟨now, un, bf, by rw [cif_neg hb2], ⟨fun _ => ⟨rfl, rfl, rfl⟩, fun q => absurd q hb2⟩, by rw [ht9]; exact hP, by rw [hAe]; exact hD⟩⟩, by rw [hAe]; exact hS.F ht9⟩) (by rw [hAe]; exact hS.2.2) dX7_take_9

