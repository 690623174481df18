/-! the law: what holds at its entry -/
section RS
variable {p : Program} {l : Launch} {e : Env} {R : Room} {s : State} {m : MethodId} {args : Array Value} {below : List Frame} {meth : Method} {c : Code} {H : Heap} {locs : List Loc} {cells slots : Nat} {Q : State → Prop}
variable {cc : ByteArray} {pc : Nat} {ls : Array Slot} {rest : List Value} {A : Nat → Prop} {H0 : Heap} {b L : Nat} {xs : Nat → Int32}
theorem rv_sld (hx : p.tables.exec = Jvm.exec) (hb : c.code = cc) (hX : va_X b L xs s H0) (hbl : b < H0.size) (hbA : ¬ A b) (hS : va_S A H0 H locs) {z : Int} (j : Nat) (hj : z = (j : Int)) (hlt : j < L ∧ L < 2147483648) {w : Int} (hw : xs j = iI w) (hdg : decode cc pc = .ok (.iaload, 1))
    (kk : W p l e R s m args below meth c H locs cells slots Q (F0 m (pc + 1) ls (.int (iI w) :: rest))) : W p l e R s m args below meth c H locs cells slots Q (F0 m pc ls (.int (iI z) :: .ref b :: rest)) :=
  va_sld hx hb hX hbl hbA hS (iI_in hj hlt) hdg (by rw [iI_at hj hlt, hw]; exact kk)
theorem rv_slen (hx : p.tables.exec = Jvm.exec) (hb : c.code = cc) (hX : va_X b L xs s H0) (hbl : b < H0.size) (hbA : ¬ A b) (hS : va_S A H0 H locs) (hdg : decode cc pc = .ok (.arraylength, 1))
    (kk : W p l e R s m args below meth c H locs cells slots Q (F0 m (pc + 1) ls (.int (iI (L : Int)) :: rest))) : W p l e R s m args below meth c H locs cells slots Q (F0 m pc ls (.ref b :: rest)) :=
  va_slen hx hb hX hbl hbA hS hdg (by rw [iI_nat]; exact kk)
end RS
theorem law_arr {s : State} {args : Array Value} {ty : FieldType} (h : (Cond.arrayClass ty).before args s = true) (hn : ∀ C, ty ≠ .object C) : ∃ cA : ClassId, ArrOfT s cA ty ∧ va_RA s cA ty := by
  obtain ⟨cA, kA, comp, h1, h2, h3⟩ := Cond.arrayClass_spec h
  refine ⟨cA, fun n z => ⟨fun k h => (by cases h), kA, h2, comp, h3⟩, ?_⟩
  cases ty with
  | object C => exact absurd rfl (hn C)
  | _ => exact h1
theorem law_arq {s : State} {args : Array Value} {C : String} (h : (Cond.arrayOver (.object C)).before args s = true) : ∃ cA : ClassId, ArrOfT s cA (.object C) ∧ va_RA s cA (.object C) := by
  obtain ⟨comp, cA, kA, h1, -, h2, h3, h4⟩ := Cond.arrayOver_spec h
  exact ⟨cA, fun n z => ⟨fun k h => (by cases h), kA, h2, comp, h3⟩, kA, comp, h2, h3, h1, h4⟩
theorem lw_at {i : Nat} {w : Cond} (h : tables_1[i]? = some w) : w ∈ lw_tbl := List.mem_append_right _ (List.mem_of_getElem? h)
set_option maxHeartbeats 4000000 in
set_option maxRecDepth 100000 in
theorem law_known {s : State} {args : Array Value} (hts : ∀ w ∈ lw_tbl, w.before args s = true) : ∃ (D : va_G) (cs : Nat → ClassId), KA D cs s := by
  have ht : ∀ w ∈ TB, w.before args s = true := fun w h => hts w (tb_in h)
  obtain ⟨c0, i0, h0⟩ := u_known (C := RX1) (T := TX1) (N := 7) (n := 7) ht inTB_X1 (ht _ tb_127)
  obtain ⟨c1, i1, h1⟩ := u_known (C := RX2) (T := TX2) (N := 2) (n := 2) ht inTB_X2 (ht _ tb_56)
  obtain ⟨c2, i2, h2⟩ := u_known (C := RX3) (T := TX3) (N := 4) (n := 4) ht inTB_X3 (ht _ tb_173)
  obtain ⟨c3, i3, h3⟩ := u_known (C := RX4) (T := TX4) (N := 8) (n := 8) ht inTB_X4 (ht _ tb_21)
  obtain ⟨c4, i4, h4⟩ := u_known (C := RX5) (T := TX5) (N := 14) (n := 14) ht inTB_X5 (ht _ tb_72)
  obtain ⟨c5, i5, h5⟩ := u_known (C := RX6) (T := TX6) (N := 6) (n := 6) ht inTB_X6 (ht _ tb_13)
  obtain ⟨c6, i6, h6⟩ := u_known (C := RX7) (T := TX7) (N := 16) (n := 16) ht inTB_X7 (ht _ tb_579)
  obtain ⟨a0, b0⟩ := law_arr (ht _ tb_54) (fun C h => by cases h)
  obtain ⟨a1, b1⟩ := law_arr (ht _ tb_53) (fun C h => by cases h)
  obtain ⟨a2, b2⟩ := law_arq (C := "SoundWells$Panel") (hts _ (lw_at (i := 27) (by decide +kernel)))
  obtain ⟨a3, b3⟩ := law_arq (C := "SoundWells$Plan") (hts _ (lw_at (i := 62) (by decide +kernel)))
  refine ⟨(fun k => [c0, c1, c2, c3, c4, c5, c6].getD k c0, fun k => [i0, i1, i2, i3, i4, i5, i6].getD k i0), fun k => [a0, a1, a2, a3].getD k a0, fun k q hq => ?_, fun k q hq => ?_⟩
  · match k, hq with
    | 0, hq => cases hq; exact h0
    | 1, hq => cases hq; exact h1
    | 2, hq => cases hq; exact h2
    | 3, hq => cases hq; exact h3
    | 4, hq => cases hq; exact h4
    | 5, hq => cases hq; exact h5
    | 6, hq => cases hq; exact h6
    | k + 7, hq => simp [classes] at hq
  · match k, hq with
    | 0, hq => cases hq; exact b0
    | 1, hq => cases hq; exact b1
    | 2, hq => cases hq; exact b2
    | 3, hq => cases hq; exact b3
    | k + 4, hq => simp [KT] at hq
theorem law_ST {s : State} {args : Array Value} (hts : ∀ w ∈ lw_tbl, w.before args s = true) : ST s := ⟨va_AO.of (hts _ (lw_at (i := 27) (by decide +kernel))), va_AO.of (hts _ (lw_at (i := 62) (by decide +kernel))), va_Nw.of rfl (hts _ (lw_at (i := 344) (by decide +kernel)))⟩
theorem law_NS {s : State} {args : Array Value} (hts : ∀ w ∈ lw_tbl, w.before args s = true) : NS s := ⟨va_Nw.of rfl (hts _ (lw_at (i := 22) (by decide +kernel))), va_Nw.of rfl (hts _ (lw_at (i := 57) (by decide +kernel))), va_Nw.of rfl (hts _ (lw_at (i := 73) (by decide +kernel)))⟩
set_option maxHeartbeats 4000000 in
theorem law_PZ {s : State} {args : Array Value} (hts : ∀ w ∈ lw_tbl, w.before args s = true) (hgv : (Jvm.Cond.and given_1 narrow_1).before args s = true) : PZ s s.heap (fun q => s.heap.size ≤ q) := by
  have hs := flat_of_before _ hgv
  have harr : (Cond.arrayOf (.static "SoundWells" "PRIMES" "[I") .int).before args s = true := hs _ (by decide +kernel)
  have hlen : (Cond.eq (.length (.static "SoundWells" "PRIMES" "[I")) (.int 10)).before args s = true := hs _ (by decide +kernel)
  have e0 : (Cond.eq (.elem (.static "SoundWells" "PRIMES" "[I") (.int 0)) (.int 3)).before args s = true := hs _ (by decide +kernel)
  have e1 : (Cond.eq (.elem (.static "SoundWells" "PRIMES" "[I") (.int 1)) (.int 5)).before args s = true := hs _ (by decide +kernel)
  have e2 : (Cond.eq (.elem (.static "SoundWells" "PRIMES" "[I") (.int 2)) (.int 7)).before args s = true := hs _ (by decide +kernel)
  have e3 : (Cond.eq (.elem (.static "SoundWells" "PRIMES" "[I") (.int 3)) (.int 11)).before args s = true := hs _ (by decide +kernel)
  have e4 : (Cond.eq (.elem (.static "SoundWells" "PRIMES" "[I") (.int 4)) (.int 13)).before args s = true := hs _ (by decide +kernel)
  have e5 : (Cond.eq (.elem (.static "SoundWells" "PRIMES" "[I") (.int 5)) (.int 17)).before args s = true := hs _ (by decide +kernel)
  have e6 : (Cond.eq (.elem (.static "SoundWells" "PRIMES" "[I") (.int 6)) (.int 19)).before args s = true := hs _ (by decide +kernel)
  have e7 : (Cond.eq (.elem (.static "SoundWells" "PRIMES" "[I") (.int 7)) (.int 23)).before args s = true := hs _ (by decide +kernel)
  have e8 : (Cond.eq (.elem (.static "SoundWells" "PRIMES" "[I") (.int 8)) (.int 29)).before args s = true := hs _ (by decide +kernel)
  have e9 : (Cond.eq (.elem (.static "SoundWells" "PRIMES" "[I") (.int 9)) (.int 31)).before args s = true := hs _ (by decide +kernel)
  obtain ⟨t, ht, hT⟩ := va_Tof (tm := .static "SoundWells" "PRIMES" "[I") (ty := .int) (N := 10) (f := fun j => .int (iI (prI j))) (A := fun q => s.heap.size ≤ q) (by decide) harr (va_eqt hlen) (fun j hj => by
    rcases (show j = 0 ∨ j = 1 ∨ j = 2 ∨ j = 3 ∨ j = 4 ∨ j = 5 ∨ j = 6 ∨ j = 7 ∨ j = 8 ∨ j = 9 by omega) with z | z | z | z | z | z | z | z | z | z <;> subst z
    · exact va_eqt e0
    · exact va_eqt e1
    · exact va_eqt e2
    · exact va_eqt e3
    · exact va_eqt e4
    · exact va_eqt e5
    · exact va_eqt e6
    · exact va_eqt e7
    · exact va_eqt e8
    · exact va_eqt e9
    ) (fun a h => Nat.not_le.mpr h)
  exact ⟨⟨t, va_Zof (hts _ (lw_at (i := 276) (by decide +kernel))) (hts _ (tb_in tb_1)) ht (fun a h => Nat.not_le.mpr h), hT⟩, va_Nw.of rfl (hts _ (lw_at (i := 275) (by decide +kernel)))⟩
theorem okTx_w {tx : Nat → Int} {len x : Int} (h : okTx tx len) (hl : 0 ≤ len ∧ len ≤ 200) : okTx (nTx len x tx) (nLen len x) ∧ (0 ≤ nLen len x ∧ nLen len x ≤ 200) := by
  unfold nTx nLen
  by_cases q : (32 ≤ x ∧ x ≤ 126) ∧ ¬ len = 200
  · rw [cF_pos q, cif_pos q]
    refine ⟨fun j hj => ?_, by omega⟩
    by_cases z : j = len.toNat
    · subst z; rw [upI_s]; exact q.1
    · rw [upI_n z]; exact h j (by omega)
  · rw [cF_neg q, cif_neg q]; exact ⟨h, hl⟩
theorem PlanAt.out {D : va_G} {cs : Nat → ClassId} {M : Nat → Prop} {H : Heap} {a : Nat} {v : Nat → Int} (h : PlanAt D cs M H a v) : PlanAt D cs (fun q => M q ∨ H.size ≤ q) H a v := by
  obtain ⟨hv, arr, g, h1, h2, h3, h4⟩ := h
  obtain ⟨g1, g2⟩ := h1.two
  have l1 : a < H.size := g1.lt
  have l2 : arr < H.size := g2.lt
  refine ⟨hv, arr, g, h1, fun z => z.elim h2 (by omega), fun z => z.elim h3 (by omega), fun q hq => ?_⟩
  obtain ⟨y, e, hy⟩ := h4 q hq
  refine ⟨y, e, ?_⟩
  obtain ⟨hv2, r, row, p1, p2, p3, p4⟩ := hy
  obtain ⟨u1, u2⟩ := p1.two
  have l3 : y < H.size := u1.lt
  have l4 : r < H.size := u2.lt
  exact ⟨hv2, r, row, p1, fun z => z.elim p2 (by omega), fun z => z.elim p3 (by omega), p4⟩
theorem Mw_mW {cs : Nat → ClassId} {ad : Nat → Nat} {len spot un bo cu lo wh : Int} {tx now rd bf bl us lg bd dp : Nat → Int} : ∀ q, Mw (mW cs ad len spot un bo cu lo wh tx now rd bf bl us lg bd dp) q → inAd ad 0 10 q := Mw_of (List.forall_mem_cons.mpr ⟨⟨0, by decide, by decide, rfl⟩, List.forall_mem_cons.mpr ⟨⟨1, by decide, by decide, rfl⟩, List.forall_mem_cons.mpr ⟨⟨2, by decide, by decide, rfl⟩, List.forall_mem_cons.mpr ⟨⟨3, by decide, by decide, rfl⟩, List.forall_mem_cons.mpr ⟨⟨4, by decide, by decide, rfl⟩, List.forall_mem_cons.mpr ⟨⟨5, by decide, by decide, rfl⟩, List.forall_mem_cons.mpr ⟨⟨6, by decide, by decide, rfl⟩, List.forall_mem_cons.mpr ⟨⟨7, by decide, by decide, rfl⟩, List.forall_mem_cons.mpr ⟨⟨8, by decide, by decide, rfl⟩, List.forall_mem_cons.mpr ⟨⟨9, by decide, by decide, rfl⟩, fun _ h => absurd h List.not_mem_nil⟩⟩⟩⟩⟩⟩⟩⟩⟩⟩)
