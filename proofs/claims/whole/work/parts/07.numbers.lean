/-! Numbers -/
def Stb (Bf : State → Heap → Prop) : Prop := (∀ (u U : State) (H : Heap), u.vm = U.vm → Bf u H → Bf U H) ∧ ∀ (s U : State) (H : Heap), s.WarmedH U.vm → Bf s H → Bf U H
theorem preS_of {s : State} {H : Heap} {vs : List Value} {Bf : State → Heap → Prop} (hst : Stb Bf) (h : Bf s H) : PreS s H (va_Pc vs (fun U => Bf U U.heap)) vs := ⟨fun a U g mk q => ⟨q.1, hst.1 U (U.calling g mk a) U.heap rfl q.2⟩, fun U hU hW => ⟨rfl, by show Bf U U.heap; rw [hU]; exact hst.2 s U H hW h⟩⟩
theorem preV_of {s : State} {H : Heap} {C : String} {b : Nat} {vs : List Value} {Bf : State → Heap → Prop} (hst : Stb Bf) (hr : ∃ cell : Cell, H[b]? = some cell ∧ cell.vm.isStatics = false ∧ s.vm.findClass C = some cell.cls) (h : Bf s H) : PreV s H C b (va_Pc (.ref b :: vs) (fun U => Bf U U.heap)) vs := ⟨fun a U g mk q => ⟨q.1, hst.1 U (U.calling g mk a) U.heap rfl q.2⟩, hr, fun U hU hW => ⟨rfl, by show Bf U U.heap; rw [hU]; exact hst.2 s U H hW h⟩⟩
theorem Stb_H {X : Heap → Prop} : Stb (fun _ H => X H) := ⟨fun _ _ _ _ h => h, fun _ _ _ _ h => h⟩
theorem Stb_and {B1 B2 : State → Heap → Prop} (h1 : Stb B1) (h2 : Stb B2) : Stb (fun U H => B1 U H ∧ B2 U H) := ⟨fun u U H e h => ⟨h1.1 u U H e h.1, h2.1 u U H e h.2⟩, fun s U H w h => ⟨h1.2 s U H w h.1, h2.2 s U H w h.2⟩⟩
theorem PZ_stb (A : Nat → Prop) : Stb (fun U H => PZ U H A) := by
  refine ⟨fun u U H e h => ?_, fun s U H hW h => ?_⟩
  · obtain ⟨⟨t, h1, h2⟩, h3⟩ := h
    have ha : u.vm.Alike U.vm := e ▸ Vm.Alike.refl u.vm
    exact ⟨⟨t, h1.moved ha, h2.moved ha⟩, h3.same rfl e⟩
  · obtain ⟨⟨t, h1, h2⟩, h3⟩ := h
    exact ⟨⟨t, h1.moved hW.alike, h2.moved hW.alike⟩, h3.warmF hW⟩

abbrev rm_X0_rest : Room := { frames := 0, cells := 0, slots := 0, locals := 0 }
set_option maxHeartbeats 4000000 in
set_option maxRecDepth 100000 in
/-- rest -/
theorem c_X0_rest (l : Launch) (a : Int) (n : Int) (ha : -2147483648 ≤ a ∧ a < 2147483648) (hn : 1 ≤ n ∧ n < 2147483648) : Met l yX0_rest (Cond.code yX0_rest cX0_rest 3 (some .int) :: TB) rm_X0_rest (va_Pc [.int (iI a), .int (iI n)] (fun _ => True)) (vp_Si (fun r => r = iI (a % n) ∧ (0 ≤ a % n ∧ a % n < n))) 0 0 (fun _ => False) := by
  refine enter (cc := cX0_rest) (maxL := 3) (ret := (some .int)) (by decide) (Nat.le_of_ble_eq_true rfl) ?_
  intro pg ev s m below meth c Q ls hx hb hml hown hts hr hlocks hnm _ hl hQ
  have ht : ∀ w ∈ TB, w.before _ s = true := fun w h => hts w (List.mem_cons_of_mem _ h)
  have hl : lv_has ls 3 [(0, .int (iI a)), (1, .int (iI n))] := hl
  have htm := tm_bd (a := a) (n := n) (by omega)
  refine lv_iload_n hx hb dX0_rest_0 rfl (lv_at hl 1 rfl) ?_
  refine rv_iconst hx hb dX0_rest_1 ?_
  refine rv_icmp_ge (tgt := 7) hx hb dX0_rest_2 (by decide) (by omega) (fun h2 => ?_) (fun h2 => False.elim (by omega))
  refine lv_iload_n hx hb dX0_rest_7 rfl (lv_at hl 0 rfl) ?_
  refine lv_iload_n hx hb dX0_rest_8 rfl (lv_at hl 1 rfl) ?_
  refine rv_iremT hx hb dX0_rest_9 (by omega) ?_
  refine lv_istore_n (lv' := [(2, .int (iI (Int.tmod a n))), (0, .int (iI a)), (1, .int (iI n))]) hx hb dX0_rest_10 rfl hl (by decide) rfl (fun ls hl => ?_)
  refine lv_iload_n hx hb dX0_rest_11 rfl (lv_at hl 0 rfl) ?_
  refine rv_if_ge (tgt := 21) hx hb dX0_rest_12 (by decide) (by omega) (fun h12 => ?_) (fun h12 => ?_)
  · refine lv_iload_n hx hb dX0_rest_21 rfl (lv_at hl 0 rfl) ?_
    subst hQ
    exact W.iret hx hb hr (fun t9 ht9 hW9 => ⟨_, rfl, ⟨by rw [show (Int.tmod a n) = a % n by omega], md_bd (by omega)⟩, ht9⟩) (fun _ h => absurd h List.not_mem_nil) dX0_rest_22
  · refine lv_iload_n hx hb dX0_rest_15 rfl (lv_at hl 0 rfl) ?_
    refine lv_iload_n hx hb dX0_rest_16 rfl (lv_at hl 2 rfl) ?_
    refine rv_iadd hx hb dX0_rest_17 ?_
    refine lv_goto (tgt := 22) hx hb dX0_rest_18 (by decide) ?_
    subst hQ
    exact W.iret hx hb hr (fun t9 ht9 hW9 => ⟨_, rfl, ⟨by rw [show ((Int.tmod a n) + n) = a % n by omega], md_bd (by omega)⟩, ht9⟩) (fun _ h => absurd h List.not_mem_nil) dX0_rest_22

abbrev rm_X0_roundedUp : Room := { frames := 0, cells := 0, slots := 0, locals := 0 }
set_option maxHeartbeats 4000000 in
set_option maxRecDepth 100000 in
/-- roundedUp -/
theorem c_X0_roundedUp (l : Launch) (a : Int) (n : Int) (ha : 0 ≤ a ∧ a < 1000000) (hn : 1 ≤ n ∧ n < 1000000) : Met l yX0_roundedUp (Cond.code yX0_roundedUp cX0_roundedUp 2 (some .int) :: TB) rm_X0_roundedUp (va_Pc [.int (iI a), .int (iI n)] (fun _ => True)) (vp_Si (fun r => r = iI ((a + n - 1) / n))) 0 0 (fun _ => False) := by
  refine enter (cc := cX0_roundedUp) (maxL := 2) (ret := (some .int)) (by decide) (Nat.le_of_ble_eq_true rfl) ?_
  intro pg ev s m below meth c Q ls hx hb hml hown hts hr hlocks hnm _ hl hQ
  have ht : ∀ w ∈ TB, w.before _ s = true := fun w h => hts w (List.mem_cons_of_mem _ h)
  have hl : lv_has ls 2 [(0, .int (iI a)), (1, .int (iI n))] := hl
  refine lv_iload_n hx hb dX0_roundedUp_0 rfl (lv_at hl 1 rfl) ?_
  refine rv_iconst hx hb dX0_roundedUp_1 ?_
  refine rv_icmp_ge (tgt := 9) hx hb dX0_roundedUp_2 (by decide) (by omega) (fun h2 => ?_) (fun h2 => False.elim (by omega))
  refine lv_iload_n hx hb dX0_roundedUp_9 rfl (lv_at hl 0 rfl) ?_
  refine lv_iload_n hx hb dX0_roundedUp_10 rfl (lv_at hl 1 rfl) ?_
  refine rv_iadd hx hb dX0_roundedUp_11 ?_
  refine rv_iconst hx hb dX0_roundedUp_12 ?_
  refine rv_isub hx hb dX0_roundedUp_13 ?_
  refine lv_iload_n hx hb dX0_roundedUp_14 rfl (lv_at hl 1 rfl) ?_
  refine rv_idiv hx hb dX0_roundedUp_15 (by omega) ?_
  subst hQ
  exact W.iret hx hb hr (fun t9 ht9 hW9 => ⟨_, rfl, rfl, ht9⟩) (fun _ h => absurd h List.not_mem_nil) dX0_roundedUp_16

abbrev rm_X0_squareBits : Room := { frames := 0, cells := 0, slots := 0, locals := 0 }
set_option maxHeartbeats 4000000 in
set_option maxRecDepth 100000 in
/-- squareBits -/
theorem c_X0_squareBits (l : Launch) (n : Int) (hn : 2 ≤ n ∧ n < 1000) : Met l yX0_squareBits (Cond.code yX0_squareBits cX0_squareBits 3 (some .int) :: TB) rm_X0_squareBits (va_Pc [.int (iI n)] (fun _ => True)) (vp_Si (fun r => r = iI (sqB n) ∧ (-2147483648 ≤ sqB n ∧ sqB n < 2147483648))) 0 0 (fun _ => False) := by
  refine enter (cc := cX0_squareBits) (maxL := 3) (ret := (some .int)) (by decide) (Nat.le_of_ble_eq_true rfl) ?_
  intro pg ev s m below meth c Q ls hx hb hml hown hts hr hlocks hnm _ hl hQ
  have ht : ∀ w ∈ TB, w.before _ s = true := fun w h => hts w (List.mem_cons_of_mem _ h)
  have hl : lv_has ls 3 [(0, .int (iI n))] := hl
  refine rv_iconst hx hb dX0_squareBits_0 ?_
  refine lv_istore_n (lv' := [(1, .int (iI 0)), (0, .int (iI n))]) hx hb dX0_squareBits_1 rfl hl (by decide) rfl (fun ls hl => ?_)
  refine rv_iconst hx hb dX0_squareBits_2 ?_
  refine lv_istore_n (lv' := [(2, .int (iI 1)), (1, .int (iI 0)), (0, .int (iI n))]) hx hb dX0_squareBits_3 rfl hl (by decide) rfl (fun ls hl => ?_)
  have loop4 : ∀ (fuel4 : Nat) (k : Nat), ((k : Int) + 1 ≤ n) → (n - (k : Int)).toNat < fuel4 → ∀ (x1 x2 : Int), x1 = sqBn n k → x2 = ((k : Int) + 1) → ∀ ls : Array Slot, lv_has ls 3 [(0, .int (iI n)), (1, .int (iI x1)), (2, .int (iI x2))] → W pg l ev rm_X0_squareBits s m [.int (iI n)].toArray below meth c s.heap [] 0 0 Q (F0 m 4 ls []) := by
    intro fuel4
    induction fuel4 with
    | zero => intro k hk hfuel4; exact absurd hfuel4 (Nat.not_lt_zero _)
    | succ fuel4 ih4 =>
      intro k hk hfuel4 x1 x2 ex1 ex2 ls hl
      subst ex1 ex2
      refine lv_iload_n hx hb dX0_squareBits_4 rfl (lv_at hl 2 rfl) ?_
      refine lv_iload_n hx hb dX0_squareBits_5 rfl (lv_at hl 0 rfl) ?_
      refine rv_icmp_ge (tgt := 25) hx hb dX0_squareBits_6 (by decide) (by omega) (fun h6 => ?_) (fun h6 => ?_)
      · refine lv_iload_n hx hb dX0_squareBits_25 rfl (lv_at hl 1 rfl) ?_
        subst hQ
        exact W.iret hx hb hr (fun t9 ht9 hW9 => ⟨_, rfl, ⟨by rw [sqB, show (n - 1).toNat = k by omega], sqBn_bd _ _⟩, ht9⟩) (fun _ h => absurd h List.not_mem_nil) dX0_squareBits_26
      · refine lv_iload_n hx hb dX0_squareBits_9 rfl (lv_at hl 1 rfl) ?_
        refine rv_iconst hx hb dX0_squareBits_10 ?_
        refine lv_iload_n hx hb dX0_squareBits_11 rfl (lv_at hl 2 rfl) ?_
        refine lv_iload_n hx hb dX0_squareBits_12 rfl (lv_at hl 2 rfl) ?_
        have hq : ((k : Int) + 1) * ((k : Int) + 1) ≤ 1000 * 1000 := Int.mul_le_mul (by omega) (by omega) (by omega) (by omega)
        have hq0 : 0 ≤ ((k : Int) + 1) * ((k : Int) + 1) := Int.mul_nonneg (by omega) (by omega)
        refine rv_imul hx hb dX0_squareBits_13 ?_
        refine lv_iload_n hx hb dX0_squareBits_14 rfl (lv_at hl 0 rfl) ?_
        refine rv_irem hx hb dX0_squareBits_15 (by omega) ?_
        have hm15 := md_bd (x := (((k : Int) + 1) * ((k : Int) + 1))) (y := n) (by omega)
        refine rv_ishl hx hb dX0_squareBits_16 ?_
        refine rv_ior hx hb dX0_squareBits_17 ?_
        refine lv_istore_n (lv' := [(1, .int (iI (orI (sqBn n k) (shlI 1 ((((k : Int) + 1) * ((k : Int) + 1)) % n))))), (0, .int (iI n)), (2, .int (iI ((k : Int) + 1)))]) hx hb dX0_squareBits_18 rfl hl (by decide) rfl (fun ls hl => ?_)
        refine rv_iinc (k := 2) (lv' := [(2, .int (iI (((k : Int) + 1) + 1))), (1, .int (iI (orI (sqBn n k) (shlI 1 ((((k : Int) + 1) * ((k : Int) + 1)) % n))))), (0, .int (iI n))]) hx hb dX0_squareBits_19 hl rfl (by decide) rfl (fun ls hl => ?_)
        refine lv_goto (tgt := 4) hx hb dX0_squareBits_22 (by decide) ?_
        exact ih4 (k + 1) (by omega) (by omega) _ _ rfl (by omega) ls (lv_sub hl [2, 1, 0] rfl)
  exact loop4 (_ + 1) 0 (by omega) (Nat.lt_succ_self _) _ _ rfl rfl ls (lv_sub hl [2, 1, 0] rfl)

abbrev rm_X0_signOf : Room := { frames := 1, cells := 0, slots := 0, locals := 22 }
set_option maxHeartbeats 4000000 in
set_option maxRecDepth 100000 in
/-- signOf -/
theorem c_X0_signOf (l : Launch) (a : Int) (n : Int) (ha : -2147483648 ≤ a ∧ a < 2147483648) (hn : isPr n) : Met l yX0_signOf (Cond.code yX0_signOf cX0_signOf 3 (some .int) :: TB) rm_X0_signOf (va_Pc [.int (iI a), .int (iI n)] (fun _ => True)) (vp_Si (fun r => r = iI (sg a n) ∧ (-1 ≤ sg a n ∧ sg a n ≤ 1))) 0 0 (fun _ => False) := by
  refine enter (cc := cX0_signOf) (maxL := 3) (ret := (some .int)) (by decide) (Nat.le_of_ble_eq_true rfl) ?_
  intro pg ev s m below meth c Q ls hx hb hml hown hts hr hlocks hnm _ hl hQ
  have ht : ∀ w ∈ TB, w.before _ s = true := fun w h => hts w (List.mem_cons_of_mem _ h)
  have hl : lv_has ls 3 [(0, .int (iI a)), (1, .int (iI n))] := hl
  have hnb := isPr_bd hn
  have hmb := md_bd (x := a) (y := n) (by omega)
  obtain ⟨k, hk, hkn⟩ := isPr_mem hn
  have htab := sg_tab k hk (a % n).toNat (by omega)
  rw [show (((a % n).toNat : Nat) : Int) = a % n by omega, ← hkn] at htab
  have hs1 := andI_bd (shrI (sqB n) (a % n)) 1
  refine lv_iload_n hx hb dX0_signOf_0 rfl (lv_at hl 0 rfl) ?_
  refine lv_iload_n hx hb dX0_signOf_1 rfl (lv_at hl 1 rfl) ?_
  refine vp_callSi (W.runS (As := [.int (iI a), .int (iI n)]) (rest := []) ⟨hx, hb, hml, hown, hts⟩ (c_X0_rest l a n (by omega) (by omega)) (va_cwS 2 hts (gS tb_399 tb_139 tb_6 tb_140) rfl rfl rfl (by decide +kernel) ⟨Nat.le_of_ble_eq_true rfl, Nat.le_of_ble_eq_true rfl⟩) preS0 rfl rfl hl.1 rfl (lv_room (Nat.le_of_ble_eq_true rfl)) dX0_signOf_2 ⟨Nat.le_of_ble_eq_true rfl, Nat.le_of_ble_eq_true rfl⟩) (fun r9 hr9 => ?_)
  obtain ⟨rfl, hx2_0⟩ := hr9
  refine lv_istore_n (lv' := [(2, .int (iI (a % n))), (0, .int (iI a)), (1, .int (iI n))]) hx hb dX0_signOf_5 rfl hl (by decide) rfl (fun ls hl => ?_)
  refine lv_iload_n hx hb dX0_signOf_6 rfl (lv_at hl 0 rfl) ?_
  refine rv_if_ne (tgt := 12) hx hb dX0_signOf_7 (by decide) (by omega) (fun h7 => ?_) (fun h7 => ?_)
  · refine lv_iload_n hx hb dX0_signOf_12 rfl (lv_at hl 2 rfl) ?_
    refine vp_callSi (W.runS (As := [.int (iI n)]) (rest := []) ⟨hx, hb, hml, hown, hts⟩ (c_X0_squareBits l n (by omega)) (va_cwS 1 hts (gS tb_400 tb_136 tb_6 tb_137) rfl rfl rfl (by decide +kernel) ⟨Nat.le_of_ble_eq_true rfl, Nat.le_of_ble_eq_true rfl⟩) preS0 rfl rfl hl.1 rfl (lv_room (Nat.le_of_ble_eq_true rfl)) dX0_signOf_13 ⟨Nat.le_of_ble_eq_true rfl, Nat.le_of_ble_eq_true rfl⟩) (fun r9 hr9 => ?_)
    obtain ⟨rfl, hx13_0⟩ := hr9
    refine lv_iload_n hx hb dX0_signOf_16 rfl (lv_at hl 0 rfl) ?_
    refine rv_ishr hx hb dX0_signOf_17 ?_
    refine rv_iconst hx hb dX0_signOf_18 ?_
    refine rv_iand hx hb dX0_signOf_19 ?_
    refine rv_iconst hx hb dX0_signOf_20 ?_
    refine rv_icmp_ne (tgt := 28) hx hb dX0_signOf_21 (by decide) (by omega) (fun h21 => ?_) (fun h21 => ?_)
    · refine rv_iconst hx hb dX0_signOf_28 ?_
      subst hQ
      exact W.iret hx hb hr (fun t9 ht9 hW9 => ⟨_, rfl, ⟨by rw [sg, sgN, if_neg (by omega), show n.toNat = k by omega]; rw [if_neg (fun q => h21 (htab.mpr q))], sg_bd _ _⟩, ht9⟩) (fun _ h => absurd h List.not_mem_nil) dX0_signOf_29
    · refine rv_iconst hx hb dX0_signOf_24 ?_
      refine lv_goto (tgt := 29) hx hb dX0_signOf_25 (by decide) ?_
      subst hQ
      exact W.iret hx hb hr (fun t9 ht9 hW9 => ⟨_, rfl, ⟨by rw [sg, sgN, if_neg (by omega), show n.toNat = k by omega]; rw [if_pos (htab.mp h21)], sg_bd _ _⟩, ht9⟩) (fun _ h => absurd h List.not_mem_nil) dX0_signOf_29
  · refine rv_iconst hx hb dX0_signOf_10 ?_
    subst hQ
    exact W.iret hx hb hr (fun t9 ht9 hW9 => ⟨_, rfl, ⟨by rw [sg, sgN, if_pos (by omega)], sg_bd _ _⟩, ht9⟩) (fun _ h => absurd h List.not_mem_nil) dX0_signOf_11

abbrev rm_X0_isRoot : Room := { frames := 0, cells := 0, slots := 0, locals := 0 }
set_option maxHeartbeats 4000000 in
set_option maxRecDepth 100000 in
/-- isRoot -/
theorem c_X0_isRoot (l : Launch) (f : Int) (n : Int) (hf : -2147483648 ≤ f ∧ f < 2147483648) (hn : isPr n) : Met l yX0_isRoot (Cond.code yX0_isRoot cX0_isRoot 5 (some .boolean) :: TB) rm_X0_isRoot (va_Pc [.int (iI f), .int (iI n)] (fun _ => True)) (vp_Si (fun r => (r = iI 1 ∧ (isRt f n)) ∨ (r = iI 0 ∧ ¬ (isRt f n)))) 0 0 (fun _ => False) := by
  refine enter (cc := cX0_isRoot) (maxL := 5) (ret := (some .boolean)) (by decide) (Nat.le_of_ble_eq_true rfl) ?_
  intro pg ev s m below meth c Q ls hx hb hml hown hts hr hlocks hnm _ hl hQ
  have ht : ∀ w ∈ TB, w.before _ s = true := fun w h => hts w (List.mem_cons_of_mem _ h)
  have hl : lv_has ls 5 [(0, .int (iI f)), (1, .int (iI n))] := hl
  have hnb := isPr_bd hn
  refine lv_iload_n hx hb dX0_isRoot_0 rfl (lv_at hl 0 rfl) ?_
  refine rv_iconst hx hb dX0_isRoot_1 ?_
  refine rv_icmp_lt (tgt := 10) hx hb dX0_isRoot_2 (by decide) (by omega) (fun h2 => ?_) (fun h2 => ?_)
  · refine rv_iconst hx hb dX0_isRoot_10 ?_
    subst hQ
    exact W.zret (ty := .boolean) hx hb hr (by decide) (fun t9 ht9 hW9 => ⟨_, rfl, Or.inr ⟨rfl, fun q => by have := q.1; have := q.2.1; omega⟩, ht9⟩) (fun _ h => absurd h List.not_mem_nil) dX0_isRoot_11
  · refine lv_iload_n hx hb dX0_isRoot_5 rfl (lv_at hl 0 rfl) ?_
    refine lv_iload_n hx hb dX0_isRoot_6 rfl (lv_at hl 1 rfl) ?_
    refine rv_icmp_lt (tgt := 12) hx hb dX0_isRoot_7 (by decide) (by omega) (fun h7 => ?_) (fun h7 => ?_)
    · refine rv_iconst hx hb dX0_isRoot_12 ?_
      refine lv_istore_n (lv' := [(2, .int (iI 0)), (0, .int (iI f)), (1, .int (iI n))]) hx hb dX0_isRoot_13 rfl hl (by decide) rfl (fun ls hl => ?_)
      refine rv_iconst hx hb dX0_isRoot_14 ?_
      refine lv_istore_n (lv' := [(3, .int (iI 1)), (2, .int (iI 0)), (0, .int (iI f)), (1, .int (iI n))]) hx hb dX0_isRoot_15 rfl hl (by decide) rfl (fun ls hl => ?_)
      refine rv_iconst hx hb dX0_isRoot_16 ?_
      refine lv_istore (lv' := [(4, .int (iI 1)), (3, .int (iI 1)), (2, .int (iI 0)), (0, .int (iI f)), (1, .int (iI n))]) hx hb dX0_isRoot_17 hl (by decide) rfl (fun ls hl => ?_)
      have loop19 : ∀ (fuel19 : Nat) (k : Nat), ((k : Int) + 1 ≤ n) → (∀ e : Nat, e < k → ¬ andI (shrI (snI f n e) (pwI f n (e + 1))) 1 = 1) → (n - (k : Int)).toNat < fuel19 → ∀ (x2 x3 x4 : Int), x2 = snI f n k → x3 = pwI f n k → x4 = ((k : Int) + 1) → ∀ ls : Array Slot, lv_has ls 5 [(0, .int (iI f)), (1, .int (iI n)), (2, .int (iI x2)), (3, .int (iI x3)), (4, .int (iI x4))] → W pg l ev rm_X0_isRoot s m [.int (iI f), .int (iI n)].toArray below meth c s.heap [] 0 0 Q (F0 m 19 ls []) := by
        intro fuel19
        induction fuel19 with
        | zero => intro k hk hi hfuel19; exact absurd hfuel19 (Nat.not_lt_zero _)
        | succ fuel19 ih19 =>
          intro k hk hi hfuel19 x2 x3 x4 ex2 ex3 ex4 ls hl
          subst ex2 ex3 ex4
          have hpb := pwI_bd (f := f) (n := n) (by omega) k
          have hpc := pwI_bd (f := f) (n := n) (by omega) (k + 1)
          have hpm : 0 ≤ pwI f n k * f := Int.mul_nonneg (by omega) (by omega)
          have hpn : pwI f n k * f ≤ 31 * 31 := Int.mul_le_mul (by omega) (by omega) (by omega) (by omega)
          have hab := andI_bd (shrI (snI f n k) (pwI f n (k + 1))) 1
          refine lv_iload hx hb dX0_isRoot_19 (lv_at hl 4 rfl) ?_
          refine lv_iload_n hx hb dX0_isRoot_21 rfl (lv_at hl 1 rfl) ?_
          refine rv_icmp_ge (tgt := 54) hx hb dX0_isRoot_22 (by decide) (by omega) (fun h22 => ?_) (fun h22 => ?_)
          · refine rv_iconst hx hb dX0_isRoot_54 ?_
            subst hQ
            exact W.zret (ty := .boolean) hx hb hr (by decide) (fun t9 ht9 hW9 => ⟨_, rfl, Or.inl ⟨rfl, by omega, by omega, (rt_cls hn (by omega) (by omega)).mp (fun e he => hi e (by omega))⟩, ht9⟩) (fun _ h => absurd h List.not_mem_nil) dX0_isRoot_55
          · refine lv_iload_n hx hb dX0_isRoot_25 rfl (lv_at hl 3 rfl) ?_
            refine lv_iload_n hx hb dX0_isRoot_26 rfl (lv_at hl 0 rfl) ?_
            refine rv_imul hx hb dX0_isRoot_27 ?_
            refine lv_iload_n hx hb dX0_isRoot_28 rfl (lv_at hl 1 rfl) ?_
            refine rv_irem hx hb dX0_isRoot_29 (by omega) ?_
            refine rv_top (y := (pwI f n (k + 1))) rfl ?_
            refine lv_istore_n (lv' := [(3, .int (iI (pwI f n (k + 1)))), (0, .int (iI f)), (1, .int (iI n)), (2, .int (iI (snI f n k))), (4, .int (iI ((k : Int) + 1)))]) hx hb dX0_isRoot_30 rfl hl (by decide) rfl (fun ls hl => ?_)
            refine lv_iload_n hx hb dX0_isRoot_31 rfl (lv_at hl 3 rfl) ?_
            refine lv_iload_n hx hb dX0_isRoot_32 rfl (lv_at hl 0 rfl) ?_
            refine rv_ishr hx hb dX0_isRoot_33 ?_
            refine rv_iconst hx hb dX0_isRoot_34 ?_
            refine rv_iand hx hb dX0_isRoot_35 ?_
            refine rv_iconst hx hb dX0_isRoot_36 ?_
            refine rv_icmp_ne (tgt := 42) hx hb dX0_isRoot_37 (by decide) (by omega) (fun h37 => ?_) (fun h37 => ?_)
            · refine lv_iload_n hx hb dX0_isRoot_42 rfl (lv_at hl 3 rfl) ?_
              refine rv_iconst hx hb dX0_isRoot_43 ?_
              refine lv_iload_n hx hb dX0_isRoot_44 rfl (lv_at hl 0 rfl) ?_
              refine rv_ishl hx hb dX0_isRoot_45 ?_
              refine rv_ior hx hb dX0_isRoot_46 ?_
              refine lv_istore_n (lv' := [(2, .int (iI (orI (snI f n k) (shlI 1 (pwI f n (k + 1)))))), (3, .int (iI (pwI f n (k + 1)))), (0, .int (iI f)), (1, .int (iI n)), (4, .int (iI ((k : Int) + 1)))]) hx hb dX0_isRoot_47 rfl hl (by decide) rfl (fun ls hl => ?_)
              refine rv_iinc (k := 4) (lv' := [(4, .int (iI (((k : Int) + 1) + 1))), (2, .int (iI (orI (snI f n k) (shlI 1 (pwI f n (k + 1)))))), (3, .int (iI (pwI f n (k + 1)))), (0, .int (iI f)), (1, .int (iI n))]) hx hb dX0_isRoot_48 hl rfl (by decide) rfl (fun ls hl => ?_)
              refine lv_goto (tgt := 19) hx hb dX0_isRoot_51 (by decide) ?_
              exact ih19 (k + 1) (by omega) (fun e he => by rcases Nat.lt_or_ge e k with q | q; exact hi e q; rw [show e = k by omega]; exact h37) (by omega) _ _ _ rfl rfl (by omega) ls (lv_sub hl [3, 4, 1, 2, 0] rfl)
            · refine rv_iconst hx hb dX0_isRoot_40 ?_
              subst hQ
              exact W.zret (ty := .boolean) hx hb hr (by decide) (fun t9 ht9 hW9 => ⟨_, rfl, Or.inr ⟨rfl, fun q => (rt_cls hn (by omega) (by omega)).mpr q.2.2 k (by omega) h37⟩, ht9⟩) (fun _ h => absurd h List.not_mem_nil) dX0_isRoot_41
      exact loop19 (_ + 1) 0 (by omega) (fun e he => absurd he (Nat.not_lt_zero _)) (Nat.lt_succ_self _) _ _ _ rfl rfl rfl ls (lv_sub hl [3, 4, 2, 1, 0] rfl)
    · refine rv_iconst hx hb dX0_isRoot_10 ?_
      subst hQ
      exact W.zret (ty := .boolean) hx hb hr (by decide) (fun t9 ht9 hW9 => ⟨_, rfl, Or.inr ⟨rfl, fun q => by have := q.1; have := q.2.1; omega⟩, ht9⟩) (fun _ h => absurd h List.not_mem_nil) dX0_isRoot_11

abbrev rm_X0_isPrime : Room := { frames := 0, cells := 0, slots := 0, locals := 0 }
set_option maxHeartbeats 4000000 in
set_option maxRecDepth 100000 in
/-- isPrime -/
theorem c_X0_isPrime (l : Launch) (n : Int) (hn : -2147483648 ≤ n ∧ n < 2147483648) : Met l yX0_isPrime (Cond.code yX0_isPrime cX0_isPrime 5 (some .boolean) :: TB) rm_X0_isPrime (va_Pc [.int (iI n)] (fun U => PZ U U.heap (fun _ => False))) (vp_Si (fun r => (r = iI 1 ∧ (isPr n)) ∨ (r = iI 0 ∧ ¬ (isPr n)))) 0 0 (fun _ => False) := by
  refine enter (cc := cX0_isPrime) (maxL := 5) (ret := (some .boolean)) (by decide) (Nat.le_of_ble_eq_true rfl) ?_
  intro pg ev s m below meth c Q ls hx hb hml hown hts hr hlocks hnm ⟨⟨t, hZ, hT⟩, hN⟩ hl hQ
  have ht : ∀ w ∈ TB, w.before _ s = true := fun w h => hts w (List.mem_cons_of_mem _ h)
  have hl : lv_has ls 5 [(0, .int (iI n))] := hl
  refine va_getsN hx hb hZ va_S.rf hown (hN.use rfl) (fun _ h9 => h9) dX0_isPrime_0 ?_
  refine lv_astore_n (lv' := [(1, .ref t), (0, .int (iI n))]) hx hb dX0_isPrime_3 rfl hl (by decide) rfl (fun ls hl => ?_)
  refine lv_aload_n hx hb dX0_isPrime_4 rfl (lv_at hl 0 rfl) ?_
  refine va_tlen (v := iI 10) hx hb hT va_S.rf rfl dX0_isPrime_5 ?_
  refine lv_istore_n (lv' := [(2, .int (iI 10)), (1, .ref t), (0, .int (iI n))]) hx hb dX0_isPrime_6 rfl hl (by decide) rfl (fun ls hl => ?_)
  refine rv_iconst hx hb dX0_isPrime_7 ?_
  refine lv_istore_n (lv' := [(3, .int (iI 0)), (2, .int (iI 10)), (1, .ref t), (0, .int (iI n))]) hx hb dX0_isPrime_8 rfl hl (by decide) rfl (fun ls hl => ?_)
  have loop9 : ∀ (fuel9 : Nat) (i : Nat), (i ≤ 10) → (∀ j : Nat, j < i → ¬ prI j = n) → 10 - i < fuel9 → ∀ (x3 : Int), x3 = (i : Int) → ∀ ls : Array Slot, lv_has ls 5 [(0, .int (iI n)), (1, .ref t), (2, .int (iI 10)), (3, .int (iI x3))] → W pg l ev rm_X0_isPrime s m [.int (iI n)].toArray below meth c s.heap [] 0 0 Q (F0 m 9 ls []) := by
    intro fuel9
    induction fuel9 with
    | zero => intro i hi hq hfuel9; exact absurd hfuel9 (Nat.not_lt_zero _)
    | succ fuel9 ih9 =>
      intro i hi hq hfuel9 x3 ex3 ls hl
      subst ex3
      have hpi := prI_bd i
      refine lv_iload_n hx hb dX0_isPrime_9 rfl (lv_at hl 3 rfl) ?_
      refine lv_iload_n hx hb dX0_isPrime_10 rfl (lv_at hl 2 rfl) ?_
      refine rv_icmp_ge (tgt := 33) hx hb dX0_isPrime_11 (by decide) (by omega) (fun h11 => ?_) (fun h11 => ?_)
      · refine rv_iconst hx hb dX0_isPrime_33 ?_
        subst hQ
        exact W.zret (ty := .boolean) hx hb hr (by decide) (fun t9 ht9 hW9 => ⟨_, rfl, Or.inr ⟨rfl, pr_out (fun j h => hq j (by omega))⟩, ht9⟩) (fun _ h => absurd h List.not_mem_nil) dX0_isPrime_34
      · refine lv_aload_n hx hb dX0_isPrime_14 rfl (lv_at hl 1 rfl) ?_
        refine lv_iload_n hx hb dX0_isPrime_15 rfl (lv_at hl 3 rfl) ?_
        refine va_ti (v := .int (iI (prI i))) hx hb hT va_S.rf (iI_in (j := i) rfl (by omega)) (by rw [iI_at (j := i) (n := 10) rfl (by omega)]) dX0_isPrime_16 ?_
        refine lv_istore (lv' := [(4, .int (iI (prI i))), (0, .int (iI n)), (1, .ref t), (2, .int (iI 10)), (3, .int (iI (i : Int)))]) hx hb dX0_isPrime_17 hl (by decide) rfl (fun ls hl => ?_)
        refine lv_iload hx hb dX0_isPrime_19 (lv_at hl 0 rfl) ?_
        refine lv_iload_n hx hb dX0_isPrime_21 rfl (lv_at hl 1 rfl) ?_
        refine rv_icmp_ne (tgt := 27) hx hb dX0_isPrime_22 (by decide) (by omega) (fun h22 => ?_) (fun h22 => ?_)
        · refine rv_iinc (k := 4) (lv' := [(3, .int (iI ((i : Int) + 1))), (4, .int (iI (prI i))), (0, .int (iI n)), (1, .ref t), (2, .int (iI 10))]) hx hb dX0_isPrime_27 hl rfl (by decide) rfl (fun ls hl => ?_)
          refine lv_goto (tgt := 9) hx hb dX0_isPrime_30 (by decide) ?_
          exact ih9 (i + 1) (by omega) (fun j h => by rcases Nat.lt_or_ge j i with q | q; exact hq j q; rw [show j = i by omega]; exact h22) (by omega) _ (by omega) ls (lv_sub hl [2, 3, 4, 0] rfl)
        · refine rv_iconst hx hb dX0_isPrime_25 ?_
          subst hQ
          exact W.zret (ty := .boolean) hx hb hr (by decide) (fun t9 ht9 hW9 => ⟨_, rfl, Or.inl ⟨rfl, pr_in (by omega) h22⟩, ht9⟩) (fun _ h => absurd h List.not_mem_nil) dX0_isPrime_26
  exact loop9 (_ + 1) 0 (by omega) (fun j h => absurd h (Nat.not_lt_zero _)) (Nat.lt_succ_self _) _ rfl ls (lv_sub hl [3, 2, 1, 0] rfl)

abbrev rm_X0_lowestRoot : Room := { frames := 1, cells := 0, slots := 0, locals := 24 }
set_option maxHeartbeats 4000000 in
set_option maxRecDepth 100000 in
/-- lowestRoot -/
theorem c_X0_lowestRoot (l : Launch) (n : Int) (hn : isPr n) : Met l yX0_lowestRoot (Cond.code yX0_lowestRoot cX0_lowestRoot 2 (some .int) :: TB) rm_X0_lowestRoot (va_Pc [.int (iI n)] (fun _ => True)) (vp_Si (fun r => r = iI (lowR n))) 0 0 (fun _ => False) := by
  refine enter (cc := cX0_lowestRoot) (maxL := 2) (ret := (some .int)) (by decide) (Nat.le_of_ble_eq_true rfl) ?_
  intro pg ev s m below meth c Q ls hx hb hml hown hts hr hlocks hnm _ hl hQ
  have ht : ∀ w ∈ TB, w.before _ s = true := fun w h => hts w (List.mem_cons_of_mem _ h)
  have hl : lv_has ls 2 [(0, .int (iI n))] := hl
  have hnb := isPr_bd hn
  refine rv_iconst hx hb dX0_lowestRoot_0 ?_
  refine lv_istore_n (lv' := [(1, .int (iI 2)), (0, .int (iI n))]) hx hb dX0_lowestRoot_1 rfl hl (by decide) rfl (fun ls hl => ?_)
  have loop2 : ∀ (fuel2 : Nat) (f : Int), (2 ≤ f ∧ f ≤ n) → (lowC n (n - f).toNat f = lowR n) → (n - f).toNat < fuel2 → ∀ ls : Array Slot, lv_has ls 2 [(0, .int (iI n)), (1, .int (iI f))] → W pg l ev rm_X0_lowestRoot s m [.int (iI n)].toArray below meth c s.heap [] 0 0 Q (F0 m 2 ls []) := by
    intro fuel2
    induction fuel2 with
    | zero => intro f hf hq hfuel2; exact absurd hfuel2 (Nat.not_lt_zero _)
    | succ fuel2 ih2 =>
      intro f hf hq hfuel2 ls hl
      refine lv_iload_n hx hb dX0_lowestRoot_2 rfl (lv_at hl 1 rfl) ?_
      refine lv_iload_n hx hb dX0_lowestRoot_3 rfl (lv_at hl 0 rfl) ?_
      refine rv_icmp_ge (tgt := 23) hx hb dX0_lowestRoot_4 (by decide) (by omega) (fun h4 => ?_) (fun h4 => ?_)
      · refine rv_iconst hx hb dX0_lowestRoot_23 ?_
        subst hQ
        exact W.iret hx hb hr (fun t9 ht9 hW9 => ⟨_, rfl, (by rw [show (n - f).toNat = 0 by omega, lowC] at hq; rw [← hq]), ht9⟩) (fun _ h => absurd h List.not_mem_nil) dX0_lowestRoot_24
      · refine lv_iload_n hx hb dX0_lowestRoot_7 rfl (lv_at hl 1 rfl) ?_
        refine lv_iload_n hx hb dX0_lowestRoot_8 rfl (lv_at hl 0 rfl) ?_
        refine vp_callSi (W.runS (As := [.int (iI f), .int (iI n)]) (rest := []) ⟨hx, hb, hml, hown, hts⟩ (c_X0_isRoot l f n (by omega) hn) (va_cwS 2 hts (gS tb_408 tb_281 tb_6 tb_282) rfl rfl rfl (by decide +kernel) ⟨Nat.le_of_ble_eq_true rfl, Nat.le_of_ble_eq_true rfl⟩) preS0 rfl rfl hl.1 rfl (lv_room (Nat.le_of_ble_eq_true rfl)) dX0_lowestRoot_9 ⟨Nat.le_of_ble_eq_true rfl, Nat.le_of_ble_eq_true rfl⟩) (fun r9 hr9 => ?_)
        rcases hr9 with ⟨rfl, hb9⟩ | ⟨rfl, hb9⟩
        · refine rv_if_eq (tgt := 17) hx hb dX0_lowestRoot_12 (by decide) (by decide) (fun q => absurd q (by decide)) (fun _ => ?_)
          refine lv_iload_n hx hb dX0_lowestRoot_15 rfl (lv_at hl 1 rfl) ?_
          subst hQ
          exact W.iret hx hb hr (fun t9 ht9 hW9 => ⟨_, rfl, (by rw [show (n - f).toNat = (n - (f + 1)).toNat + 1 by omega, lowC, if_pos (show 2 ≤ f ∧ f < n ∧ rootP f n = true from hb9)] at hq; rw [hq]), ht9⟩) (fun _ h => absurd h List.not_mem_nil) dX0_lowestRoot_16
        · refine rv_if_eq (tgt := 17) hx hb dX0_lowestRoot_12 (by decide) (by decide) (fun _ => ?_) (fun q => absurd q (by decide))
          refine rv_iinc (k := 1) (lv' := [(1, .int (iI (f + 1))), (0, .int (iI n))]) hx hb dX0_lowestRoot_17 hl rfl (by decide) rfl (fun ls hl => ?_)
          refine lv_goto (tgt := 2) hx hb dX0_lowestRoot_20 (by decide) ?_
          exact ih2 (f + 1) (by omega) (by rw [show (n - f).toNat = (n - (f + 1)).toNat + 1 by omega, lowC, if_neg (show ¬ (2 ≤ f ∧ f < n ∧ rootP f n = true) from hb9)] at hq; exact hq) (by omega) ls (lv_sub hl [1, 0] rfl)
  exact loop2 (_ + 1) 2 (by omega) rfl (Nat.lt_succ_self _) ls (lv_sub hl [1, 0] rfl)

abbrev rm_X0_rootCount : Room := { frames := 1, cells := 0, slots := 0, locals := 24 }
set_option maxHeartbeats 4000000 in
set_option maxRecDepth 100000 in
/-- rootCount -/
theorem c_X0_rootCount (l : Launch) (n : Int) (hn : isPr n) : Met l yX0_rootCount (Cond.code yX0_rootCount cX0_rootCount 3 (some .int) :: TB) rm_X0_rootCount (va_Pc [.int (iI n)] (fun _ => True)) (vp_Si (fun r => r = iI (cntR n))) 0 0 (fun _ => False) := by
  refine enter (cc := cX0_rootCount) (maxL := 3) (ret := (some .int)) (by decide) (Nat.le_of_ble_eq_true rfl) ?_
  intro pg ev s m below meth c Q ls hx hb hml hown hts hr hlocks hnm _ hl hQ
  have ht : ∀ w ∈ TB, w.before _ s = true := fun w h => hts w (List.mem_cons_of_mem _ h)
  have hl : lv_has ls 3 [(0, .int (iI n))] := hl
  have hnb := isPr_bd hn
  refine rv_iconst hx hb dX0_rootCount_0 ?_
  refine lv_istore_n (lv' := [(1, .int (iI 0)), (0, .int (iI n))]) hx hb dX0_rootCount_1 rfl hl (by decide) rfl (fun ls hl => ?_)
  refine rv_iconst hx hb dX0_rootCount_2 ?_
  refine lv_istore_n (lv' := [(2, .int (iI 2)), (1, .int (iI 0)), (0, .int (iI n))]) hx hb dX0_rootCount_3 rfl hl (by decide) rfl (fun ls hl => ?_)
  have loop4 : ∀ (fuel4 : Nat) (f : Int) (r : Int), (2 ≤ f ∧ f ≤ n) → (cntC n (n - f).toNat f r = cntR n) → (n - f).toNat < fuel4 → ∀ ls : Array Slot, lv_has ls 3 [(0, .int (iI n)), (1, .int (iI r)), (2, .int (iI f))] → W pg l ev rm_X0_rootCount s m [.int (iI n)].toArray below meth c s.heap [] 0 0 Q (F0 m 4 ls []) := by
    intro fuel4
    induction fuel4 with
    | zero => intro f r hf hq hfuel4; exact absurd hfuel4 (Nat.not_lt_zero _)
    | succ fuel4 ih4 =>
      intro f r hf hq hfuel4 ls hl
      refine lv_iload_n hx hb dX0_rootCount_4 rfl (lv_at hl 2 rfl) ?_
      refine lv_iload_n hx hb dX0_rootCount_5 rfl (lv_at hl 0 rfl) ?_
      refine rv_icmp_ge (tgt := 26) hx hb dX0_rootCount_6 (by decide) (by omega) (fun h6 => ?_) (fun h6 => ?_)
      · refine lv_iload_n hx hb dX0_rootCount_26 rfl (lv_at hl 1 rfl) ?_
        subst hQ
        exact W.iret hx hb hr (fun t9 ht9 hW9 => ⟨_, rfl, (by rw [show (n - f).toNat = 0 by omega, cntC] at hq; rw [hq]), ht9⟩) (fun _ h => absurd h List.not_mem_nil) dX0_rootCount_27
      · refine lv_iload_n hx hb dX0_rootCount_9 rfl (lv_at hl 2 rfl) ?_
        refine lv_iload_n hx hb dX0_rootCount_10 rfl (lv_at hl 0 rfl) ?_
        refine vp_callSi (W.runS (As := [.int (iI f), .int (iI n)]) (rest := []) ⟨hx, hb, hml, hown, hts⟩ (c_X0_isRoot l f n (by omega) hn) (va_cwS 2 hts (gS tb_408 tb_281 tb_6 tb_282) rfl rfl rfl (by decide +kernel) ⟨Nat.le_of_ble_eq_true rfl, Nat.le_of_ble_eq_true rfl⟩) preS0 rfl rfl hl.1 rfl (lv_room (Nat.le_of_ble_eq_true rfl)) dX0_rootCount_11 ⟨Nat.le_of_ble_eq_true rfl, Nat.le_of_ble_eq_true rfl⟩) (fun r9 hr9 => ?_)
        rcases hr9 with ⟨rfl, hb11⟩ | ⟨rfl, hb11⟩
        · refine rv_if_eq (tgt := 20) hx hb dX0_rootCount_14 (by decide) (by decide) (fun q => absurd q (by decide)) (fun _ => ?_)
          refine rv_iinc (k := 1) (lv' := [(1, .int (iI (r + 1))), (0, .int (iI n)), (2, .int (iI f))]) hx hb dX0_rootCount_17 hl rfl (by decide) rfl (fun ls hl => ?_)
          refine rv_iinc (k := 2) (lv' := [(2, .int (iI (f + 1))), (1, .int (iI (r + 1))), (0, .int (iI n))]) hx hb dX0_rootCount_20 hl rfl (by decide) rfl (fun ls hl => ?_)
          refine lv_goto (tgt := 4) hx hb dX0_rootCount_23 (by decide) ?_
          exact ih4 (f + 1) (r + 1) (by omega) (by rw [show (n - f).toNat = (n - (f + 1)).toNat + 1 by omega, cntC] at hq; first | (rw [if_pos (show 2 ≤ f ∧ f < n ∧ rootP f n = true from hb11)] at hq; exact hq) | (rw [if_neg (show ¬ (2 ≤ f ∧ f < n ∧ rootP f n = true) from hb11)] at hq; exact hq)) (by omega) ls (lv_sub hl [2, 1, 0] rfl)
        · refine rv_if_eq (tgt := 20) hx hb dX0_rootCount_14 (by decide) (by decide) (fun _ => ?_) (fun q => absurd q (by decide))
          refine rv_iinc (k := 2) (lv' := [(2, .int (iI (f + 1))), (0, .int (iI n)), (1, .int (iI r))]) hx hb dX0_rootCount_20 hl rfl (by decide) rfl (fun ls hl => ?_)
          refine lv_goto (tgt := 4) hx hb dX0_rootCount_23 (by decide) ?_
          exact ih4 (f + 1) r (by omega) (by rw [show (n - f).toNat = (n - (f + 1)).toNat + 1 by omega, cntC] at hq; first | (rw [if_pos (show 2 ≤ f ∧ f < n ∧ rootP f n = true from hb11)] at hq; exact hq) | (rw [if_neg (show ¬ (2 ≤ f ∧ f < n ∧ rootP f n = true) from hb11)] at hq; exact hq)) (by omega) ls (lv_sub hl [1, 2, 0] rfl)
  exact loop4 (_ + 1) 2 0 (by omega) rfl (Nat.lt_succ_self _) ls (lv_sub hl [2, 1, 0] rfl)

