/-! the model: its pure methods -/

abbrev rm_X7_in : Room := { frames := 0, cells := 0, slots := 0, locals := 0 }
set_option maxHeartbeats 4000000 in
set_option maxRecDepth 100000 in
/-- in -/
theorem c_X7_in (l : Launch) (x : Int) (lo : Int) (hi : Int) (hx1 : -2147483648 ≤ x ∧ x < 2147483648) (hlo : -2147483648 ≤ lo ∧ lo < 2147483648) (hhi : -2147483648 ≤ hi ∧ hi < 2147483648) : Met l yX7_in (Cond.code yX7_in cX7_in 6 (some .boolean) :: TB) rm_X7_in (va_Pc [.long (lI x), .long (lI lo), .long (lI hi)] (fun _ => True)) (vp_Si (fun r => (r = iI 1 ∧ (lo ≤ x ∧ x ≤ hi)) ∨ (r = iI 0 ∧ ¬ (lo ≤ x ∧ x ≤ hi)))) 0 0 (fun _ => False) := by
  refine enter (cc := cX7_in) (maxL := 6) (ret := (some .boolean)) (by decide) (Nat.le_of_ble_eq_true rfl) ?_
  intro pg ev s m below meth c Q ls hx hb hml hown hts hr hlocks hnm _ hl hQ
  have ht : ∀ w ∈ TB, w.before _ s = true := fun w h => hts w (List.mem_cons_of_mem _ h)
  have hl : lv_has ls 6 [(0, .long (lI x)), (2, .long (lI lo)), (4, .long (lI hi))] := hl
  refine lv_lload_n hx hb dX7_in_0 rfl (lv_at hl 0 rfl) ?_
  refine lv_lload_n hx hb dX7_in_1 rfl (lv_at hl 1 rfl) ?_
  refine rv_lcmp hx hb dX7_in_2 (by omega) (fun z2 hz2a hz2b hz2c => ?_)
  refine rv_if_lt (tgt := 17) hx hb dX7_in_3 (by decide) (by omega) (fun h3 => ?_) (fun h3 => ?_)
  · refine rv_iconst hx hb dX7_in_17 ?_
    subst hQ
    exact W.zret (ty := .boolean) hx hb hr (by decide) (fun t9 ht9 hW9 => ⟨_, rfl, Or.inr ⟨rfl, fun q => by omega⟩, ht9⟩) (fun _ h => absurd h List.not_mem_nil) dX7_in_18
  · refine lv_lload_n hx hb dX7_in_6 rfl (lv_at hl 0 rfl) ?_
    refine lv_lload hx hb dX7_in_7 (lv_at hl 2 rfl) ?_
    refine rv_lcmp hx hb dX7_in_9 (by omega) (fun z9 hz9a hz9b hz9c => ?_)
    refine rv_if_gt (tgt := 17) hx hb dX7_in_10 (by decide) (by omega) (fun h10 => ?_) (fun h10 => ?_)
    · refine rv_iconst hx hb dX7_in_17 ?_
      subst hQ
      exact W.zret (ty := .boolean) hx hb hr (by decide) (fun t9 ht9 hW9 => ⟨_, rfl, Or.inr ⟨rfl, fun q => by omega⟩, ht9⟩) (fun _ h => absurd h List.not_mem_nil) dX7_in_18
    · refine rv_iconst hx hb dX7_in_13 ?_
      refine lv_goto (tgt := 18) hx hb dX7_in_14 (by decide) ?_
      subst hQ
      exact W.zret (ty := .boolean) hx hb hr (by decide) (fun t9 ht9 hW9 => ⟨_, rfl, Or.inl ⟨rfl, by omega⟩, ht9⟩) (fun _ h => absurd h List.not_mem_nil) dX7_in_18

abbrev rm_X7_isPrime : Room := { frames := 0, cells := 0, slots := 0, locals := 0 }
set_option maxHeartbeats 4000000 in
set_option maxRecDepth 100000 in
/-- isPrime -/
theorem c_X7_isPrime (l : Launch) (n : Int) (hn : -2147483648 ≤ n ∧ n < 2147483648) : Met l yX7_isPrime (Cond.code yX7_isPrime cX7_isPrime 3 (some .boolean) :: TB) rm_X7_isPrime (va_Pc [.int (iI n)] (fun _ => True)) (vp_Si (fun r => (r = iI 1 ∧ (isPr n)) ∨ (r = iI 0 ∧ ¬ (isPr n)))) 0 0 (fun _ => False) := by
  refine enter (cc := cX7_isPrime) (maxL := 3) (ret := (some .boolean)) (by decide) (Nat.le_of_ble_eq_true rfl) ?_
  intro pg ev s m below meth c Q ls hx hb hml hown hts hr hlocks hnm _ hl hQ
  have ht : ∀ w ∈ TB, w.before _ s = true := fun w h => hts w (List.mem_cons_of_mem _ h)
  have hl : lv_has ls 3 [(0, .int (iI n))] := hl
  refine lv_iload_n hx hb dX7_isPrime_0 rfl (lv_at hl 0 rfl) ?_
  refine rv_iconst hx hb dX7_isPrime_1 ?_
  refine rv_icmp_le (tgt := 15) hx hb dX7_isPrime_2 (by decide) (by omega) (fun h2 => ?_) (fun h2 => ?_)
  · refine rv_iconst hx hb dX7_isPrime_15 ?_
    refine lv_istore_n (lv' := [(1, .int (iI 0)), (0, .int (iI n))]) hx hb dX7_isPrime_16 rfl hl (by decide) rfl (fun ls hl => ?_)
    refine rv_iconst hx hb dX7_isPrime_17 ?_
    refine lv_istore_n (lv' := [(2, .int (iI 2)), (1, .int (iI 0)), (0, .int (iI n))]) hx hb dX7_isPrime_18 rfl hl (by decide) rfl (fun ls hl => ?_)
    refine lv_iload_n hx hb dX7_isPrime_19 rfl (lv_at hl 0 rfl) ?_
    refine lv_iload_n hx hb dX7_isPrime_20 rfl (lv_at hl 0 rfl) ?_
    refine rv_imul hx hb dX7_isPrime_21 ?_
    refine lv_iload_n hx hb dX7_isPrime_22 rfl (lv_at hl 2 rfl) ?_
    refine rv_icmp_gt (tgt := 48) hx hb dX7_isPrime_23 (by decide) (by omega) (fun h23 => ?_) (fun h23 => ?_)
    · refine lv_iload_n hx hb dX7_isPrime_48 rfl (lv_at hl 1 rfl) ?_
      subst hQ
      exact W.zret (ty := .boolean) hx hb hr (by decide) (fun t9 ht9 hW9 => ⟨_, rfl, Or.inr ⟨rfl, fun q => by have := isPr_bd q; omega⟩, ht9⟩) (fun _ h => absurd h List.not_mem_nil) dX7_isPrime_49
    · refine lv_iload_n hx hb dX7_isPrime_26 rfl (lv_at hl 1 rfl) ?_
      refine rv_if_eq (tgt := 48) hx hb dX7_isPrime_27 (by decide) (by decide) (fun _ => ?_) (fun q => absurd q (by decide))
      refine lv_iload_n hx hb dX7_isPrime_48 rfl (lv_at hl 1 rfl) ?_
      subst hQ
      exact W.zret (ty := .boolean) hx hb hr (by decide) (fun t9 ht9 hW9 => ⟨_, rfl, Or.inr ⟨rfl, fun q => by have := isPr_bd q; omega⟩, ht9⟩) (fun _ h => absurd h List.not_mem_nil) dX7_isPrime_49
  · refine lv_iload_n hx hb dX7_isPrime_5 rfl (lv_at hl 0 rfl) ?_
    refine rv_bipush hx hb dX7_isPrime_6 (by decide) ?_
    refine rv_icmp_ge (tgt := 15) hx hb dX7_isPrime_8 (by decide) (by omega) (fun h8 => ?_) (fun h8 => ?_)
    · refine rv_iconst hx hb dX7_isPrime_15 ?_
      refine lv_istore_n (lv' := [(1, .int (iI 0)), (0, .int (iI n))]) hx hb dX7_isPrime_16 rfl hl (by decide) rfl (fun ls hl => ?_)
      refine rv_iconst hx hb dX7_isPrime_17 ?_
      refine lv_istore_n (lv' := [(2, .int (iI 2)), (1, .int (iI 0)), (0, .int (iI n))]) hx hb dX7_isPrime_18 rfl hl (by decide) rfl (fun ls hl => ?_)
      refine lv_iload_n hx hb dX7_isPrime_19 rfl (lv_at hl 0 rfl) ?_
      refine lv_iload_n hx hb dX7_isPrime_20 rfl (lv_at hl 0 rfl) ?_
      refine rv_imul hx hb dX7_isPrime_21 ?_
      refine lv_iload_n hx hb dX7_isPrime_22 rfl (lv_at hl 2 rfl) ?_
      refine rv_icmp_gt (tgt := 48) hx hb dX7_isPrime_23 (by decide) (by omega) (fun h23 => ?_) (fun h23 => ?_)
      · refine lv_iload_n hx hb dX7_isPrime_48 rfl (lv_at hl 1 rfl) ?_
        subst hQ
        exact W.zret (ty := .boolean) hx hb hr (by decide) (fun t9 ht9 hW9 => ⟨_, rfl, Or.inr ⟨rfl, fun q => by have := isPr_bd q; omega⟩, ht9⟩) (fun _ h => absurd h List.not_mem_nil) dX7_isPrime_49
      · refine lv_iload_n hx hb dX7_isPrime_26 rfl (lv_at hl 1 rfl) ?_
        refine rv_if_eq (tgt := 48) hx hb dX7_isPrime_27 (by decide) (by decide) (fun _ => ?_) (fun q => absurd q (by decide))
        refine lv_iload_n hx hb dX7_isPrime_48 rfl (lv_at hl 1 rfl) ?_
        subst hQ
        exact W.zret (ty := .boolean) hx hb hr (by decide) (fun t9 ht9 hW9 => ⟨_, rfl, Or.inr ⟨rfl, fun q => by have := isPr_bd q; omega⟩, ht9⟩) (fun _ h => absurd h List.not_mem_nil) dX7_isPrime_49
    · refine rv_iconst hx hb dX7_isPrime_11 ?_
      refine lv_goto (tgt := 16) hx hb dX7_isPrime_12 (by decide) ?_
      refine lv_istore_n (lv' := [(1, .int (iI 1)), (0, .int (iI n))]) hx hb dX7_isPrime_16 rfl hl (by decide) rfl (fun ls hl => ?_)
      refine rv_iconst hx hb dX7_isPrime_17 ?_
      refine lv_istore_n (lv' := [(2, .int (iI 2)), (1, .int (iI 1)), (0, .int (iI n))]) hx hb dX7_isPrime_18 rfl hl (by decide) rfl (fun ls hl => ?_)
      have loop19 : ∀ (fuel19 : Nat) (d : Int), (2 ≤ d ∧ d ≤ 6) → (trD n (7 - d).toNat d = trD n 5 2) → (7 - d).toNat < fuel19 → ∀ ls : Array Slot, lv_has ls 3 [(0, .int (iI n)), (1, .int (iI 1)), (2, .int (iI d))] → W pg l ev rm_X7_isPrime s m [.int (iI n)].toArray below meth c s.heap [] 0 0 Q (F0 m 19 ls []) := by
        intro fuel19
        induction fuel19 with
        | zero => intro d hd hq hfuel19; exact absurd hfuel19 (Nat.not_lt_zero _)
        | succ fuel19 ih19 =>
          intro d hd hq hfuel19 ls hl
          have hd6 : 6 ≤ d → 36 ≤ d * d := fun h => Int.mul_le_mul h h (by decide) (by omega)
          have hd0 : 0 ≤ d * d := Int.mul_nonneg (by omega) (by omega)
          have hd7 : d * d ≤ 6 * 6 := Int.mul_le_mul (by omega) (by omega) (by omega) (by decide)
          have he7 : (d + 1) * (d + 1) ≤ 7 * 7 := Int.mul_le_mul (by omega) (by omega) (by omega) (by decide)
          have he0 : 0 ≤ (d + 1) * (d + 1) := Int.mul_nonneg (by omega) (by omega)
          refine lv_iload_n hx hb dX7_isPrime_19 rfl (lv_at hl 2 rfl) ?_
          refine lv_iload_n hx hb dX7_isPrime_20 rfl (lv_at hl 2 rfl) ?_
          refine rv_imul hx hb dX7_isPrime_21 ?_
          refine lv_iload_n hx hb dX7_isPrime_22 rfl (lv_at hl 0 rfl) ?_
          refine rv_icmp_gt (tgt := 48) hx hb dX7_isPrime_23 (by decide) (by omega) (fun h23 => ?_) (fun h23 => ?_)
          · refine lv_iload_n hx hb dX7_isPrime_48 rfl (lv_at hl 1 rfl) ?_
            subst hQ
            exact W.zret (ty := .boolean) hx hb hr (by decide) (fun t9 ht9 hW9 => ⟨_, rfl, Or.inl ⟨rfl, (trD_pr (by omega)).mp (by rw [← hq, show (7 - d).toNat = (7 - (d + 1)).toNat + 1 by omega, trD, if_pos (by omega)])⟩, ht9⟩) (fun _ h => absurd h List.not_mem_nil) dX7_isPrime_49
          · refine lv_iload_n hx hb dX7_isPrime_26 rfl (lv_at hl 1 rfl) ?_
            refine rv_if_eq (tgt := 48) hx hb dX7_isPrime_27 (by decide) (by decide) (fun q => absurd q (by decide)) (fun _ => ?_)
            refine lv_iload_n hx hb dX7_isPrime_30 rfl (lv_at hl 0 rfl) ?_
            refine lv_iload_n hx hb dX7_isPrime_31 rfl (lv_at hl 2 rfl) ?_
            refine rv_irem hx hb dX7_isPrime_32 (by omega) ?_
            have hm32 := md_bd (x := n) (y := d) (by omega)
            refine rv_if_eq (tgt := 40) hx hb dX7_isPrime_33 (by decide) (by omega) (fun h33 => ?_) (fun h33 => ?_)
            · refine rv_iconst hx hb dX7_isPrime_40 ?_
              refine lv_istore_n (lv' := [(1, .int (iI 0)), (0, .int (iI n)), (2, .int (iI d))]) hx hb dX7_isPrime_41 rfl hl (by decide) rfl (fun ls hl => ?_)
              refine rv_iinc (k := 2) (lv' := [(2, .int (iI (d + 1))), (1, .int (iI 0)), (0, .int (iI n))]) hx hb dX7_isPrime_42 hl rfl (by decide) rfl (fun ls hl => ?_)
              refine lv_goto (tgt := 19) hx hb dX7_isPrime_45 (by decide) ?_
              refine lv_iload_n hx hb dX7_isPrime_19 rfl (lv_at hl 0 rfl) ?_
              refine lv_iload_n hx hb dX7_isPrime_20 rfl (lv_at hl 0 rfl) ?_
              refine rv_imul hx hb dX7_isPrime_21 ?_
              refine lv_iload_n hx hb dX7_isPrime_22 rfl (lv_at hl 2 rfl) ?_
              refine rv_icmp_gt (tgt := 48) hx hb dX7_isPrime_23 (by decide) (by omega) (fun h23 => ?_) (fun h23 => ?_)
              · refine lv_iload_n hx hb dX7_isPrime_48 rfl (lv_at hl 1 rfl) ?_
                subst hQ
                exact W.zret (ty := .boolean) hx hb hr (by decide) (fun t9 ht9 hW9 => ⟨_, rfl, Or.inr ⟨rfl, fun q => by have q2 := (trD_pr (by omega)).mpr q; rw [← hq, show (7 - d).toNat = (7 - (d + 1)).toNat + 1 by omega, trD, if_neg (by omega), if_pos h33] at q2; cases q2⟩, ht9⟩) (fun _ h => absurd h List.not_mem_nil) dX7_isPrime_49
              · refine lv_iload_n hx hb dX7_isPrime_26 rfl (lv_at hl 1 rfl) ?_
                refine rv_if_eq (tgt := 48) hx hb dX7_isPrime_27 (by decide) (by decide) (fun _ => ?_) (fun q => absurd q (by decide))
                refine lv_iload_n hx hb dX7_isPrime_48 rfl (lv_at hl 1 rfl) ?_
                subst hQ
                exact W.zret (ty := .boolean) hx hb hr (by decide) (fun t9 ht9 hW9 => ⟨_, rfl, Or.inr ⟨rfl, fun q => by have q2 := (trD_pr (by omega)).mpr q; rw [← hq, show (7 - d).toNat = (7 - (d + 1)).toNat + 1 by omega, trD, if_neg (by omega), if_pos h33] at q2; cases q2⟩, ht9⟩) (fun _ h => absurd h List.not_mem_nil) dX7_isPrime_49
            · refine rv_iconst hx hb dX7_isPrime_36 ?_
              refine lv_goto (tgt := 41) hx hb dX7_isPrime_37 (by decide) ?_
              refine lv_istore_n (lv' := [(1, .int (iI 1)), (0, .int (iI n)), (2, .int (iI d))]) hx hb dX7_isPrime_41 rfl hl (by decide) rfl (fun ls hl => ?_)
              refine rv_iinc (k := 2) (lv' := [(2, .int (iI (d + 1))), (1, .int (iI 1)), (0, .int (iI n))]) hx hb dX7_isPrime_42 hl rfl (by decide) rfl (fun ls hl => ?_)
              refine lv_goto (tgt := 19) hx hb dX7_isPrime_45 (by decide) ?_
              exact ih19 (d + 1) (by omega) (by rw [show (7 - d).toNat = (7 - (d + 1)).toNat + 1 by omega, trD, if_neg (by omega), if_neg h33] at hq; exact hq) (by omega) ls (lv_sub hl [2, 1, 0] rfl)
      exact loop19 (_ + 1) 2 (by omega) rfl (Nat.lt_succ_self _) ls (lv_sub hl [2, 1, 0] rfl)

abbrev rm_X7_signOf : Room := { frames := 0, cells := 0, slots := 0, locals := 0 }
set_option maxHeartbeats 4000000 in
set_option maxRecDepth 100000 in
/-- signOf -/
theorem c_X7_signOf (l : Launch) (a : Int) (n : Int) (ha : 0 ≤ a ∧ a < 2147483648) (hn : 3 ≤ n ∧ n ≤ 31) : Met l yX7_signOf (Cond.code yX7_signOf cX7_signOf 4 (some .int) :: TB) rm_X7_signOf (va_Pc [.int (iI a), .int (iI n)] (fun _ => True)) (vp_Si (fun r => r = iI (sg a n) ∧ (-1 ≤ sg a n ∧ sg a n ≤ 1))) 0 0 (fun _ => False) := by
  refine enter (cc := cX7_signOf) (maxL := 4) (ret := (some .int)) (by decide) (Nat.le_of_ble_eq_true rfl) ?_
  intro pg ev s m below meth c Q ls hx hb hml hown hts hr hlocks hnm _ hl hQ
  have ht : ∀ w ∈ TB, w.before _ s = true := fun w h => hts w (List.mem_cons_of_mem _ h)
  have hl : lv_has ls 4 [(0, .int (iI a)), (1, .int (iI n))] := hl
  refine lv_iload_n hx hb dX7_signOf_0 rfl (lv_at hl 0 rfl) ?_
  refine lv_iload_n hx hb dX7_signOf_1 rfl (lv_at hl 1 rfl) ?_
  refine rv_irem hx hb dX7_signOf_2 (by omega) ?_
  have hm2 := md_bd (x := a) (y := n) (by omega)
  refine lv_istore_n (lv' := [(2, .int (iI (a % n))), (0, .int (iI a)), (1, .int (iI n))]) hx hb dX7_signOf_3 rfl hl (by decide) rfl (fun ls hl => ?_)
  refine rv_iconst hx hb dX7_signOf_4 ?_
  refine lv_istore_n (lv' := [(3, .int (iI 1)), (2, .int (iI (a % n))), (0, .int (iI a)), (1, .int (iI n))]) hx hb dX7_signOf_5 rfl hl (by decide) rfl (fun ls hl => ?_)
  have loop6 : ∀ (fuel6 : Nat) (u : Nat), (1 ≤ u ∧ (u : Int) ≤ n) → (∀ j : Nat, 1 ≤ j → j < u → ¬ (j : Int) * (j : Int) % n = a % n) → (n - (u : Int)).toNat < fuel6 → ∀ (x3 : Int), x3 = (u : Int) → ∀ ls : Array Slot, lv_has ls 4 [(0, .int (iI a)), (1, .int (iI n)), (2, .int (iI (a % n))), (3, .int (iI x3))] → W pg l ev rm_X7_signOf s m [.int (iI a), .int (iI n)].toArray below meth c s.heap [] 0 0 Q (F0 m 6 ls []) := by
    intro fuel6
    induction fuel6 with
    | zero => intro u hu hq hfuel6; exact absurd hfuel6 (Nat.not_lt_zero _)
    | succ fuel6 ih6 =>
      intro u hu hq hfuel6 x3 ex3 ls hl
      subst ex3
      have hd7 : (u : Int) * (u : Int) ≤ 31 * 31 := Int.mul_le_mul (by omega) (by omega) (by omega) (by decide)
      have hd0 : 0 ≤ (u : Int) * (u : Int) := Int.mul_nonneg (by omega) (by omega)
      refine lv_iload_n hx hb dX7_signOf_6 rfl (lv_at hl 3 rfl) ?_
      refine lv_iload_n hx hb dX7_signOf_7 rfl (lv_at hl 1 rfl) ?_
      refine rv_icmp_ge (tgt := 32) hx hb dX7_signOf_8 (by decide) (by omega) (fun h8 => ?_) (fun h8 => ?_)
      · refine lv_iload_n hx hb dX7_signOf_32 rfl (lv_at hl 2 rfl) ?_
        refine rv_if_ne (tgt := 40) hx hb dX7_signOf_33 (by decide) (by omega) (fun h33 => ?_) (fun h33 => ?_)
        · refine rv_iconst hx hb dX7_signOf_40 ?_
          subst hQ
          exact W.iret hx hb hr (fun t9 ht9 hW9 => ⟨_, rfl, ⟨by rw [sg, sgN, if_neg (by omega), if_neg (fun q => by obtain ⟨w, h1, h2, h3⟩ := sqM_iff.mp q; rw [show ((n.toNat : Nat) : Int) = n by omega, show (((a % n).toNat : Nat) : Int) = a % n by omega] at h3; exact hq w h2 (by omega) h3)], sg_bd _ _⟩, ht9⟩) (fun _ h => absurd h List.not_mem_nil) dX7_signOf_41
        · refine rv_iconst hx hb dX7_signOf_36 ?_
          refine lv_goto (tgt := 41) hx hb dX7_signOf_37 (by decide) ?_
          subst hQ
          exact W.iret hx hb hr (fun t9 ht9 hW9 => ⟨_, rfl, ⟨by rw [sg, sgN, if_pos (by omega)], sg_bd _ _⟩, ht9⟩) (fun _ h => absurd h List.not_mem_nil) dX7_signOf_41
      · refine lv_iload_n hx hb dX7_signOf_11 rfl (lv_at hl 2 rfl) ?_
        refine rv_if_le (tgt := 32) hx hb dX7_signOf_12 (by decide) (by omega) (fun h12 => ?_) (fun h12 => ?_)
        · refine lv_iload_n hx hb dX7_signOf_32 rfl (lv_at hl 2 rfl) ?_
          refine rv_if_ne (tgt := 40) hx hb dX7_signOf_33 (by decide) (by omega) (fun h33 => ?_) (fun h33 => ?_)
          · refine rv_iconst hx hb dX7_signOf_40 ?_
            subst hQ
            exact W.iret hx hb hr (fun t9 ht9 hW9 => ⟨_, rfl, ⟨by rw [sg, sgN, if_neg (by omega), if_neg (fun q => by obtain ⟨w, h1, h2, h3⟩ := sqM_iff.mp q; rw [show ((n.toNat : Nat) : Int) = n by omega, show (((a % n).toNat : Nat) : Int) = a % n by omega] at h3; exact hq w h2 (by omega) h3)], sg_bd _ _⟩, ht9⟩) (fun _ h => absurd h List.not_mem_nil) dX7_signOf_41
          · refine rv_iconst hx hb dX7_signOf_36 ?_
            refine lv_goto (tgt := 41) hx hb dX7_signOf_37 (by decide) ?_
            subst hQ
            exact W.iret hx hb hr (fun t9 ht9 hW9 => ⟨_, rfl, ⟨by rw [sg, sgN, if_pos (by omega)], sg_bd _ _⟩, ht9⟩) (fun _ h => absurd h List.not_mem_nil) dX7_signOf_41
        · refine lv_iload_n hx hb dX7_signOf_15 rfl (lv_at hl 3 rfl) ?_
          refine lv_iload_n hx hb dX7_signOf_16 rfl (lv_at hl 3 rfl) ?_
          refine rv_imul hx hb dX7_signOf_17 ?_
          refine lv_iload_n hx hb dX7_signOf_18 rfl (lv_at hl 1 rfl) ?_
          refine rv_irem hx hb dX7_signOf_19 (by omega) ?_
          have hm19 := md_bd (x := ((u : Int) * (u : Int))) (y := n) (by omega)
          refine lv_iload_n hx hb dX7_signOf_20 rfl (lv_at hl 2 rfl) ?_
          refine rv_icmp_ne (tgt := 26) hx hb dX7_signOf_21 (by decide) (by omega) (fun h21 => ?_) (fun h21 => ?_)
          · refine rv_iinc (k := 3) (lv' := [(3, .int (iI ((u : Int) + 1))), (0, .int (iI a)), (1, .int (iI n)), (2, .int (iI (a % n)))]) hx hb dX7_signOf_26 hl rfl (by decide) rfl (fun ls hl => ?_)
            refine lv_goto (tgt := 6) hx hb dX7_signOf_29 (by decide) ?_
            exact ih6 (u + 1) (by omega) (fun j h1 h2 => by rcases Nat.lt_or_ge j u with q | q; exact hq j h1 q; rw [show j = u by omega]; exact h21) (by omega) _ (by omega) ls (lv_sub hl [1, 2, 3, 0] rfl)
          · refine rv_iconst hx hb dX7_signOf_24 ?_
            subst hQ
            exact W.iret hx hb hr (fun t9 ht9 hW9 => ⟨_, rfl, ⟨by rw [sg, sgN, if_neg (by omega), if_pos (sqM_iff.mpr ⟨u, by omega, by omega, by rw [show ((n.toNat : Nat) : Int) = n by omega, show (((a % n).toNat : Nat) : Int) = a % n by omega]; exact h21⟩)], sg_bd _ _⟩, ht9⟩) (fun _ h => absurd h List.not_mem_nil) dX7_signOf_25
  exact loop6 (_ + 1) 1 (by omega) (fun j h1 h2 => by omega) (Nat.lt_succ_self _) _ rfl ls (lv_sub hl [2, 3, 1, 0] rfl)

abbrev rm_X7_isRoot : Room := { frames := 1, cells := 0, slots := 0, locals := 25 }
set_option maxHeartbeats 4000000 in
set_option maxRecDepth 100000 in
/-- isRoot -/
theorem c_X7_isRoot (l : Launch) (f : Int) (n : Int) (hf : -2147483648 ≤ f ∧ f < 2147483648) (hn : isPr n) : Met l yX7_isRoot (Cond.code yX7_isRoot cX7_isRoot 4 (some .boolean) :: TB) rm_X7_isRoot (va_Pc [.int (iI f), .int (iI n)] (fun _ => True)) (vp_Si (fun r => (r = iI 1 ∧ (isRt f n)) ∨ (r = iI 0 ∧ ¬ (isRt f n)))) 0 0 (fun _ => False) := by
  refine enter (cc := cX7_isRoot) (maxL := 4) (ret := (some .boolean)) (by decide) (Nat.le_of_ble_eq_true rfl) ?_
  intro pg ev s m below meth c Q ls hx hb hml hown hts hr hlocks hnm _ hl hQ
  have ht : ∀ w ∈ TB, w.before _ s = true := fun w h => hts w (List.mem_cons_of_mem _ h)
  have hl : lv_has ls 4 [(0, .int (iI f)), (1, .int (iI n))] := hl
  have hnb := isPr_bd hn
  refine lv_iload_n hx hb dX7_isRoot_0 rfl (lv_at hl 0 rfl) ?_
  refine rv_i2l hx hb dX7_isRoot_1 (by omega) ?_
  refine lv_ldc2 (v := lI 2) hx hb hown (ht _ tb_662) dX7_isRoot_2 ?_
  refine lv_iload_n hx hb dX7_isRoot_5 rfl (lv_at hl 1 rfl) ?_
  refine rv_iconst hx hb dX7_isRoot_6 ?_
  refine rv_isub hx hb dX7_isRoot_7 ?_
  refine rv_i2l hx hb dX7_isRoot_8 (by omega) ?_
  refine vp_callSi (W.runS (As := [.long (lI f), .long (lI 2), .long (lI (n - 1))]) (rest := []) ⟨hx, hb, hml, hown, hts⟩ (c_X7_in l f 2 (n - 1) (by omega) (by omega) (by omega)) (va_cwS 3 hts (gS tb_649 tb_650 tb_8 tb_651) rfl rfl rfl (by decide +kernel) ⟨Nat.le_of_ble_eq_true rfl, Nat.le_of_ble_eq_true rfl⟩) preS0 rfl rfl hl.1 rfl (lv_room (Nat.le_of_ble_eq_true rfl)) dX7_isRoot_9 ⟨Nat.le_of_ble_eq_true rfl, Nat.le_of_ble_eq_true rfl⟩) (fun r9 hr9 => ?_)
  rcases hr9 with ⟨rfl, hb9⟩ | ⟨rfl, hb9⟩
  · refine rv_if_ne (tgt := 17) hx hb dX7_isRoot_12 (by decide) (by decide) (fun _ => ?_) (fun q => absurd q (by decide))
    refine lv_iload_n hx hb dX7_isRoot_17 rfl (lv_at hl 0 rfl) ?_
    refine lv_istore_n (lv' := [(2, .int (iI f)), (0, .int (iI f)), (1, .int (iI n))]) hx hb dX7_isRoot_18 rfl hl (by decide) rfl (fun ls hl => ?_)
    refine rv_iconst hx hb dX7_isRoot_19 ?_
    refine lv_istore_n (lv' := [(3, .int (iI 1)), (2, .int (iI f)), (0, .int (iI f)), (1, .int (iI n))]) hx hb dX7_isRoot_20 rfl hl (by decide) rfl (fun ls hl => ?_)
    have loop21 : ∀ (fuel21 : Nat) (k : Nat), (1 ≤ k ∧ (k : Int) ≤ n - 1) → (∀ j : Nat, 1 ≤ j → j < k → ¬ pwI f n j = 1) → (n - (k : Int)).toNat < fuel21 → ∀ (x2 x3 : Int), x2 = pwI f n k → x3 = (k : Int) → ∀ ls : Array Slot, lv_has ls 4 [(0, .int (iI f)), (1, .int (iI n)), (2, .int (iI x2)), (3, .int (iI x3))] → W pg l ev rm_X7_isRoot s m [.int (iI f), .int (iI n)].toArray below meth c s.heap [] 0 0 Q (F0 m 21 ls []) := by
      intro fuel21
      induction fuel21 with
      | zero => intro k hk hi hfuel21; exact absurd hfuel21 (Nat.not_lt_zero _)
      | succ fuel21 ih21 =>
        intro k hk hi hfuel21 x2 x3 ex2 ex3 ls hl
        subst ex2 ex3
        have hpb := pwI_bd (f := f) (n := n) (by omega) k
        have hpm : 0 ≤ pwI f n k * f := Int.mul_nonneg (by omega) (by omega)
        have hpn : pwI f n k * f ≤ 31 * 31 := Int.mul_le_mul (by omega) (by omega) (by omega) (by omega)
        refine lv_iload_n hx hb dX7_isRoot_21 rfl (lv_at hl 2 rfl) ?_
        refine rv_iconst hx hb dX7_isRoot_22 ?_
        refine rv_icmp_eq (tgt := 38) hx hb dX7_isRoot_23 (by decide) (by omega) (fun h23 => ?_) (fun h23 => ?_)
        · refine lv_iload_n hx hb dX7_isRoot_38 rfl (lv_at hl 3 rfl) ?_
          refine lv_iload_n hx hb dX7_isRoot_39 rfl (lv_at hl 1 rfl) ?_
          refine rv_iconst hx hb dX7_isRoot_40 ?_
          refine rv_isub hx hb dX7_isRoot_41 ?_
          refine rv_icmp_ne (tgt := 49) hx hb dX7_isRoot_42 (by decide) (by omega) (fun h42 => ?_) (fun h42 => ?_)
          · refine rv_iconst hx hb dX7_isRoot_49 ?_
            subst hQ
            exact W.zret (ty := .boolean) hx hb hr (by decide) (fun t9 ht9 hW9 => ⟨_, rfl, Or.inr ⟨rfl, fun q => by have q3 := q.2.2; unfold rootP at q3; rw [List.all_eq_true] at q3; have q4 := q3 k (List.mem_range.mpr (by omega)); simp only [Bool.or_eq_true, decide_eq_true_eq] at q4; rcases q4 with q4 | q4; omega; exact q4 h23⟩, ht9⟩) (fun _ h => absurd h List.not_mem_nil) dX7_isRoot_50
          · refine rv_iconst hx hb dX7_isRoot_45 ?_
            refine lv_goto (tgt := 50) hx hb dX7_isRoot_46 (by decide) ?_
            subst hQ
            exact W.zret (ty := .boolean) hx hb hr (by decide) (fun t9 ht9 hW9 => ⟨_, rfl, Or.inl ⟨rfl, by omega, by omega, (by unfold rootP; rw [List.all_eq_true]; intro j hj; have := List.mem_range.mp hj; by_cases hz : j = 0; simp [hz]; simp only [Bool.or_eq_true, decide_eq_true_eq]; exact Or.inr (hi j (by omega) (by omega)))⟩, ht9⟩) (fun _ h => absurd h List.not_mem_nil) dX7_isRoot_50
        · refine lv_iload_n hx hb dX7_isRoot_26 rfl (lv_at hl 2 rfl) ?_
          refine lv_iload_n hx hb dX7_isRoot_27 rfl (lv_at hl 0 rfl) ?_
          refine rv_imul hx hb dX7_isRoot_28 ?_
          refine lv_iload_n hx hb dX7_isRoot_29 rfl (lv_at hl 1 rfl) ?_
          refine rv_irem hx hb dX7_isRoot_30 (by omega) ?_
          have hm30 := md_bd (x := (pwI f n k * f)) (y := n) (by omega)
          refine rv_top (y := (pwI f n (k + 1))) rfl ?_
          refine lv_istore_n (lv' := [(2, .int (iI (pwI f n (k + 1)))), (0, .int (iI f)), (1, .int (iI n)), (3, .int (iI (k : Int)))]) hx hb dX7_isRoot_31 rfl hl (by decide) rfl (fun ls hl => ?_)
          refine rv_iinc (k := 3) (lv' := [(3, .int (iI ((k : Int) + 1))), (2, .int (iI (pwI f n (k + 1)))), (0, .int (iI f)), (1, .int (iI n))]) hx hb dX7_isRoot_32 hl rfl (by decide) rfl (fun ls hl => ?_)
          refine lv_goto (tgt := 21) hx hb dX7_isRoot_35 (by decide) ?_
          exact ih21 (k + 1) ⟨by omega, by rcases (show (k : Int) = n - 1 ∨ (k : Int) < n - 1 by omega) with q | q; have h1 := rt_one hn (f := f) (by omega) (by omega); rw [show (n - 1).toNat = k by omega] at h1; exact absurd h1 h23; omega⟩ (fun j h1 h2 => by rcases Nat.lt_or_ge j k with q | q; exact hi j h1 q; rw [show j = k by omega]; exact h23) (by omega) _ _ rfl (by omega) ls (lv_sub hl [2, 3, 1, 0] rfl)
    exact loop21 (_ + 1) 1 (by omega) (fun j h1 h2 => by omega) (Nat.lt_succ_self _) _ _ (by rw [pwI, pwI, Int.one_mul, Int.emod_eq_of_lt (by omega) (by omega)]) rfl ls (lv_sub hl [2, 3, 1, 0] rfl)
  · refine rv_if_ne (tgt := 17) hx hb dX7_isRoot_12 (by decide) (by decide) (fun q => absurd q (by decide)) (fun _ => ?_)
    refine rv_iconst hx hb dX7_isRoot_15 ?_
    subst hQ
    exact W.zret (ty := .boolean) hx hb hr (by decide) (fun t9 ht9 hW9 => ⟨_, rfl, Or.inr ⟨rfl, fun q => by have := q.1; have := q.2.1; omega⟩, ht9⟩) (fun _ h => absurd h List.not_mem_nil) dX7_isRoot_16

abbrev rm_X7_squares : Room := { frames := 1, cells := 0, slots := 0, locals := 22 }
set_option maxHeartbeats 4000000 in
set_option maxRecDepth 100000 in
/-- squares -/
theorem c_X7_squares (l : Launch) (o : Nat) (n : Int) (hn : -2147483648 ≤ n ∧ n < 2147483648) : Met l yX7_squares (Cond.code yX7_squares cX7_squares 4 (some .int) :: TB) rm_X7_squares (va_Pc [.ref o, .int (iI n)] (fun _ => True)) (vp_Si (fun r => r = iI (aSquares n))) 0 0 (fun _ => False) := by
  refine enter (cc := cX7_squares) (maxL := 4) (ret := (some .int)) (by decide) (Nat.le_of_ble_eq_true rfl) ?_
  intro pg ev s m below meth c Q ls hx hb hml hown hts hr hlocks hnm _ hl hQ
  have ht : ∀ w ∈ TB, w.before _ s = true := fun w h => hts w (List.mem_cons_of_mem _ h)
  have hl : lv_has ls 4 [(0, .ref o), (1, .int (iI n))] := hl
  refine lv_iload_n hx hb dX7_squares_0 rfl (lv_at hl 1 rfl) ?_
  refine vp_callSi (W.runS (As := [.int (iI n)]) (rest := []) ⟨hx, hb, hml, hown, hts⟩ (c_X7_isPrime l n (by omega)) (va_cwS 1 hts (gS tb_641 tb_642 tb_8 tb_643) rfl rfl rfl (by decide +kernel) ⟨Nat.le_of_ble_eq_true rfl, Nat.le_of_ble_eq_true rfl⟩) preS0 rfl rfl hl.1 rfl (lv_room (Nat.le_of_ble_eq_true rfl)) dX7_squares_1 ⟨Nat.le_of_ble_eq_true rfl, Nat.le_of_ble_eq_true rfl⟩) (fun r9 hr9 => ?_)
  rcases hr9 with ⟨rfl, hb1⟩ | ⟨rfl, hb1⟩
  · refine rv_if_ne (tgt := 9) hx hb dX7_squares_4 (by decide) (by decide) (fun _ => ?_) (fun q => absurd q (by decide))
    refine rv_iconst hx hb dX7_squares_9 ?_
    refine lv_istore_n (lv' := [(2, .int (iI 0)), (0, .ref o), (1, .int (iI n))]) hx hb dX7_squares_10 rfl hl (by decide) rfl (fun ls hl => ?_)
    refine rv_iconst hx hb dX7_squares_11 ?_
    refine lv_istore_n (lv' := [(3, .int (iI 1)), (2, .int (iI 0)), (0, .ref o), (1, .int (iI n))]) hx hb dX7_squares_12 rfl hl (by decide) rfl (fun ls hl => ?_)
    have hnb := isPr_bd hb1
    have loop13 : ∀ (fuel13 : Nat) (k : Nat), ((k : Int) + 1 ≤ n) → (n - (k : Int)).toNat < fuel13 → ∀ (x2 x3 : Int), x2 = sqBn n k → x3 = ((k : Int) + 1) → ∀ ls : Array Slot, lv_has ls 4 [(0, .ref o), (1, .int (iI n)), (2, .int (iI x2)), (3, .int (iI x3))] → W pg l ev rm_X7_squares s m [.ref o, .int (iI n)].toArray below meth c s.heap [] 0 0 Q (F0 m 13 ls []) := by
      intro fuel13
      induction fuel13 with
      | zero => intro k hk hfuel13; exact absurd hfuel13 (Nat.not_lt_zero _)
      | succ fuel13 ih13 =>
        intro k hk hfuel13 x2 x3 ex2 ex3 ls hl
        subst ex2 ex3
        refine lv_iload_n hx hb dX7_squares_13 rfl (lv_at hl 3 rfl) ?_
        refine lv_iload_n hx hb dX7_squares_14 rfl (lv_at hl 1 rfl) ?_
        refine rv_icmp_ge (tgt := 34) hx hb dX7_squares_15 (by decide) (by omega) (fun h15 => ?_) (fun h15 => ?_)
        · refine lv_iload_n hx hb dX7_squares_34 rfl (lv_at hl 2 rfl) ?_
          subst hQ
          exact W.iret hx hb hr (fun t9 ht9 hW9 => ⟨_, rfl, by rw [aSquares, cif_pos hb1, sqB, show (n - 1).toNat = k by omega], ht9⟩) (fun _ h => absurd h List.not_mem_nil) dX7_squares_35
        · refine lv_iload_n hx hb dX7_squares_18 rfl (lv_at hl 2 rfl) ?_
          refine rv_iconst hx hb dX7_squares_19 ?_
          refine lv_iload_n hx hb dX7_squares_20 rfl (lv_at hl 3 rfl) ?_
          refine lv_iload_n hx hb dX7_squares_21 rfl (lv_at hl 3 rfl) ?_
          have hq : ((k : Int) + 1) * ((k : Int) + 1) ≤ 1000 * 1000 := Int.mul_le_mul (by omega) (by omega) (by omega) (by omega)
          have hq0 : 0 ≤ ((k : Int) + 1) * ((k : Int) + 1) := Int.mul_nonneg (by omega) (by omega)
          refine rv_imul hx hb dX7_squares_22 ?_
          refine lv_iload_n hx hb dX7_squares_23 rfl (lv_at hl 1 rfl) ?_
          refine rv_irem hx hb dX7_squares_24 (by omega) ?_
          have hm24 := md_bd (x := (((k : Int) + 1) * ((k : Int) + 1))) (y := n) (by omega)
          refine rv_ishl hx hb dX7_squares_25 ?_
          refine rv_ior hx hb dX7_squares_26 ?_
          refine lv_istore_n (lv' := [(2, .int (iI (orI (sqBn n k) (shlI 1 ((((k : Int) + 1) * ((k : Int) + 1)) % n))))), (0, .ref o), (1, .int (iI n)), (3, .int (iI ((k : Int) + 1)))]) hx hb dX7_squares_27 rfl hl (by decide) rfl (fun ls hl => ?_)
          refine rv_iinc (k := 3) (lv' := [(3, .int (iI (((k : Int) + 1) + 1))), (2, .int (iI (orI (sqBn n k) (shlI 1 ((((k : Int) + 1) * ((k : Int) + 1)) % n))))), (0, .ref o), (1, .int (iI n))]) hx hb dX7_squares_28 hl rfl (by decide) rfl (fun ls hl => ?_)
          refine lv_goto (tgt := 13) hx hb dX7_squares_31 (by decide) ?_
          exact ih13 (k + 1) (by omega) (by omega) _ _ rfl (by omega) ls (lv_sub hl [2, 3, 1, 0] rfl)
    exact loop13 (_ + 1) 0 (by omega) (Nat.lt_succ_self _) _ _ rfl rfl ls (lv_sub hl [2, 3, 1, 0] rfl)
  · refine rv_if_ne (tgt := 9) hx hb dX7_squares_4 (by decide) (by decide) (fun q => absurd q (by decide)) (fun _ => ?_)
    refine rv_iconst hx hb dX7_squares_7 ?_
    subst hQ
    exact W.iret hx hb hr (fun t9 ht9 hW9 => ⟨_, rfl, by rw [aSquares, cif_neg hb1], ht9⟩) (fun _ h => absurd h List.not_mem_nil) dX7_squares_8

abbrev rm_X7_sign : Room := { frames := 1, cells := 0, slots := 0, locals := 25 }
set_option maxHeartbeats 4000000 in
set_option maxRecDepth 100000 in
/-- sign -/
theorem c_X7_sign (l : Launch) (o : Nat) (a : Int) (n : Int) (ha : -2147483648 ≤ a ∧ a < 2147483648) (hn : -2147483648 ≤ n ∧ n < 2147483648) : Met l yX7_sign (Cond.code yX7_sign cX7_sign 3 (some .int) :: TB) rm_X7_sign (va_Pc [.ref o, .int (iI a), .int (iI n)] (fun _ => True)) (vp_Si (fun r => r = iI (aSign a n))) 0 0 (fun _ => False) := by
  refine enter (cc := cX7_sign) (maxL := 3) (ret := (some .int)) (by decide) (Nat.le_of_ble_eq_true rfl) ?_
  intro pg ev s m below meth c Q ls hx hb hml hown hts hr hlocks hnm _ hl hQ
  have ht : ∀ w ∈ TB, w.before _ s = true := fun w h => hts w (List.mem_cons_of_mem _ h)
  have hl : lv_has ls 3 [(0, .ref o), (1, .int (iI a)), (2, .int (iI n))] := hl
  refine lv_iload_n hx hb dX7_sign_0 rfl (lv_at hl 1 rfl) ?_
  refine rv_i2l hx hb dX7_sign_1 (by omega) ?_
  refine rv_lconst (z := 0) hx hb dX7_sign_2 (by decide) ?_
  refine lv_ldc2 (v := lI 999) hx hb hown (ht _ tb_648) dX7_sign_3 ?_
  refine vp_callSi (W.runS (As := [.long (lI a), .long (lI 0), .long (lI 999)]) (rest := []) ⟨hx, hb, hml, hown, hts⟩ (c_X7_in l a 0 999 (by omega) (by omega) (by omega)) (va_cwS 3 hts (gS tb_649 tb_650 tb_8 tb_651) rfl rfl rfl (by decide +kernel) ⟨Nat.le_of_ble_eq_true rfl, Nat.le_of_ble_eq_true rfl⟩) preS0 rfl rfl hl.1 rfl (lv_room (Nat.le_of_ble_eq_true rfl)) dX7_sign_6 ⟨Nat.le_of_ble_eq_true rfl, Nat.le_of_ble_eq_true rfl⟩) (fun r9 hr9 => ?_)
  rcases hr9 with ⟨rfl, hb6⟩ | ⟨rfl, hb6⟩
  · refine rv_if_eq (tgt := 29) hx hb dX7_sign_9 (by decide) (by decide) (fun q => absurd q (by decide)) (fun _ => ?_)
    refine lv_iload_n hx hb dX7_sign_12 rfl (lv_at hl 2 rfl) ?_
    refine vp_callSi (W.runS (As := [.int (iI n)]) (rest := []) ⟨hx, hb, hml, hown, hts⟩ (c_X7_isPrime l n (by omega)) (va_cwS 1 hts (gS tb_641 tb_642 tb_8 tb_643) rfl rfl rfl (by decide +kernel) ⟨Nat.le_of_ble_eq_true rfl, Nat.le_of_ble_eq_true rfl⟩) preS0 rfl rfl hl.1 rfl (lv_room (Nat.le_of_ble_eq_true rfl)) dX7_sign_13 ⟨Nat.le_of_ble_eq_true rfl, Nat.le_of_ble_eq_true rfl⟩) (fun r9 hr9 => ?_)
    rcases hr9 with ⟨rfl, hb13⟩ | ⟨rfl, hb13⟩
    · refine rv_if_eq (tgt := 29) hx hb dX7_sign_16 (by decide) (by decide) (fun q => absurd q (by decide)) (fun _ => ?_)
      have hnb := isPr_bd hb13
      refine lv_iload_n hx hb dX7_sign_19 rfl (lv_at hl 1 rfl) ?_
      refine lv_iload_n hx hb dX7_sign_20 rfl (lv_at hl 2 rfl) ?_
      refine vp_callSi (W.runS (As := [.int (iI a), .int (iI n)]) (rest := []) ⟨hx, hb, hml, hown, hts⟩ (c_X7_signOf l a n (by omega) (by omega)) (va_cwS 2 hts (gS tb_652 tb_653 tb_8 tb_654) rfl rfl rfl (by decide +kernel) ⟨Nat.le_of_ble_eq_true rfl, Nat.le_of_ble_eq_true rfl⟩) preS0 rfl rfl hl.1 rfl (lv_room (Nat.le_of_ble_eq_true rfl)) dX7_sign_21 ⟨Nat.le_of_ble_eq_true rfl, Nat.le_of_ble_eq_true rfl⟩) (fun r9 hr9 => ?_)
      obtain ⟨rfl, hx21_0⟩ := hr9
      refine rv_iconst hx hb dX7_sign_24 ?_
      refine rv_iadd hx hb dX7_sign_25 ?_
      refine lv_goto (tgt := 30) hx hb dX7_sign_26 (by decide) ?_
      subst hQ
      exact W.iret hx hb hr (fun t9 ht9 hW9 => ⟨_, rfl, by rw [aSign, cif_pos ⟨hb6, hb13⟩], ht9⟩) (fun _ h => absurd h List.not_mem_nil) dX7_sign_30
    · refine rv_if_eq (tgt := 29) hx hb dX7_sign_16 (by decide) (by decide) (fun _ => ?_) (fun q => absurd q (by decide))
      refine rv_iconst hx hb dX7_sign_29 ?_
      subst hQ
      exact W.iret hx hb hr (fun t9 ht9 hW9 => ⟨_, rfl, by rw [aSign, cif_neg (fun q => by first | exact hb6 q.1 | exact hb13 q.2)], ht9⟩) (fun _ h => absurd h List.not_mem_nil) dX7_sign_30
  · refine rv_if_eq (tgt := 29) hx hb dX7_sign_9 (by decide) (by decide) (fun _ => ?_) (fun q => absurd q (by decide))
    refine rv_iconst hx hb dX7_sign_29 ?_
    subst hQ
    exact W.iret hx hb hr (fun t9 ht9 hW9 => ⟨_, rfl, by rw [aSign, cif_neg (fun q => by first | exact hb6 q.1 | exact hb13 q.2)], ht9⟩) (fun _ h => absurd h List.not_mem_nil) dX7_sign_30

abbrev rm_X7_root : Room := { frames := 2, cells := 0, slots := 0, locals := 48 }
set_option maxHeartbeats 4000000 in
set_option maxRecDepth 100000 in
/-- root -/
theorem c_X7_root (l : Launch) (o : Nat) (n : Int) (what : Int) (hn : -2147483648 ≤ n ∧ n < 2147483648) (hw : -2147483648 ≤ what ∧ what < 2147483648) : Met l yX7_root (Cond.code yX7_root cX7_root 7 (some .int) :: TB) rm_X7_root (va_Pc [.ref o, .int (iI n), .int (iI what)] (fun _ => True)) (vp_Si (fun r => r = iI (aRoot n what))) 0 0 (fun _ => False) := by
  refine enter (cc := cX7_root) (maxL := 7) (ret := (some .int)) (by decide) (Nat.le_of_ble_eq_true rfl) ?_
  intro pg ev s m below meth c Q ls hx hb hml hown hts hr hlocks hnm _ hl hQ
  have ht : ∀ w ∈ TB, w.before _ s = true := fun w h => hts w (List.mem_cons_of_mem _ h)
  have hl : lv_has ls 7 [(0, .ref o), (1, .int (iI n)), (2, .int (iI what))] := hl
  refine lv_iload_n hx hb dX7_root_0 rfl (lv_at hl 1 rfl) ?_
  refine vp_callSi (W.runS (As := [.int (iI n)]) (rest := []) ⟨hx, hb, hml, hown, hts⟩ (c_X7_isPrime l n (by omega)) (va_cwS 1 hts (gS tb_641 tb_642 tb_8 tb_643) rfl rfl rfl (by decide +kernel) ⟨Nat.le_of_ble_eq_true rfl, Nat.le_of_ble_eq_true rfl⟩) preS0 rfl rfl hl.1 rfl (lv_room (Nat.le_of_ble_eq_true rfl)) dX7_root_1 ⟨Nat.le_of_ble_eq_true rfl, Nat.le_of_ble_eq_true rfl⟩) (fun r9 hr9 => ?_)
  rcases hr9 with ⟨rfl, hb1⟩ | ⟨rfl, hb1⟩
  · refine rv_if_eq (tgt := 17) hx hb dX7_root_4 (by decide) (by decide) (fun q => absurd q (by decide)) (fun _ => ?_)
    refine lv_iload_n hx hb dX7_root_7 rfl (lv_at hl 2 rfl) ?_
    refine rv_i2l hx hb dX7_root_8 (by omega) ?_
    refine rv_lconst (z := 0) hx hb dX7_root_9 (by decide) ?_
    refine rv_lconst (z := 1) hx hb dX7_root_10 (by decide) ?_
    refine vp_callSi (W.runS (As := [.long (lI what), .long (lI 0), .long (lI 1)]) (rest := []) ⟨hx, hb, hml, hown, hts⟩ (c_X7_in l what 0 1 (by omega) (by omega) (by omega)) (va_cwS 3 hts (gS tb_649 tb_650 tb_8 tb_651) rfl rfl rfl (by decide +kernel) ⟨Nat.le_of_ble_eq_true rfl, Nat.le_of_ble_eq_true rfl⟩) preS0 rfl rfl hl.1 rfl (lv_room (Nat.le_of_ble_eq_true rfl)) dX7_root_11 ⟨Nat.le_of_ble_eq_true rfl, Nat.le_of_ble_eq_true rfl⟩) (fun r9 hr9 => ?_)
    rcases hr9 with ⟨rfl, hb11⟩ | ⟨rfl, hb11⟩
    · refine rv_if_ne (tgt := 19) hx hb dX7_root_14 (by decide) (by decide) (fun _ => ?_) (fun q => absurd q (by decide))
      refine rv_iconst hx hb dX7_root_19 ?_
      refine lv_istore_n (lv' := [(3, .int (iI 0)), (0, .ref o), (1, .int (iI n)), (2, .int (iI what))]) hx hb dX7_root_20 rfl hl (by decide) rfl (fun ls hl => ?_)
      refine rv_iconst hx hb dX7_root_21 ?_
      refine lv_istore (lv' := [(4, .int (iI 0)), (3, .int (iI 0)), (0, .ref o), (1, .int (iI n)), (2, .int (iI what))]) hx hb dX7_root_22 hl (by decide) rfl (fun ls hl => ?_)
      refine lv_iload_n hx hb dX7_root_24 rfl (lv_at hl 3 rfl) ?_
      refine rv_iconst hx hb dX7_root_25 ?_
      refine rv_isub hx hb dX7_root_26 ?_
      refine lv_istore (lv' := [(5, .int (iI (n - 1))), (4, .int (iI 0)), (3, .int (iI 0)), (0, .ref o), (1, .int (iI n)), (2, .int (iI what))]) hx hb dX7_root_27 hl (by decide) rfl (fun ls hl => ?_)
      have hnb := isPr_bd hb1
      have hrt := rtM_pr hb1
      have loop29 : ∀ (fuel29 : Nat) (k : Nat) (mm : Int) (lw : Int), (1 ≤ k + 1 ∧ (k : Int) + 1 ≤ n - 1 + 1) → (cntM n (k - 1) mm = cntR n) → (lowM n (k - 1) lw = lowR n) → k < fuel29 → ∀ (x5 : Int), x5 = (k : Int) → ∀ ls : Array Slot, lv_has ls 7 [(0, .ref o), (1, .int (iI n)), (2, .int (iI what)), (3, .int (iI mm)), (4, .int (iI lw)), (5, .int (iI x5))] → W pg l ev rm_X7_root s m [.ref o, .int (iI n), .int (iI what)].toArray below meth c s.heap [] 0 0 Q (F0 m 29 ls []) := by
        intro fuel29
        induction fuel29 with
        | zero => intro k mm lw hk hq1 hq2 hfuel29; exact absurd hfuel29 (Nat.not_lt_zero _)
        | succ fuel29 ih29 =>
          intro k mm lw hk hq1 hq2 hfuel29 x5 ex5 ls hl
          subst ex5
          refine lv_iload hx hb dX7_root_29 (lv_at hl 5 rfl) ?_
          refine rv_iconst hx hb dX7_root_31 ?_
          refine rv_icmp_le (tgt := 76) hx hb dX7_root_32 (by decide) (by omega) (fun h32 => ?_) (fun h32 => ?_)
          · refine lv_iload_n hx hb dX7_root_76 rfl (lv_at hl 2 rfl) ?_
            refine rv_if_ne (tgt := 85) hx hb dX7_root_77 (by decide) (by omega) (fun h77 => ?_) (fun h77 => ?_)
            · refine lv_iload_n hx hb dX7_root_85 rfl (lv_at hl 3 rfl) ?_
              subst hQ
              exact W.iret hx hb hr (fun t9 ht9 hW9 => ⟨_, rfl, by rw [show k - 1 = 0 by omega] at hq1 hq2; rw [aRoot, cif_pos ⟨hb1, hb11⟩]; rw [cif_neg (by omega)]; exact congrArg iI hq1, ht9⟩) (fun _ h => absurd h List.not_mem_nil) dX7_root_86
            · refine lv_iload hx hb dX7_root_80 (lv_at hl 4 rfl) ?_
              refine lv_goto (tgt := 86) hx hb dX7_root_82 (by decide) ?_
              subst hQ
              exact W.iret hx hb hr (fun t9 ht9 hW9 => ⟨_, rfl, by rw [show k - 1 = 0 by omega] at hq1 hq2; rw [aRoot, cif_pos ⟨hb1, hb11⟩]; rw [cif_pos (by omega)]; exact congrArg iI hq2, ht9⟩) (fun _ h => absurd h List.not_mem_nil) dX7_root_86
          · refine lv_iload hx hb dX7_root_35 (lv_at hl 5 rfl) ?_
            refine lv_iload_n hx hb dX7_root_37 rfl (lv_at hl 1 rfl) ?_
            refine vp_callSi (W.runS (As := [.int (iI (k : Int)), .int (iI n)]) (rest := []) ⟨hx, hb, hml, hown, hts⟩ (c_X7_isRoot l (k : Int) n (by omega) hb1) (va_cwS 2 hts (gS tb_659 tb_660 tb_8 tb_661) rfl rfl rfl (by decide +kernel) ⟨Nat.le_of_ble_eq_true rfl, Nat.le_of_ble_eq_true rfl⟩) preS0 rfl rfl hl.1 rfl (lv_room (Nat.le_of_ble_eq_true rfl)) dX7_root_38 ⟨Nat.le_of_ble_eq_true rfl, Nat.le_of_ble_eq_true rfl⟩) (fun r9 hr9 => ?_)
            rcases hr9 with ⟨rfl, hb38⟩ | ⟨rfl, hb38⟩
            · refine lv_istore (lv' := [(6, .int (iI 1)), (0, .ref o), (1, .int (iI n)), (2, .int (iI what)), (3, .int (iI mm)), (4, .int (iI lw)), (5, .int (iI (k : Int)))]) hx hb dX7_root_41 hl (by decide) rfl (fun ls hl => ?_)
              refine lv_iload_n hx hb dX7_root_43 rfl (lv_at hl 4 rfl) ?_
              refine lv_iload hx hb dX7_root_44 (lv_at hl 0 rfl) ?_
              refine rv_if_eq (tgt := 53) hx hb dX7_root_46 (by decide) (by decide) (fun q => absurd q (by decide)) (fun _ => ?_)
              refine rv_iconst hx hb dX7_root_49 ?_
              refine lv_goto (tgt := 54) hx hb dX7_root_50 (by decide) ?_
              refine rv_iadd hx hb dX7_root_54 ?_
              refine lv_istore_n (lv' := [(3, .int (iI (mm + 1))), (6, .int (iI 1)), (0, .ref o), (1, .int (iI n)), (2, .int (iI what)), (4, .int (iI lw)), (5, .int (iI (k : Int)))]) hx hb dX7_root_55 rfl hl (by decide) rfl (fun ls hl => ?_)
              refine lv_iload hx hb dX7_root_56 (lv_at hl 1 rfl) ?_
              refine rv_if_eq (tgt := 66) hx hb dX7_root_58 (by decide) (by decide) (fun q => absurd q (by decide)) (fun _ => ?_)
              refine lv_iload hx hb dX7_root_61 (lv_at hl 6 rfl) ?_
              refine lv_goto (tgt := 68) hx hb dX7_root_63 (by decide) ?_
              refine lv_istore (lv' := [(4, .int (iI (k : Int))), (3, .int (iI (mm + 1))), (6, .int (iI 1)), (0, .ref o), (1, .int (iI n)), (2, .int (iI what)), (5, .int (iI (k : Int)))]) hx hb dX7_root_68 hl (by decide) rfl (fun ls hl => ?_)
              refine rv_iinc (k := 6) (lv' := [(5, .int (iI ((k : Int) + (-1)))), (4, .int (iI (k : Int))), (3, .int (iI (mm + 1))), (6, .int (iI 1)), (0, .ref o), (1, .int (iI n)), (2, .int (iI what))]) hx hb dX7_root_70 hl rfl (by decide) rfl (fun ls hl => ?_)
              refine lv_goto (tgt := 29) hx hb dX7_root_73 (by decide) ?_
              exact ih29 (k - 1) (mm + 1) (k : Int) (by omega) (by rw [show k - 1 = (k - 1 - 1) + 1 by omega, cntM, show (((k - 1 - 1 : Nat) : Int) + 2) = (k : Int) by omega] at hq1; first | (rw [if_pos (show 2 ≤ (k : Int) ∧ (k : Int) < n ∧ rootP (k : Int) n = true from hb38)] at hq1; exact hq1) | (rw [if_neg (show ¬ (2 ≤ (k : Int) ∧ (k : Int) < n ∧ rootP (k : Int) n = true) from hb38)] at hq1; first | exact hq1 | (rw [Int.add_zero]; exact hq1))) (by rw [show k - 1 = (k - 1 - 1) + 1 by omega, lowM, show (((k - 1 - 1 : Nat) : Int) + 2) = (k : Int) by omega] at hq2; first | (rw [if_pos (show 2 ≤ (k : Int) ∧ (k : Int) < n ∧ rootP (k : Int) n = true from hb38)] at hq2; exact hq2) | (rw [if_neg (show ¬ (2 ≤ (k : Int) ∧ (k : Int) < n ∧ rootP (k : Int) n = true) from hb38)] at hq2; exact hq2)) (by omega) _ (by omega) ls (lv_sub hl [4, 5, 6, 2, 1, 0] rfl)
            · refine lv_istore (lv' := [(6, .int (iI 0)), (0, .ref o), (1, .int (iI n)), (2, .int (iI what)), (3, .int (iI mm)), (4, .int (iI lw)), (5, .int (iI (k : Int)))]) hx hb dX7_root_41 hl (by decide) rfl (fun ls hl => ?_)
              refine lv_iload_n hx hb dX7_root_43 rfl (lv_at hl 4 rfl) ?_
              refine lv_iload hx hb dX7_root_44 (lv_at hl 0 rfl) ?_
              refine rv_if_eq (tgt := 53) hx hb dX7_root_46 (by decide) (by decide) (fun _ => ?_) (fun q => absurd q (by decide))
              refine rv_iconst hx hb dX7_root_53 ?_
              refine rv_iadd hx hb dX7_root_54 ?_
              refine lv_istore_n (lv' := [(3, .int (iI (mm + 0))), (6, .int (iI 0)), (0, .ref o), (1, .int (iI n)), (2, .int (iI what)), (4, .int (iI lw)), (5, .int (iI (k : Int)))]) hx hb dX7_root_55 rfl hl (by decide) rfl (fun ls hl => ?_)
              refine lv_iload hx hb dX7_root_56 (lv_at hl 1 rfl) ?_
              refine rv_if_eq (tgt := 66) hx hb dX7_root_58 (by decide) (by decide) (fun _ => ?_) (fun q => absurd q (by decide))
              refine lv_iload hx hb dX7_root_66 (lv_at hl 5 rfl) ?_
              refine lv_istore (lv' := [(4, .int (iI lw)), (3, .int (iI (mm + 0))), (6, .int (iI 0)), (0, .ref o), (1, .int (iI n)), (2, .int (iI what)), (5, .int (iI (k : Int)))]) hx hb dX7_root_68 hl (by decide) rfl (fun ls hl => ?_)
              refine rv_iinc (k := 6) (lv' := [(5, .int (iI ((k : Int) + (-1)))), (4, .int (iI lw)), (3, .int (iI (mm + 0))), (6, .int (iI 0)), (0, .ref o), (1, .int (iI n)), (2, .int (iI what))]) hx hb dX7_root_70 hl rfl (by decide) rfl (fun ls hl => ?_)
              refine lv_goto (tgt := 29) hx hb dX7_root_73 (by decide) ?_
              exact ih29 (k - 1) (mm + 0) lw (by omega) (by rw [show k - 1 = (k - 1 - 1) + 1 by omega, cntM, show (((k - 1 - 1 : Nat) : Int) + 2) = (k : Int) by omega] at hq1; first | (rw [if_pos (show 2 ≤ (k : Int) ∧ (k : Int) < n ∧ rootP (k : Int) n = true from hb38)] at hq1; exact hq1) | (rw [if_neg (show ¬ (2 ≤ (k : Int) ∧ (k : Int) < n ∧ rootP (k : Int) n = true) from hb38)] at hq1; first | exact hq1 | (rw [Int.add_zero]; exact hq1))) (by rw [show k - 1 = (k - 1 - 1) + 1 by omega, lowM, show (((k - 1 - 1 : Nat) : Int) + 2) = (k : Int) by omega] at hq2; first | (rw [if_pos (show 2 ≤ (k : Int) ∧ (k : Int) < n ∧ rootP (k : Int) n = true from hb38)] at hq2; exact hq2) | (rw [if_neg (show ¬ (2 ≤ (k : Int) ∧ (k : Int) < n ∧ rootP (k : Int) n = true) from hb38)] at hq2; exact hq2)) (by omega) _ (by omega) ls (lv_sub hl [4, 5, 6, 2, 1, 0] rfl)
      exact loop29 (_ + 1) ((n - 1).toNat) 0 0 (by omega) (by rw [show (n - 1).toNat - 1 = (n - 2).toNat by omega]; exact hrt.2) (by rw [show (n - 1).toNat - 1 = (n - 2).toNat by omega]; exact hrt.1) (Nat.lt_succ_self _) _ (by omega) ls (lv_sub hl [3, 4, 5, 2, 1, 0] rfl)
    · refine rv_if_ne (tgt := 19) hx hb dX7_root_14 (by decide) (by decide) (fun q => absurd q (by decide)) (fun _ => ?_)
      refine rv_iconst hx hb dX7_root_17 ?_
      subst hQ
      exact W.iret hx hb hr (fun t9 ht9 hW9 => ⟨_, rfl, by rw [aRoot, cif_neg (fun q => by first | exact hb1 q.1 | exact hb11 q.2)], ht9⟩) (fun _ h => absurd h List.not_mem_nil) dX7_root_18
  · refine rv_if_eq (tgt := 17) hx hb dX7_root_4 (by decide) (by decide) (fun _ => ?_) (fun q => absurd q (by decide))
    refine rv_iconst hx hb dX7_root_17 ?_
    subst hQ
    exact W.iret hx hb hr (fun t9 ht9 hW9 => ⟨_, rfl, by rw [aRoot, cif_neg (fun q => by first | exact hb1 q.1 | exact hb11 q.2)], ht9⟩) (fun _ h => absurd h List.not_mem_nil) dX7_root_18

abbrev rm_X7_law : Room := { frames := 1, cells := 0, slots := 0, locals := 23 }
set_option maxHeartbeats 4000000 in
set_option maxRecDepth 100000 in
/-- law -/
theorem c_X7_law (l : Launch) (o : Nat) (p : Int) (q : Int) (hp : -2147483648 ≤ p ∧ p < 2147483648) (hq : -2147483648 ≤ q ∧ q < 2147483648) : Met l yX7_law (Cond.code yX7_law cX7_law 3 (some .int) :: TB) rm_X7_law (va_Pc [.ref o, .int (iI p), .int (iI q)] (fun _ => True)) (vp_Si (fun r => r = iI (aLaw p q))) 0 0 (fun _ => False) := by
  refine enter (cc := cX7_law) (maxL := 3) (ret := (some .int)) (by decide) (Nat.le_of_ble_eq_true rfl) ?_
  intro pg ev s m below meth c Q ls hx hb hml hown hts hr hlocks hnm _ hl hQ
  have ht : ∀ w ∈ TB, w.before _ s = true := fun w h => hts w (List.mem_cons_of_mem _ h)
  have hl : lv_has ls 3 [(0, .ref o), (1, .int (iI p)), (2, .int (iI q))] := hl
  refine lv_iload_n hx hb dX7_law_0 rfl (lv_at hl 1 rfl) ?_
  refine vp_callSi (W.runS (As := [.int (iI p)]) (rest := []) ⟨hx, hb, hml, hown, hts⟩ (c_X7_isPrime l p (by omega)) (va_cwS 1 hts (gS tb_641 tb_642 tb_8 tb_643) rfl rfl rfl (by decide +kernel) ⟨Nat.le_of_ble_eq_true rfl, Nat.le_of_ble_eq_true rfl⟩) preS0 rfl rfl hl.1 rfl (lv_room (Nat.le_of_ble_eq_true rfl)) dX7_law_1 ⟨Nat.le_of_ble_eq_true rfl, Nat.le_of_ble_eq_true rfl⟩) (fun r9 hr9 => ?_)
  rcases hr9 with ⟨rfl, hb1⟩ | ⟨rfl, hb1⟩
  · refine rv_if_eq (tgt := 35) hx hb dX7_law_4 (by decide) (by decide) (fun q => absurd q (by decide)) (fun _ => ?_)
    refine lv_iload_n hx hb dX7_law_7 rfl (lv_at hl 2 rfl) ?_
    refine vp_callSi (W.runS (As := [.int (iI q)]) (rest := []) ⟨hx, hb, hml, hown, hts⟩ (c_X7_isPrime l q (by omega)) (va_cwS 1 hts (gS tb_641 tb_642 tb_8 tb_643) rfl rfl rfl (by decide +kernel) ⟨Nat.le_of_ble_eq_true rfl, Nat.le_of_ble_eq_true rfl⟩) preS0 rfl rfl hl.1 rfl (lv_room (Nat.le_of_ble_eq_true rfl)) dX7_law_8 ⟨Nat.le_of_ble_eq_true rfl, Nat.le_of_ble_eq_true rfl⟩) (fun r9 hr9 => ?_)
    rcases hr9 with ⟨rfl, hb8⟩ | ⟨rfl, hb8⟩
    · refine rv_if_eq (tgt := 35) hx hb dX7_law_11 (by decide) (by decide) (fun q => absurd q (by decide)) (fun _ => ?_)
      refine lv_iload_n hx hb dX7_law_14 rfl (lv_at hl 1 rfl) ?_
      refine lv_iload_n hx hb dX7_law_15 rfl (lv_at hl 2 rfl) ?_
      refine rv_icmp_eq (tgt := 35) hx hb dX7_law_16 (by decide) (by omega) (fun h16 => ?_) (fun h16 => ?_)
      · refine rv_iconst hx hb dX7_law_35 ?_
        subst hQ
        exact W.iret hx hb hr (fun t9 ht9 hW9 => ⟨_, rfl, by rw [aLaw, cif_neg (fun z => by first | exact hb1 z.1 | exact hb8 z.2.1 | exact z.2.2 h16)], ht9⟩) (fun _ h => absurd h List.not_mem_nil) dX7_law_36
      · have hnb := isPr_bd hb1
        have hnc := isPr_bd hb8
        refine lv_iload_n hx hb dX7_law_19 rfl (lv_at hl 1 rfl) ?_
        refine lv_iload_n hx hb dX7_law_20 rfl (lv_at hl 2 rfl) ?_
        refine vp_callSi (W.runS (As := [.int (iI p), .int (iI q)]) (rest := []) ⟨hx, hb, hml, hown, hts⟩ (c_X7_signOf l p q (by omega) (by omega)) (va_cwS 2 hts (gS tb_652 tb_653 tb_8 tb_654) rfl rfl rfl (by decide +kernel) ⟨Nat.le_of_ble_eq_true rfl, Nat.le_of_ble_eq_true rfl⟩) preS0 rfl rfl hl.1 rfl (lv_room (Nat.le_of_ble_eq_true rfl)) dX7_law_21 ⟨Nat.le_of_ble_eq_true rfl, Nat.le_of_ble_eq_true rfl⟩) (fun r9 hr9 => ?_)
        obtain ⟨rfl, hx21_0⟩ := hr9
        refine lv_iload_n hx hb dX7_law_24 rfl (lv_at hl 2 rfl) ?_
        refine lv_iload_n hx hb dX7_law_25 rfl (lv_at hl 1 rfl) ?_
        refine vp_callSi (W.runS (As := [.int (iI q), .int (iI p)]) (rest := [.int (iI (sg p q))]) ⟨hx, hb, hml, hown, hts⟩ (c_X7_signOf l q p (by omega) (by omega)) (va_cwS 2 hts (gS tb_652 tb_653 tb_8 tb_654) rfl rfl rfl (by decide +kernel) ⟨Nat.le_of_ble_eq_true rfl, Nat.le_of_ble_eq_true rfl⟩) preS0 rfl rfl hl.1 rfl (lv_room (Nat.le_of_ble_eq_true rfl)) dX7_law_26 ⟨Nat.le_of_ble_eq_true rfl, Nat.le_of_ble_eq_true rfl⟩) (fun r9 hr9 => ?_)
        obtain ⟨rfl, hx26_0⟩ := hr9
        refine rv_imul hx hb dX7_law_29 ?_
        refine rv_iconst hx hb dX7_law_30 ?_
        refine rv_iadd hx hb dX7_law_31 ?_
        refine lv_goto (tgt := 36) hx hb dX7_law_32 (by decide) ?_
        subst hQ
        exact W.iret hx hb hr (fun t9 ht9 hW9 => ⟨_, rfl, by rw [aLaw, cif_pos ⟨hb1, hb8, h16⟩], ht9⟩) (fun _ h => absurd h List.not_mem_nil) dX7_law_36
    · refine rv_if_eq (tgt := 35) hx hb dX7_law_11 (by decide) (by decide) (fun _ => ?_) (fun q => absurd q (by decide))
      refine rv_iconst hx hb dX7_law_35 ?_
      subst hQ
      exact W.iret hx hb hr (fun t9 ht9 hW9 => ⟨_, rfl, by rw [aLaw, cif_neg (fun z => by first | exact hb1 z.1 | exact hb8 z.2.1 | exact z.2.2 h16)], ht9⟩) (fun _ h => absurd h List.not_mem_nil) dX7_law_36
  · refine rv_if_eq (tgt := 35) hx hb dX7_law_4 (by decide) (by decide) (fun _ => ?_) (fun q => absurd q (by decide))
    refine rv_iconst hx hb dX7_law_35 ?_
    subst hQ
    exact W.iret hx hb hr (fun t9 ht9 hW9 => ⟨_, rfl, by rw [aLaw, cif_neg (fun z => by first | exact hb1 z.1 | exact hb8 z.2.1 | exact z.2.2 h16)], ht9⟩) (fun _ h => absurd h List.not_mem_nil) dX7_law_36

