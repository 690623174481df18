/-! Reader -/

abbrev rm_X4_letterAt : Room := { frames := 0, cells := 0, slots := 0, locals := 0 }
set_option maxHeartbeats 4000000 in
set_option maxRecDepth 100000 in
/-- letterAt -/
theorem c_X4_letterAt (l : Launch) (D : va_G) (cs : Nat → ClassId) (o : Nat) (t : Nat) (fs : List Value) (len : Int) (tx : Nat → Int) (i : Int) (hi : 0 ≤ i ∧ i < 1000) : Met l yX4_letterAt (Cond.code yX4_letterAt cX4_letterAt 2 (some .char) :: TB) rm_X4_letterAt (va_Pc [.ref o, .int (iI i)] (fun U => KA D cs U ∧ RdT D cs U.heap o t fs len tx)) (vp_Si (fun r => r = iI (bt tx len i) ∧ (0 ≤ bt tx len i ∧ bt tx len i ≤ 126))) 0 0 (fun _ => False) := by
  refine enter (cc := cX4_letterAt) (maxL := 2) (ret := (some .char)) (by decide) (Nat.le_of_ble_eq_true rfl) ?_
  intro pg ev s m below meth c Q ls hx hb hml hown hts hr hlocks hnm ⟨hK, hrdT⟩ hl hQ
  have ht : ∀ w ∈ TB, w.before _ s = true := fun w h => hts w (List.mem_cons_of_mem _ h)
  have hl : lv_has ls 2 [(0, .ref o), (1, .int (iI i))] := hl
  obtain ⟨hPt, hf2, hf3, hlen, htx⟩ := id hrdT
  refine lv_aload_n hx hb dX4_letterAt_0 rfl (lv_at hl 0 rfl) ?_
  refine va_get (D := D) (ci := 3) (v := .ref t) (C := RX4) (T := TX4) (N := 8) hx hb ht inTB_X4 hown hK hPt 0 rfl rfl 2 (by decide) (ht _ tb_30) (fun _ h9 => h9) hf2 dX4_letterAt_1 ?_
  refine lv_ifnull hx hb dX4_letterAt_4 ?_
  refine lv_iload_n hx hb dX4_letterAt_7 rfl (lv_at hl 1 rfl) ?_
  refine rv_if_lt (tgt := 28) hx hb dX4_letterAt_8 (by decide) (by omega) (fun h8 => False.elim (by omega)) (fun h8 => ?_)
  refine lv_iload_n hx hb dX4_letterAt_11 rfl (lv_at hl 1 rfl) ?_
  refine lv_aload_n hx hb dX4_letterAt_12 rfl (lv_at hl 0 rfl) ?_
  refine va_get (D := D) (ci := 3) (v := .int (iI len)) (C := RX4) (T := TX4) (N := 8) hx hb ht inTB_X4 hown hK hPt 0 rfl rfl 3 (by decide) (ht _ tb_31) (fun _ h9 => h9) hf3 dX4_letterAt_13 ?_
  refine rv_icmp_ge (tgt := 28) hx hb dX4_letterAt_16 (by decide) (by omega) (fun h16 => ?_) (fun h16 => ?_)
  · refine rv_iconst hx hb dX4_letterAt_28 ?_
    subst hQ
    exact W.zret (ty := .char) hx hb hr (by decide) (fun t9 ht9 hW9 => ⟨_, rfl, ⟨by rw [bt, cif_neg (by omega)], bt_bd htx (by omega)⟩, ht9⟩) (fun _ h => absurd h List.not_mem_nil) dX4_letterAt_29
  · refine lv_iload_n hx hb dX4_letterAt_19 rfl (lv_at hl 1 rfl) ?_
    refine lv_aload_n hx hb dX4_letterAt_20 rfl (lv_at hl 0 rfl) ?_
    refine va_get (D := D) (ci := 3) (v := .ref t) (C := RX4) (T := TX4) (N := 8) hx hb ht inTB_X4 hown hK hPt 0 rfl rfl 2 (by decide) (ht _ tb_30) (fun _ h9 => h9) hf2 dX4_letterAt_21 ?_
    refine rv_alen hx hb hK hPt 1 1 rfl rfl dX4_letterAt_24 ?_
    refine rv_icmp_lt (tgt := 30) hx hb dX4_letterAt_25 (by decide) (by omega) (fun h25 => ?_) (fun h25 => False.elim (by omega))
    refine lv_aload_n hx hb dX4_letterAt_30 rfl (lv_at hl 0 rfl) ?_
    refine va_get (D := D) (ci := 3) (v := .ref t) (C := RX4) (T := TX4) (N := 8) hx hb ht inTB_X4 hown hK hPt 0 rfl rfl 2 (by decide) (ht _ tb_30) (fun _ h9 => h9) hf2 dX4_letterAt_31 ?_
    have htb := htx i.toNat (by omega)
    refine lv_iload_n hx hb dX4_letterAt_34 rfl (lv_at hl 1 rfl) ?_
    refine rv_cald hx hb hK hPt 1 1 rfl rfl (Int.toNat i) (by omega) (by omega) dX4_letterAt_35 ?_
    subst hQ
    exact W.zret (ty := .char) hx hb hr (nar_char (by omega)) (fun t9 ht9 hW9 => ⟨_, rfl, ⟨by rw [bt, cif_pos (by omega)], bt_bd htx (by omega)⟩, ht9⟩) (fun _ h => absurd h List.not_mem_nil) dX4_letterAt_36

abbrev rm_X4_isFigure : Room := { frames := 1, cells := 0, slots := 0, locals := 21 }
set_option maxHeartbeats 4000000 in
set_option maxRecDepth 100000 in
/-- isFigure -/
theorem c_X4_isFigure (l : Launch) (D : va_G) (cs : Nat → ClassId) (o : Nat) (t : Nat) (fs : List Value) (len : Int) (tx : Nat → Int) (i : Int) (hi : 0 ≤ i ∧ i < 1000) : Met l yX4_isFigure (Cond.code yX4_isFigure cX4_isFigure 3 (some .boolean) :: TB) rm_X4_isFigure (va_Pc [.ref o, .int (iI i)] (fun U => KA D cs U ∧ RdT D cs U.heap o t fs len tx)) (vp_Si (fun r => (r = iI 1 ∧ (isDg (bt tx len i))) ∨ (r = iI 0 ∧ ¬ (isDg (bt tx len i))))) 0 0 (fun _ => False) := by
  refine enter (cc := cX4_isFigure) (maxL := 3) (ret := (some .boolean)) (by decide) (Nat.le_of_ble_eq_true rfl) ?_
  intro pg ev s m below meth c Q ls hx hb hml hown hts hr hlocks hnm ⟨hK, hrdT⟩ hl hQ
  have ht : ∀ w ∈ TB, w.before _ s = true := fun w h => hts w (List.mem_cons_of_mem _ h)
  have hl : lv_has ls 3 [(0, .ref o), (1, .int (iI i))] := hl
  obtain ⟨hPt, hf2, hf3, hlen, htx⟩ := id hrdT
  refine lv_aload_n hx hb dX4_isFigure_0 rfl (lv_at hl 0 rfl) ?_
  refine lv_iload_n hx hb dX4_isFigure_1 rfl (lv_at hl 1 rfl) ?_
  refine vp_callSi (W.runV (As := [.int (iI i)]) (rest := []) ⟨hx, hb, hml, hown, hts⟩ (c_X4_letterAt l D cs o t fs len tx i (by omega)) (cwV 1 hts (gV tb_238 tb_240 tbs_1 tb_2 tb_241) rfl rfl rfl (by decide +kernel) ⟨Nat.le_of_ble_eq_true rfl, Nat.le_of_ble_eq_true rfl⟩) (preV_rdT hK hrdT) rfl rfl hl.1 rfl (lv_room (Nat.le_of_ble_eq_true rfl)) dX4_isFigure_2 ⟨Nat.le_of_ble_eq_true rfl, Nat.le_of_ble_eq_true rfl⟩) (fun r9 hr9 => ?_)
  obtain ⟨rfl, hx2_0⟩ := hr9
  refine lv_istore_n (lv' := [(2, .int (iI (bt tx len i))), (0, .ref o), (1, .int (iI i))]) hx hb dX4_isFigure_5 rfl hl (by decide) rfl (fun ls hl => ?_)
  refine lv_iload_n hx hb dX4_isFigure_6 rfl (lv_at hl 0 rfl) ?_
  refine rv_bipush hx hb dX4_isFigure_7 (by decide) ?_
  refine rv_icmp_lt (tgt := 22) hx hb dX4_isFigure_9 (by decide) (by omega) (fun h9 => ?_) (fun h9 => ?_)
  · refine rv_iconst hx hb dX4_isFigure_22 ?_
    subst hQ
    exact W.zret (ty := .boolean) hx hb hr (by decide) (fun t9 ht9 hW9 => ⟨_, rfl, Or.inr ⟨rfl, fun q => by unfold isDg at q; omega⟩, ht9⟩) (fun _ h => absurd h List.not_mem_nil) dX4_isFigure_23
  · refine lv_iload_n hx hb dX4_isFigure_12 rfl (lv_at hl 0 rfl) ?_
    refine rv_bipush hx hb dX4_isFigure_13 (by decide) ?_
    refine rv_icmp_gt (tgt := 22) hx hb dX4_isFigure_15 (by decide) (by omega) (fun h15 => ?_) (fun h15 => ?_)
    · refine rv_iconst hx hb dX4_isFigure_22 ?_
      subst hQ
      exact W.zret (ty := .boolean) hx hb hr (by decide) (fun t9 ht9 hW9 => ⟨_, rfl, Or.inr ⟨rfl, fun q => by unfold isDg at q; omega⟩, ht9⟩) (fun _ h => absurd h List.not_mem_nil) dX4_isFigure_23
    · refine rv_iconst hx hb dX4_isFigure_18 ?_
      refine lv_goto (tgt := 23) hx hb dX4_isFigure_19 (by decide) ?_
      subst hQ
      exact W.zret (ty := .boolean) hx hb hr (by decide) (fun t9 ht9 hW9 => ⟨_, rfl, Or.inl ⟨rfl, by unfold isDg; omega⟩, ht9⟩) (fun _ h => absurd h List.not_mem_nil) dX4_isFigure_23

abbrev rm_X4_endOfFigures : Room := { frames := 2, cells := 0, slots := 0, locals := 43 }
set_option maxHeartbeats 4000000 in
set_option maxRecDepth 100000 in
/-- endOfFigures -/
theorem c_X4_endOfFigures (l : Launch) (D : va_G) (cs : Nat → ClassId) (o : Nat) (t : Nat) (fs : List Value) (len : Int) (tx : Nat → Int) (i : Int) (hi : 0 ≤ i ∧ i < 900) : Met l yX4_endOfFigures (Cond.code yX4_endOfFigures cX4_endOfFigures 3 (some .int) :: TB) rm_X4_endOfFigures (va_Pc [.ref o, .int (iI i)] (fun U => KA D cs U ∧ RdT D cs U.heap o t fs len tx)) (vp_Si (fun r => r = iI (i + (nD tx len i : Int)))) 0 0 (fun _ => False) := by
  refine enter (cc := cX4_endOfFigures) (maxL := 3) (ret := (some .int)) (by decide) (Nat.le_of_ble_eq_true rfl) ?_
  intro pg ev s m below meth c Q ls hx hb hml hown hts hr hlocks hnm ⟨hK, hrdT⟩ hl hQ
  have ht : ∀ w ∈ TB, w.before _ s = true := fun w h => hts w (List.mem_cons_of_mem _ h)
  have hl : lv_has ls 3 [(0, .ref o), (1, .int (iI i))] := hl
  obtain ⟨hPt, hf2, hf3, hlen, htx⟩ := id hrdT
  refine rv_iconst hx hb dX4_endOfFigures_0 ?_
  refine lv_istore_n (lv' := [(2, .int (iI 0)), (0, .ref o), (1, .int (iI i))]) hx hb dX4_endOfFigures_1 rfl hl (by decide) rfl (fun ls hl => ?_)
  have loop2 : ∀ (fuel2 : Nat) (n : Nat), (n ≤ 3) → (∀ j : Nat, j < n → isDg (bt tx len (i + (j : Int)))) → 4 - n < fuel2 → ∀ (x2 : Int), x2 = (n : Int) → ∀ ls : Array Slot, lv_has ls 3 [(0, .ref o), (1, .int (iI i)), (2, .int (iI x2))] → W pg l ev rm_X4_endOfFigures s m [.ref o, .int (iI i)].toArray below meth c s.heap [] 0 0 Q (F0 m 2 ls []) := by
    intro fuel2
    induction fuel2 with
    | zero => intro n hn hdg hfuel2; exact absurd hfuel2 (Nat.not_lt_zero _)
    | succ fuel2 ih2 =>
      intro n hn hdg hfuel2 x2 ex2 ls hl
      subst ex2
      refine lv_iload_n hx hb dX4_endOfFigures_2 rfl (lv_at hl 2 rfl) ?_
      refine rv_iconst hx hb dX4_endOfFigures_3 ?_
      refine rv_icmp_ge (tgt := 23) hx hb dX4_endOfFigures_4 (by decide) (by omega) (fun h4 => ?_) (fun h4 => ?_)
      · refine lv_iload_n hx hb dX4_endOfFigures_23 rfl (lv_at hl 1 rfl) ?_
        refine lv_iload_n hx hb dX4_endOfFigures_24 rfl (lv_at hl 2 rfl) ?_
        refine rv_iadd hx hb dX4_endOfFigures_25 ?_
        subst hQ
        exact W.iret hx hb hr (fun t9 ht9 hW9 => ⟨_, rfl, by rw [nD_eq hn hdg (by first | exact Or.inl (by omega) | exact Or.inr hb11)], ht9⟩) (fun _ h => absurd h List.not_mem_nil) dX4_endOfFigures_26
      · refine lv_aload_n hx hb dX4_endOfFigures_7 rfl (lv_at hl 0 rfl) ?_
        refine lv_iload_n hx hb dX4_endOfFigures_8 rfl (lv_at hl 1 rfl) ?_
        refine lv_iload_n hx hb dX4_endOfFigures_9 rfl (lv_at hl 2 rfl) ?_
        refine rv_iadd hx hb dX4_endOfFigures_10 ?_
        refine vp_callSi (W.runV (As := [.int (iI (i + (n : Int)))]) (rest := []) ⟨hx, hb, hml, hown, hts⟩ (c_X4_isFigure l D cs o t fs len tx (i + (n : Int)) (by omega)) (cwV 1 hts (gV tb_249 tb_251 tbs_3 tb_2 tb_252) rfl rfl rfl (by decide +kernel) ⟨Nat.le_of_ble_eq_true rfl, Nat.le_of_ble_eq_true rfl⟩) (preV_rdT hK hrdT) rfl rfl hl.1 rfl (lv_room (Nat.le_of_ble_eq_true rfl)) dX4_endOfFigures_11 ⟨Nat.le_of_ble_eq_true rfl, Nat.le_of_ble_eq_true rfl⟩) (fun r9 hr9 => ?_)
        rcases hr9 with ⟨rfl, hb11⟩ | ⟨rfl, hb11⟩
        · refine rv_if_eq (tgt := 23) hx hb dX4_endOfFigures_14 (by decide) (by decide) (fun q => absurd q (by decide)) (fun _ => ?_)
          refine rv_iinc (k := 2) (lv' := [(2, .int (iI ((n : Int) + 1))), (0, .ref o), (1, .int (iI i))]) hx hb dX4_endOfFigures_17 hl rfl (by decide) rfl (fun ls hl => ?_)
          refine lv_goto (tgt := 2) hx hb dX4_endOfFigures_20 (by decide) ?_
          exact ih2 (n + 1) (by omega) (fun j h => by rcases Nat.lt_or_ge j n with q | q; exact hdg j q; rw [show j = n by omega]; exact hb11) (by omega) _ (by omega) ls (lv_sub hl [1, 2, 0] rfl)
        · refine rv_if_eq (tgt := 23) hx hb dX4_endOfFigures_14 (by decide) (by decide) (fun _ => ?_) (fun q => absurd q (by decide))
          refine lv_iload_n hx hb dX4_endOfFigures_23 rfl (lv_at hl 1 rfl) ?_
          refine lv_iload_n hx hb dX4_endOfFigures_24 rfl (lv_at hl 2 rfl) ?_
          refine rv_iadd hx hb dX4_endOfFigures_25 ?_
          subst hQ
          exact W.iret hx hb hr (fun t9 ht9 hW9 => ⟨_, rfl, by rw [nD_eq hn hdg (by first | exact Or.inl (by omega) | exact Or.inr hb11)], ht9⟩) (fun _ h => absurd h List.not_mem_nil) dX4_endOfFigures_26
  exact loop2 (_ + 1) 0 (by omega) (fun j h => absurd h (Nat.not_lt_zero _)) (Nat.lt_succ_self _) _ rfl ls (lv_sub hl [1, 2, 0] rfl)

abbrev rm_X4_valueOf : Room := { frames := 1, cells := 0, slots := 0, locals := 21 }
set_option maxHeartbeats 4000000 in
set_option maxRecDepth 100000 in
/-- valueOf -/
theorem c_X4_valueOf (l : Launch) (D : va_G) (cs : Nat → ClassId) (o : Nat) (t : Nat) (fs : List Value) (len : Int) (tx : Nat → Int) (i : Int) (e_ : Int) (hi : 0 ≤ i ∧ i < 900) (he : e_ = i + (nD tx len i : Int)) : Met l yX4_valueOf (Cond.code yX4_valueOf cX4_valueOf 5 (some .int) :: TB) rm_X4_valueOf (va_Pc [.ref o, .int (iI i), .int (iI e_)] (fun U => KA D cs U ∧ RdT D cs U.heap o t fs len tx)) (vp_Si (fun r => r = iI (nV tx len i))) 0 0 (fun _ => False) := by
  refine enter (cc := cX4_valueOf) (maxL := 5) (ret := (some .int)) (by decide) (Nat.le_of_ble_eq_true rfl) ?_
  intro pg ev s m below meth c Q ls hx hb hml hown hts hr hlocks hnm ⟨hK, hrdT⟩ hl hQ
  have ht : ∀ w ∈ TB, w.before _ s = true := fun w h => hts w (List.mem_cons_of_mem _ h)
  have hl : lv_has ls 5 [(0, .ref o), (1, .int (iI i)), (2, .int (iI e_))] := hl
  obtain ⟨hPt, hf2, hf3, hlen, htx⟩ := id hrdT
  have hd3 := nD_le tx len i
  refine rv_iconst hx hb dX4_valueOf_0 ?_
  refine lv_istore_n (lv' := [(3, .int (iI 0)), (0, .ref o), (1, .int (iI i)), (2, .int (iI e_))]) hx hb dX4_valueOf_1 rfl hl (by decide) rfl (fun ls hl => ?_)
  refine lv_iload_n hx hb dX4_valueOf_2 rfl (lv_at hl 2 rfl) ?_
  refine lv_istore (lv' := [(4, .int (iI i)), (3, .int (iI 0)), (0, .ref o), (1, .int (iI i)), (2, .int (iI e_))]) hx hb dX4_valueOf_3 hl (by decide) rfl (fun ls hl => ?_)
  have loop5 : ∀ (fuel5 : Nat) (n : Nat), (n ≤ nD tx len i) → 4 - n < fuel5 → ∀ (x3 x4 : Int), x3 = nVn tx len i n → x4 = (i + (n : Int)) → ∀ ls : Array Slot, lv_has ls 5 [(0, .ref o), (1, .int (iI i)), (2, .int (iI e_)), (3, .int (iI x3)), (4, .int (iI x4))] → W pg l ev rm_X4_valueOf s m [.ref o, .int (iI i), .int (iI e_)].toArray below meth c s.heap [] 0 0 Q (F0 m 5 ls []) := by
    intro fuel5
    induction fuel5 with
    | zero => intro n hn hfuel5; exact absurd hfuel5 (Nat.not_lt_zero _)
    | succ fuel5 ih5 =>
      intro n hn hfuel5 x3 x4 ex3 ex4 ls hl
      subst ex3 ex4
      have hvb := nVn_bd (tx := tx) (len := len) (i := i) (n := n) (by omega) (fun j h => nD_dg (by omega))
      refine lv_iload hx hb dX4_valueOf_5 (lv_at hl 4 rfl) ?_
      refine lv_iload_n hx hb dX4_valueOf_7 rfl (lv_at hl 2 rfl) ?_
      refine rv_icmp_ge (tgt := 32) hx hb dX4_valueOf_8 (by decide) (by omega) (fun h8 => ?_) (fun h8 => ?_)
      · refine lv_iload_n hx hb dX4_valueOf_32 rfl (lv_at hl 3 rfl) ?_
        subst hQ
        exact W.iret hx hb hr (fun t9 ht9 hW9 => ⟨_, rfl, by rw [nV, show nD tx len i = n by omega], ht9⟩) (fun _ h => absurd h List.not_mem_nil) dX4_valueOf_33
      · refine lv_iload_n hx hb dX4_valueOf_11 rfl (lv_at hl 3 rfl) ?_
        refine rv_bipush hx hb dX4_valueOf_12 (by decide) ?_
        refine rv_imul hx hb dX4_valueOf_14 ?_
        refine lv_aload_n hx hb dX4_valueOf_15 rfl (lv_at hl 0 rfl) ?_
        refine lv_iload hx hb dX4_valueOf_16 (lv_at hl 4 rfl) ?_
        refine vp_callSi (W.runV (As := [.int (iI (i + (n : Int)))]) (rest := [.int (iI (nVn tx len i n * 10))]) ⟨hx, hb, hml, hown, hts⟩ (c_X4_letterAt l D cs o t fs len tx (i + (n : Int)) (by omega)) (cwV 1 hts (gV tb_238 tb_240 tbs_1 tb_2 tb_241) rfl rfl rfl (by decide +kernel) ⟨Nat.le_of_ble_eq_true rfl, Nat.le_of_ble_eq_true rfl⟩) (preV_rdT hK hrdT) rfl rfl hl.1 rfl (lv_room (Nat.le_of_ble_eq_true rfl)) dX4_valueOf_18 ⟨Nat.le_of_ble_eq_true rfl, Nat.le_of_ble_eq_true rfl⟩) (fun r9 hr9 => ?_)
        obtain ⟨rfl, hx18_0⟩ := hr9
        refine rv_iadd hx hb dX4_valueOf_21 ?_
        refine rv_bipush hx hb dX4_valueOf_22 (by decide) ?_
        refine rv_isub hx hb dX4_valueOf_24 ?_
        refine lv_istore_n (lv' := [(3, .int (iI (((nVn tx len i n * 10) + bt tx len (i + (n : Int))) - 48))), (0, .ref o), (1, .int (iI i)), (2, .int (iI e_)), (4, .int (iI (i + (n : Int))))]) hx hb dX4_valueOf_25 rfl hl (by decide) rfl (fun ls hl => ?_)
        refine rv_iinc (k := 4) (lv' := [(4, .int (iI ((i + (n : Int)) + 1))), (3, .int (iI (((nVn tx len i n * 10) + bt tx len (i + (n : Int))) - 48))), (0, .ref o), (1, .int (iI i)), (2, .int (iI e_))]) hx hb dX4_valueOf_26 hl rfl (by decide) rfl (fun ls hl => ?_)
        refine lv_goto (tgt := 5) hx hb dX4_valueOf_29 (by decide) ?_
        exact ih5 (n + 1) (by omega) (by omega) _ _ (by rw [nVn]; omega) (by omega) ls (lv_sub hl [2, 3, 4, 1, 0] rfl)
  exact loop5 (_ + 1) 0 (by omega) (Nat.lt_succ_self _) _ _ rfl (by omega) ls (lv_sub hl [2, 3, 4, 1, 0] rfl)

abbrev rm_X4_numbersOf : Room := { frames := 0, cells := 0, slots := 0, locals := 0 }
set_option maxHeartbeats 4000000 in
set_option maxRecDepth 100000 in
/-- numbersOf -/
theorem c_X4_numbersOf (l : Launch) (ch : Int) (hch : 0 ≤ ch ∧ ch < 1000) : Met l yX4_numbersOf (Cond.code yX4_numbersOf cX4_numbersOf 1 (some .int) :: TB) rm_X4_numbersOf (va_Pc [.int (iI ch)] (fun _ => True)) (vp_Si (fun r => r = iI (nbOf ch))) 0 0 (fun _ => False) := by
  refine enter (cc := cX4_numbersOf) (maxL := 1) (ret := (some .int)) (by decide) (Nat.le_of_ble_eq_true rfl) ?_
  intro pg ev s m below meth c Q ls hx hb hml hown hts hr hlocks hnm _ hl hQ
  have ht : ∀ w ∈ TB, w.before _ s = true := fun w h => hts w (List.mem_cons_of_mem _ h)
  have hl : lv_has ls 1 [(0, .int (iI ch))] := hl
  refine lv_iload_n hx hb dX4_numbersOf_0 rfl (lv_at hl 0 rfl) ?_
  by_cases hc98 : ch = 98
  · refine rv_top (y := 98) hc98 ?_
    refine lv_lookup (tgt := 54) hx hb dX4_numbersOf_1 (by decide) rfl (by decide) ?_
    refine rv_iconst hx hb dX4_numbersOf_54 ?_
    subst hQ
    exact W.iret hx hb hr (fun t9 ht9 hW9 => ⟨_, rfl, by rw [nbOf, cif_neg (by omega), cif_pos hc98], ht9⟩) (fun _ h => absurd h List.not_mem_nil) dX4_numbersOf_55
  by_cases hc108 : ch = 108
  · refine rv_top (y := 108) hc108 ?_
    refine lv_lookup (tgt := 52) hx hb dX4_numbersOf_1 (by decide) rfl (by decide) ?_
    refine rv_iconst hx hb dX4_numbersOf_52 ?_
    subst hQ
    exact W.iret hx hb hr (fun t9 ht9 hW9 => ⟨_, rfl, by rw [nbOf, cif_pos (by omega)], ht9⟩) (fun _ h => absurd h List.not_mem_nil) dX4_numbersOf_53
  by_cases hc113 : ch = 113
  · refine rv_top (y := 113) hc113 ?_
    refine lv_lookup (tgt := 52) hx hb dX4_numbersOf_1 (by decide) rfl (by decide) ?_
    refine rv_iconst hx hb dX4_numbersOf_52 ?_
    subst hQ
    exact W.iret hx hb hr (fun t9 ht9 hW9 => ⟨_, rfl, by rw [nbOf, cif_pos (by omega)], ht9⟩) (fun _ h => absurd h List.not_mem_nil) dX4_numbersOf_53
  by_cases hc114 : ch = 114
  · refine rv_top (y := 114) hc114 ?_
    refine lv_lookup (tgt := 52) hx hb dX4_numbersOf_1 (by decide) rfl (by decide) ?_
    refine rv_iconst hx hb dX4_numbersOf_52 ?_
    subst hQ
    exact W.iret hx hb hr (fun t9 ht9 hW9 => ⟨_, rfl, by rw [nbOf, cif_pos (by omega)], ht9⟩) (fun _ h => absurd h List.not_mem_nil) dX4_numbersOf_53
  by_cases hc117 : ch = 117
  · refine rv_top (y := 117) hc117 ?_
    refine lv_lookup (tgt := 56) hx hb dX4_numbersOf_1 (by decide) rfl (by decide) ?_
    refine rv_iconst hx hb dX4_numbersOf_56 ?_
    subst hQ
    exact W.iret hx hb hr (fun t9 ht9 hW9 => ⟨_, rfl, by rw [nbOf, cif_neg (by omega), cif_neg (by omega), cif_pos hc117], ht9⟩) (fun _ h => absurd h List.not_mem_nil) dX4_numbersOf_57
  refine lv_lookup (tgt := 58) (off := 57) hx hb dX4_numbersOf_1 (by decide) (by rw [iI_toInt (by omega)]; show Op.lookupswitch.offset [(98, 53), (108, 51), (113, 51), (114, 51), (117, 55)] 57 _ = 57; rw [Op.lookupswitch.offset_cons, if_neg (by omega), Op.lookupswitch.offset_cons, if_neg (by omega), Op.lookupswitch.offset_cons, if_neg (by omega), Op.lookupswitch.offset_cons, if_neg (by omega), Op.lookupswitch.offset_cons, if_neg (by omega)]; rfl) (by decide) ?_
  refine rv_iconst hx hb dX4_numbersOf_58 ?_
  subst hQ
  exact W.iret hx hb hr (fun t9 ht9 hW9 => ⟨_, rfl, by rw [nbOf, cif_neg (by omega), cif_neg hc98, cif_neg hc117], ht9⟩) (fun _ h => absurd h List.not_mem_nil) dX4_numbersOf_59

abbrev rm_X4_keepUnit : Room := { frames := 1, cells := 0, slots := 0, locals := 21 }
set_option maxHeartbeats 8000000 in
set_option maxRecDepth 100000 in
/-- keepUnit -/
theorem c_X4_keepUnit (l : Launch) (D : va_G) (cs : Nat → ClassId) (ad : Nat → Nat) (sz : Nat) (rlen : Int) (rpc : Int) (run_ : Int) (rbo : Int) (rcw : Int) (tx : Nat → Int) (gp : Nat → Option Nat) (nu : Nat → Int) (hnu : ∀ j : Nat, j < 4 → 0 ≤ nu j ∧ nu j ≤ 999) : Met l yX4_keepUnit (Cond.code yX4_keepUnit cX4_keepUnit 1 (some .boolean) :: TB) rm_X4_keepUnit (va_Pc [.ref (ad 2)] (MPre D cs sz (rW1 cs ad rlen rpc run_ rbo rcw tx gp nu) (fun _ _ => True))) (va_Qi (fun (r u : Int32) => r = u) (fun r t => ∃ (run2 : Int), ((r = iI 1 ∧ (okTell 0 (nu 0))) ∨ (r = iI 0 ∧ ¬ (okTell 0 (nu 0)))) ∧ (okTell 0 (nu 0) → run2 = nu 0) ∧ va_P D classes (rW1 cs ad rlen rpc run2 rbo rcw tx gp nu) t.heap ∧ va_D (va_A (rW1 cs ad rlen rpc run_ rbo rcw tx gp nu) sz) (rW1 cs ad rlen rpc run2 rbo rcw tx gp nu)) (va_A (rW1 cs ad rlen rpc run_ rbo rcw tx gp nu) sz)) 0 0 (va_A (rW1 cs ad rlen rpc run_ rbo rcw tx gp nu) sz) := by
  refine enter (cc := cX4_keepUnit) (maxL := 1) (ret := (some .boolean)) (by decide) (Nat.le_of_ble_eq_true rfl) ?_
  intro pg ev s m below meth c Q ls hx hb hml hown hts hr hlocks hnm ⟨hsz, hP, hD0, hK, hX0⟩ hl hQ
  have ht : ∀ w ∈ TB, w.before _ s = true := fun w h => hts w (List.mem_cons_of_mem _ h)
  subst hsz
  have hD := hD0.self (sz := s.heap.size)
  obtain ⟨A, hAe⟩ : ∃ A, va_A (rW1 cs ad rlen rpc run_ rbo rcw tx gp nu) s.heap.size = A := ⟨_, rfl⟩
  rw [hAe] at hD
  have hA : ∀ q : Nat, s.heap.size ≤ q → A q := fun q h => by rw [← hAe]; exact Or.inr h
  obtain ⟨H, hH⟩ : ∃ H, H = s.heap := ⟨_, rfl⟩
  obtain ⟨locs, hlocs⟩ : ∃ locs : List Loc, locs = [] := ⟨_, rfl⟩
  have hS : va_S A s.heap H locs := by rw [hH, hlocs]; exact va_S.rf
  rw [← hH] at hP
  suffices hgo : W pg l ev rm_X4_keepUnit s m [.ref (ad 2)].toArray below meth c H locs 0 0 Q (F0 m 0 ls []) by rw [hH, hlocs] at hgo; exact hgo
  have hl : lv_has ls 1 [(0, .ref (ad 2))] := hl
  have hn0 := hnu 0 (by decide)
  have hn1 := hnu 1 (by decide)
  have hn2 := hnu 2 (by decide)
  have hn3 := hnu 3 (by decide)
  refine rv_iconst hx hb dX4_keepUnit_0 ?_
  refine lv_aload_n hx hb dX4_keepUnit_1 rfl (lv_at hl 0 rfl) ?_
  refine va_get (D := D) (ci := 3) (v := .ref (ad 4)) (C := RX4) (T := TX4) (N := 8) hx hb ht inTB_X4 hown hK hP 1 rfl rfl 1 (by decide) (ht _ tb_29) (fun _ h9 => h9) rfl dX4_keepUnit_2 ?_
  refine rv_iconst hx hb dX4_keepUnit_5 ?_
  refine rv_iald hx hb hK hP 3 0 rfl rfl 0 rfl (by omega) dX4_keepUnit_6 ?_
  refine vp_callSi (W.runS (As := [.int (iI 0), .int (iI (nu 0))]) (rest := []) ⟨hx, hb, hml, hown, hts⟩ (c_X3_allows l 0 (nu 0) (by omega) (by omega)) (va_cwS 2 hts (gS tb_265 tb_266 tb_7 tb_267) rfl rfl rfl (by decide +kernel) ⟨Nat.le_of_ble_eq_true rfl, Nat.le_of_ble_eq_true rfl⟩) preS0 rfl rfl hl.1 rfl (lv_room (Nat.le_of_ble_eq_true rfl)) dX4_keepUnit_7 ⟨Nat.le_of_ble_eq_true rfl, Nat.le_of_ble_eq_true rfl⟩) (fun r9 hr9 => ?_)
  rcases hr9 with ⟨rfl, hb7⟩ | ⟨rfl, hb7⟩
  · refine rv_if_ne (tgt := 15) hx hb dX4_keepUnit_10 (by decide) (by decide) (fun _ => ?_) (fun q => absurd q (by decide))
    refine lv_aload_n hx hb dX4_keepUnit_15 rfl (lv_at hl 0 rfl) ?_
    refine lv_aload_n hx hb dX4_keepUnit_16 rfl (lv_at hl 0 rfl) ?_
    refine va_get (D := D) (ci := 3) (v := .ref (ad 4)) (C := RX4) (T := TX4) (N := 8) hx hb ht inTB_X4 hown hK hP 1 rfl rfl 1 (by decide) (ht _ tb_29) (fun _ h9 => h9) rfl dX4_keepUnit_17 ?_
    refine rv_iconst hx hb dX4_keepUnit_20 ?_
    refine rv_iald hx hb hK hP 3 0 rfl rfl 0 rfl (by omega) dX4_keepUnit_21 ?_
    refine va_put (D := D) (ci := 3) (v := .int (iI (nu 0))) (ty := tyX4 5) (C := RX4) (T := TX4) (N := 8) hx hb ht inTB_X4 tyX4 tyX4_ok nmX4 hown hK hP hD hS 1 rfl rfl 5 (by decide) (ht _ tb_33) (fun _ h9 => h9) rfl (tyX4_ok 5 (by decide)) rfl rfl (Nat.le_of_ble_eq_true rfl) dX4_keepUnit_22 (fun H locs hP hD hS => ?_)
    have hP : va_P D classes (rW1 cs ad rlen rpc (nu 0) rbo rcw tx gp nu) H := hP
    have hD : va_D A (rW1 cs ad rlen rpc (nu 0) rbo rcw tx gp nu) := hD
    refine rv_iconst hx hb dX4_keepUnit_25 ?_
    subst hQ
    exact W.zret (ty := .boolean) hx hb hr (by decide) (fun t9 ht9 hW9 => ⟨⟨_, _, rfl, rfl, ⟨(nu 0), Or.inl ⟨rfl, hb7⟩, fun _ => rfl, by rw [ht9]; exact hP, by rw [hAe]; exact hD⟩⟩, by rw [hAe]; exact hS.F ht9⟩) (by rw [hAe]; exact hS.2.2) dX4_keepUnit_26
  · refine rv_if_ne (tgt := 15) hx hb dX4_keepUnit_10 (by decide) (by decide) (fun q => absurd q (by decide)) (fun _ => ?_)
    refine rv_iconst hx hb dX4_keepUnit_13 ?_
    subst hQ
    exact W.zret (ty := .boolean) hx hb hr (by decide) (fun t9 ht9 hW9 => ⟨⟨_, _, rfl, rfl, ⟨run_, Or.inr ⟨rfl, hb7⟩, fun q => absurd q hb7, by rw [ht9]; exact hP, by rw [hAe]; exact hD⟩⟩, by rw [hAe]; exact hS.F ht9⟩) (by rw [hAe]; exact hS.2.2) dX4_keepUnit_14

abbrev rm_X4_keepBoard : Room := { frames := 1, cells := 0, slots := 0, locals := 21 }
set_option maxHeartbeats 8000000 in
set_option maxRecDepth 100000 in
/-- keepBoard -/
theorem c_X4_keepBoard (l : Launch) (D : va_G) (cs : Nat → ClassId) (ad : Nat → Nat) (sz : Nat) (rlen : Int) (rpc : Int) (run_ : Int) (rbo : Int) (rcw : Int) (tx : Nat → Int) (gp : Nat → Option Nat) (nu : Nat → Int) (hnu : ∀ j : Nat, j < 4 → 0 ≤ nu j ∧ nu j ≤ 999) : Met l yX4_keepBoard (Cond.code yX4_keepBoard cX4_keepBoard 1 (some .boolean) :: TB) rm_X4_keepBoard (va_Pc [.ref (ad 2)] (MPre D cs sz (rW1 cs ad rlen rpc run_ rbo rcw tx gp nu) (fun _ _ => True))) (va_Qi (fun (r u : Int32) => r = u) (fun r t => ∃ (rbo2 : Int) (rcw2 : Int), ((r = iI 1 ∧ (okTell 1 (nu 0) ∧ okTell 2 (nu 1))) ∨ (r = iI 0 ∧ ¬ (okTell 1 (nu 0) ∧ okTell 2 (nu 1)))) ∧ (okTell 1 (nu 0) ∧ okTell 2 (nu 1) → rbo2 = nu 0 ∧ rcw2 = nu 1) ∧ va_P D classes (rW1 cs ad rlen rpc run_ rbo2 rcw2 tx gp nu) t.heap ∧ va_D (va_A (rW1 cs ad rlen rpc run_ rbo rcw tx gp nu) sz) (rW1 cs ad rlen rpc run_ rbo2 rcw2 tx gp nu)) (va_A (rW1 cs ad rlen rpc run_ rbo rcw tx gp nu) sz)) 0 0 (va_A (rW1 cs ad rlen rpc run_ rbo rcw tx gp nu) sz) := by
  refine enter (cc := cX4_keepBoard) (maxL := 1) (ret := (some .boolean)) (by decide) (Nat.le_of_ble_eq_true rfl) ?_
  intro pg ev s m below meth c Q ls hx hb hml hown hts hr hlocks hnm ⟨hsz, hP, hD0, hK, hX0⟩ hl hQ
  have ht : ∀ w ∈ TB, w.before _ s = true := fun w h => hts w (List.mem_cons_of_mem _ h)
  subst hsz
  have hD := hD0.self (sz := s.heap.size)
  obtain ⟨A, hAe⟩ : ∃ A, va_A (rW1 cs ad rlen rpc run_ rbo rcw tx gp nu) s.heap.size = A := ⟨_, rfl⟩
  rw [hAe] at hD
  have hA : ∀ q : Nat, s.heap.size ≤ q → A q := fun q h => by rw [← hAe]; exact Or.inr h
  obtain ⟨H, hH⟩ : ∃ H, H = s.heap := ⟨_, rfl⟩
  obtain ⟨locs, hlocs⟩ : ∃ locs : List Loc, locs = [] := ⟨_, rfl⟩
  have hS : va_S A s.heap H locs := by rw [hH, hlocs]; exact va_S.rf
  rw [← hH] at hP
  suffices hgo : W pg l ev rm_X4_keepBoard s m [.ref (ad 2)].toArray below meth c H locs 0 0 Q (F0 m 0 ls []) by rw [hH, hlocs] at hgo; exact hgo
  have hl : lv_has ls 1 [(0, .ref (ad 2))] := hl
  have hn0 := hnu 0 (by decide)
  have hn1 := hnu 1 (by decide)
  have hn2 := hnu 2 (by decide)
  have hn3 := hnu 3 (by decide)
  refine rv_iconst hx hb dX4_keepBoard_0 ?_
  refine lv_aload_n hx hb dX4_keepBoard_1 rfl (lv_at hl 0 rfl) ?_
  refine va_get (D := D) (ci := 3) (v := .ref (ad 4)) (C := RX4) (T := TX4) (N := 8) hx hb ht inTB_X4 hown hK hP 1 rfl rfl 1 (by decide) (ht _ tb_29) (fun _ h9 => h9) rfl dX4_keepBoard_2 ?_
  refine rv_iconst hx hb dX4_keepBoard_5 ?_
  refine rv_iald hx hb hK hP 3 0 rfl rfl 0 rfl (by omega) dX4_keepBoard_6 ?_
  refine vp_callSi (W.runS (As := [.int (iI 1), .int (iI (nu 0))]) (rest := []) ⟨hx, hb, hml, hown, hts⟩ (c_X3_allows l 1 (nu 0) (by omega) (by omega)) (va_cwS 2 hts (gS tb_265 tb_266 tb_7 tb_267) rfl rfl rfl (by decide +kernel) ⟨Nat.le_of_ble_eq_true rfl, Nat.le_of_ble_eq_true rfl⟩) preS0 rfl rfl hl.1 rfl (lv_room (Nat.le_of_ble_eq_true rfl)) dX4_keepBoard_7 ⟨Nat.le_of_ble_eq_true rfl, Nat.le_of_ble_eq_true rfl⟩) (fun r9 hr9 => ?_)
  rcases hr9 with ⟨rfl, hb7⟩ | ⟨rfl, hb7⟩
  · refine rv_if_eq (tgt := 26) hx hb dX4_keepBoard_10 (by decide) (by decide) (fun q => absurd q (by decide)) (fun _ => ?_)
    refine rv_iconst hx hb dX4_keepBoard_13 ?_
    refine lv_aload_n hx hb dX4_keepBoard_14 rfl (lv_at hl 0 rfl) ?_
    refine va_get (D := D) (ci := 3) (v := .ref (ad 4)) (C := RX4) (T := TX4) (N := 8) hx hb ht inTB_X4 hown hK hP 1 rfl rfl 1 (by decide) (ht _ tb_29) (fun _ h9 => h9) rfl dX4_keepBoard_15 ?_
    refine rv_iconst hx hb dX4_keepBoard_18 ?_
    refine rv_iald hx hb hK hP 3 0 rfl rfl 1 rfl (by omega) dX4_keepBoard_19 ?_
    refine vp_callSi (W.runS (As := [.int (iI 2), .int (iI (nu 1))]) (rest := []) ⟨hx, hb, hml, hown, hts⟩ (c_X3_allows l 2 (nu 1) (by omega) (by omega)) (va_cwS 2 hts (gS tb_265 tb_266 tb_7 tb_267) rfl rfl rfl (by decide +kernel) ⟨Nat.le_of_ble_eq_true rfl, Nat.le_of_ble_eq_true rfl⟩) preS0 rfl rfl hl.1 rfl (lv_room (Nat.le_of_ble_eq_true rfl)) dX4_keepBoard_20 ⟨Nat.le_of_ble_eq_true rfl, Nat.le_of_ble_eq_true rfl⟩) (fun r9 hr9 => ?_)
    rcases hr9 with ⟨rfl, hb20⟩ | ⟨rfl, hb20⟩
    · refine rv_if_ne (tgt := 28) hx hb dX4_keepBoard_23 (by decide) (by decide) (fun _ => ?_) (fun q => absurd q (by decide))
      refine lv_aload_n hx hb dX4_keepBoard_28 rfl (lv_at hl 0 rfl) ?_
      refine lv_aload_n hx hb dX4_keepBoard_29 rfl (lv_at hl 0 rfl) ?_
      refine va_get (D := D) (ci := 3) (v := .ref (ad 4)) (C := RX4) (T := TX4) (N := 8) hx hb ht inTB_X4 hown hK hP 1 rfl rfl 1 (by decide) (ht _ tb_29) (fun _ h9 => h9) rfl dX4_keepBoard_30 ?_
      refine rv_iconst hx hb dX4_keepBoard_33 ?_
      refine rv_iald hx hb hK hP 3 0 rfl rfl 0 rfl (by omega) dX4_keepBoard_34 ?_
      refine va_put (D := D) (ci := 3) (v := .int (iI (nu 0))) (ty := tyX4 6) (C := RX4) (T := TX4) (N := 8) hx hb ht inTB_X4 tyX4 tyX4_ok nmX4 hown hK hP hD hS 1 rfl rfl 6 (by decide) (ht _ tb_34) (fun _ h9 => h9) rfl (tyX4_ok 6 (by decide)) rfl rfl (Nat.le_of_ble_eq_true rfl) dX4_keepBoard_35 (fun H locs hP hD hS => ?_)
      have hP : va_P D classes (rW1 cs ad rlen rpc run_ (nu 0) rcw tx gp nu) H := hP
      have hD : va_D A (rW1 cs ad rlen rpc run_ (nu 0) rcw tx gp nu) := hD
      refine lv_aload_n hx hb dX4_keepBoard_38 rfl (lv_at hl 0 rfl) ?_
      refine lv_aload_n hx hb dX4_keepBoard_39 rfl (lv_at hl 0 rfl) ?_
      refine va_get (D := D) (ci := 3) (v := .ref (ad 4)) (C := RX4) (T := TX4) (N := 8) hx hb ht inTB_X4 hown hK hP 1 rfl rfl 1 (by decide) (ht _ tb_29) (fun _ h9 => h9) rfl dX4_keepBoard_40 ?_
      refine rv_iconst hx hb dX4_keepBoard_43 ?_
      refine rv_iald hx hb hK hP 3 0 rfl rfl 1 rfl (by omega) dX4_keepBoard_44 ?_
      refine va_put (D := D) (ci := 3) (v := .int (iI (nu 1))) (ty := tyX4 7) (C := RX4) (T := TX4) (N := 8) hx hb ht inTB_X4 tyX4 tyX4_ok nmX4 hown hK hP hD hS 1 rfl rfl 7 (by decide) (ht _ tb_35) (fun _ h9 => h9) rfl (tyX4_ok 7 (by decide)) rfl rfl (Nat.le_of_ble_eq_true rfl) dX4_keepBoard_45 (fun H locs hP hD hS => ?_)
      have hP : va_P D classes (rW1 cs ad rlen rpc run_ (nu 0) (nu 1) tx gp nu) H := hP
      have hD : va_D A (rW1 cs ad rlen rpc run_ (nu 0) (nu 1) tx gp nu) := hD
      refine rv_iconst hx hb dX4_keepBoard_48 ?_
      subst hQ
      exact W.zret (ty := .boolean) hx hb hr (by decide) (fun t9 ht9 hW9 => ⟨⟨_, _, rfl, rfl, ⟨(nu 0), (nu 1), Or.inl ⟨rfl, hb7, hb20⟩, fun _ => ⟨rfl, rfl⟩, by rw [ht9]; exact hP, by rw [hAe]; exact hD⟩⟩, by rw [hAe]; exact hS.F ht9⟩) (by rw [hAe]; exact hS.2.2) dX4_keepBoard_49
    · refine rv_if_ne (tgt := 28) hx hb dX4_keepBoard_23 (by decide) (by decide) (fun q => absurd q (by decide)) (fun _ => ?_)
      refine rv_iconst hx hb dX4_keepBoard_26 ?_
      subst hQ
      exact W.zret (ty := .boolean) hx hb hr (by decide) (fun t9 ht9 hW9 => ⟨⟨_, _, rfl, rfl, ⟨rbo, rcw, Or.inr ⟨rfl, (fun q => by first | exact hb7 q.1 | exact hb20 q.2)⟩, fun q => absurd q (fun q => by first | exact hb7 q.1 | exact hb20 q.2), by rw [ht9]; exact hP, by rw [hAe]; exact hD⟩⟩, by rw [hAe]; exact hS.F ht9⟩) (by rw [hAe]; exact hS.2.2) dX4_keepBoard_27
  · refine rv_if_eq (tgt := 26) hx hb dX4_keepBoard_10 (by decide) (by decide) (fun _ => ?_) (fun q => absurd q (by decide))
    refine rv_iconst hx hb dX4_keepBoard_26 ?_
    subst hQ
    exact W.zret (ty := .boolean) hx hb hr (by decide) (fun t9 ht9 hW9 => ⟨⟨_, _, rfl, rfl, ⟨rbo, rcw, Or.inr ⟨rfl, (fun q => by first | exact hb7 q.1 | exact hb20 q.2)⟩, fun q => absurd q (fun q => by first | exact hb7 q.1 | exact hb20 q.2), by rw [ht9]; exact hP, by rw [hAe]; exact hD⟩⟩, by rw [hAe]; exact hS.F ht9⟩) (by rw [hAe]; exact hS.2.2) dX4_keepBoard_27

abbrev rm_X4_keepItem : Room := { frames := 3, cells := 2, slots := 38, locals := 73 }
set_option maxHeartbeats 8000000 in
set_option maxRecDepth 100000 in
/-- keepItem -/
theorem c_X4_keepItem (l : Launch) (D : va_G) (cs : Nat → ClassId) (ad : Nat → Nat) (sz : Nat) (rlen : Int) (rpc : Int) (run_ : Int) (rbo : Int) (rcw : Int) (tx : Nat → Int) (gp : Nat → Option Nat) (nu : Nat → Int) (M : Nat → Prop) (v : Nat → Int) (ch : Int) (hnu : ∀ j : Nat, j < 4 → 0 ≤ nu j ∧ nu j ≤ 999) (hM : ∀ q, inAd ad 1 5 q → M q) (hch : ch = 113 ∨ ch = 114 ∨ ch = 108 ∨ ch = 98 ∨ ch = 117) : Met l yX4_keepItem (Cond.code yX4_keepItem cX4_keepItem 7 (some .boolean) :: TB) rm_X4_keepItem (va_Pc [.ref (ad 2), .int (iI ch)] (MPre D cs sz (rW1 cs ad rlen rpc run_ rbo rcw tx gp nu) (fun U H => ((∀ q, M q → q < H.size) ∧ RdS D cs M H v rpc run_ rbo rcw gp) ∧ PZ U H M))) (va_Qi (fun (r u : Int32) => r = u) (fun r t => ∃ (rpc2 : Int) (run2 : Int) (rbo2 : Int) (rcw2 : Int) (gp2 : Nat → Option Nat), ((r = iI 1 ∧ (okKp ch (v 20) nu)) ∨ (r = iI 0 ∧ ¬ (okKp ch (v 20) nu))) ∧ (okKp ch (v 20) nu → RdS D cs M t.heap (kpV v ch nu) rpc2 run2 rbo2 rcw2 gp2) ∧ va_P D classes (rW1 cs ad rlen rpc2 run2 rbo2 rcw2 tx gp2 nu) t.heap ∧ va_D (va_A (rW1 cs ad rlen rpc run_ rbo rcw tx gp nu) sz) (rW1 cs ad rlen rpc2 run2 rbo2 rcw2 tx gp2 nu)) (va_A (rW1 cs ad rlen rpc run_ rbo rcw tx gp nu) sz)) 2 38 (va_A (rW1 cs ad rlen rpc run_ rbo rcw tx gp nu) sz) := by
  refine enter (cc := cX4_keepItem) (maxL := 7) (ret := (some .boolean)) (by decide) (Nat.le_of_ble_eq_true rfl) ?_
  intro pg ev s m below meth c Q ls hx hb hml hown hts hr hlocks hnm ⟨hsz, hP, hD0, hK, hX0⟩ hl hQ
  have ht : ∀ w ∈ TB, w.before _ s = true := fun w h => hts w (List.mem_cons_of_mem _ h)
  subst hsz
  have hD := hD0.self (sz := s.heap.size)
  obtain ⟨A, hAe⟩ : ∃ A, va_A (rW1 cs ad rlen rpc run_ rbo rcw tx gp nu) s.heap.size = A := ⟨_, rfl⟩
  rw [hAe] at hD
  have hA : ∀ q : Nat, s.heap.size ≤ q → A q := fun q h => by rw [← hAe]; exact Or.inr h
  obtain ⟨H, hH⟩ : ∃ H, H = s.heap := ⟨_, rfl⟩
  obtain ⟨locs, hlocs⟩ : ∃ locs : List Loc, locs = [] := ⟨_, rfl⟩
  have hS : va_S A s.heap H locs := by rw [hH, hlocs]; exact va_S.rf
  rw [← hH] at hP
  suffices hgo : W pg l ev rm_X4_keepItem s m [.ref (ad 2), .int (iI ch)].toArray below meth c H locs 0 0 Q (F0 m 0 ls []) by rw [hH, hlocs] at hgo; exact hgo
  have hl : lv_has ls 7 [(0, .ref (ad 2)), (1, .int (iI ch))] := hl
  have hn0 := hnu 0 (by decide)
  have hn1 := hnu 1 (by decide)
  have hn2 := hnu 2 (by decide)
  have hn3 := hnu 3 (by decide)
  obtain ⟨hvL, hr0, hr1, hr2, hr3, -⟩ := id hX0.1.2
  obtain ⟨hv20, hv21, hv22, hv23, hvp⟩ := id hvL
  refine lv_iload_n hx hb dX4_keepItem_0 rfl (lv_at hl 1 rfl) ?_
  refine rv_bipush hx hb dX4_keepItem_1 (by decide) ?_
  refine rv_icmp_ne (tgt := 11) hx hb dX4_keepItem_3 (by decide) (by omega) (fun h3 => ?_) (fun h3 => ?_)
  · refine lv_iload_n hx hb dX4_keepItem_11 rfl (lv_at hl 1 rfl) ?_
    refine rv_bipush hx hb dX4_keepItem_12 (by decide) ?_
    refine rv_icmp_ne (tgt := 22) hx hb dX4_keepItem_14 (by decide) (by omega) (fun h14 => ?_) (fun h14 => ?_)
    · refine lv_iload_n hx hb dX4_keepItem_22 rfl (lv_at hl 1 rfl) ?_
      refine rv_bipush hx hb dX4_keepItem_23 (by decide) ?_
      refine rv_icmp_ne (tgt := 32) hx hb dX4_keepItem_25 (by decide) (by omega) (fun h25 => ?_) (fun h25 => ?_)
      · refine lv_iload_n hx hb dX4_keepItem_32 rfl (lv_at hl 1 rfl) ?_
        refine rv_bipush hx hb dX4_keepItem_33 (by decide) ?_
        refine rv_icmp_ne (tgt := 42) hx hb dX4_keepItem_35 (by decide) (by omega) (fun h35 => ?_) (fun h35 => ?_)
        · refine rv_iconst hx hb dX4_keepItem_42 ?_
          have hkd : kdItem ch = 2 := by rw [kdItem]; first | rw [cif_pos (by omega)] | rw [cif_neg (by omega), cif_pos (by omega)] | rw [cif_neg (by omega), cif_neg (by omega)]
          refine lv_istore_n (lv' := [(2, .int (iI 2)), (0, .ref (ad 2)), (1, .int (iI ch))]) hx hb dX4_keepItem_43 rfl hl (by decide) rfl (fun ls hl => ?_)
          refine lv_aload_n hx hb dX4_keepItem_44 rfl (lv_at hl 1 rfl) ?_
          refine va_get (D := D) (ci := 3) (v := .ref (ad 4)) (C := RX4) (T := TX4) (N := 8) hx hb ht inTB_X4 hown hK hP 1 rfl rfl 1 (by decide) (ht _ tb_29) (fun _ h9 => h9) rfl dX4_keepItem_45 ?_
          refine rv_iconst hx hb dX4_keepItem_48 ?_
          refine rv_iald hx hb hK hP 3 0 rfl rfl 0 rfl (by omega) dX4_keepItem_49 ?_
          refine lv_istore_n (lv' := [(3, .int (iI (nu 0))), (2, .int (iI 2)), (0, .ref (ad 2)), (1, .int (iI ch))]) hx hb dX4_keepItem_50 rfl hl (by decide) rfl (fun ls hl => ?_)
          refine lv_aload_n hx hb dX4_keepItem_51 rfl (lv_at hl 2 rfl) ?_
          refine va_get (D := D) (ci := 3) (v := .ref (ad 4)) (C := RX4) (T := TX4) (N := 8) hx hb ht inTB_X4 hown hK hP 1 rfl rfl 1 (by decide) (ht _ tb_29) (fun _ h9 => h9) rfl dX4_keepItem_52 ?_
          refine rv_iconst hx hb dX4_keepItem_55 ?_
          refine rv_iald hx hb hK hP 3 0 rfl rfl 1 rfl (by omega) dX4_keepItem_56 ?_
          refine lv_istore (lv' := [(4, .int (iI (nu 1))), (3, .int (iI (nu 0))), (2, .int (iI 2)), (0, .ref (ad 2)), (1, .int (iI ch))]) hx hb dX4_keepItem_57 hl (by decide) rfl (fun ls hl => ?_)
          refine lv_aload_n hx hb dX4_keepItem_59 rfl (lv_at hl 3 rfl) ?_
          refine va_get (D := D) (ci := 3) (v := .ref (ad 4)) (C := RX4) (T := TX4) (N := 8) hx hb ht inTB_X4 hown hK hP 1 rfl rfl 1 (by decide) (ht _ tb_29) (fun _ h9 => h9) rfl dX4_keepItem_60 ?_
          refine rv_iconst hx hb dX4_keepItem_63 ?_
          refine rv_iald hx hb hK hP 3 0 rfl rfl 2 rfl (by omega) dX4_keepItem_64 ?_
          refine lv_istore (lv' := [(5, .int (iI (nu 2))), (4, .int (iI (nu 1))), (3, .int (iI (nu 0))), (2, .int (iI 2)), (0, .ref (ad 2)), (1, .int (iI ch))]) hx hb dX4_keepItem_65 hl (by decide) rfl (fun ls hl => ?_)
          refine lv_aload_n hx hb dX4_keepItem_67 rfl (lv_at hl 4 rfl) ?_
          refine va_get (D := D) (ci := 3) (v := .ref (ad 4)) (C := RX4) (T := TX4) (N := 8) hx hb ht inTB_X4 hown hK hP 1 rfl rfl 1 (by decide) (ht _ tb_29) (fun _ h9 => h9) rfl dX4_keepItem_68 ?_
          refine rv_iconst hx hb dX4_keepItem_71 ?_
          refine rv_iald hx hb hK hP 3 0 rfl rfl 3 rfl (by omega) dX4_keepItem_72 ?_
          refine lv_istore (lv' := [(6, .int (iI (nu 3))), (5, .int (iI (nu 2))), (4, .int (iI (nu 1))), (3, .int (iI (nu 0))), (2, .int (iI 2)), (0, .ref (ad 2)), (1, .int (iI ch))]) hx hb dX4_keepItem_73 hl (by decide) rfl (fun ls hl => ?_)
          refine lv_aload_n hx hb dX4_keepItem_75 rfl (lv_at hl 5 rfl) ?_
          refine va_get (D := D) (ci := 3) (v := .int (iI rpc)) (C := RX4) (T := TX4) (N := 8) hx hb ht inTB_X4 hown hK hP 1 rfl rfl 4 (by decide) (ht _ tb_32) (fun _ h9 => h9) rfl dX4_keepItem_76 ?_
          refine rv_if_lt (tgt := 101) hx hb dX4_keepItem_79 (by decide) (by omega) (fun h79 => False.elim (by omega)) (fun h79 => ?_)
          refine lv_aload_n hx hb dX4_keepItem_82 rfl (lv_at hl 5 rfl) ?_
          refine va_get (D := D) (ci := 3) (v := .int (iI rpc)) (C := RX4) (T := TX4) (N := 8) hx hb ht inTB_X4 hown hK hP 1 rfl rfl 4 (by decide) (ht _ tb_32) (fun _ h9 => h9) rfl dX4_keepItem_83 ?_
          refine lv_aload_n hx hb dX4_keepItem_86 rfl (lv_at hl 5 rfl) ?_
          refine va_get (D := D) (ci := 3) (v := .ref (ad 3)) (C := RX4) (T := TX4) (N := 8) hx hb ht inTB_X4 hown hK hP 1 rfl rfl 0 (by decide) (ht _ tb_28) (fun _ h9 => h9) rfl dX4_keepItem_87 ?_
          refine rv_alen hx hb hK hP 2 2 rfl rfl dX4_keepItem_90 ?_
          refine rv_icmp_ge (tgt := 101) hx hb dX4_keepItem_91 (by decide) (by omega) (fun h91 => ?_) (fun h91 => ?_)
          · refine rv_iconst hx hb dX4_keepItem_101 ?_
            refine W.widen (k := 2) (n := 38) (by omega) (by omega) ?_
            subst hQ
            exact W.zret (ty := .boolean) hx hb hr (by decide) (fun t9 ht9 hW9 => ⟨⟨_, _, rfl, rfl, ⟨rpc, run_, rbo, rcw, gp, Or.inr ⟨rfl, (fun q => by rcases q with q | q | q; exact h3 q.1; exact h14 q.1; first | exact hb95 q.2.2.2.1 | omega)⟩, fun q => absurd q (fun q => by rcases q with q | q | q; exact h3 q.1; exact h14 q.1; first | exact hb95 q.2.2.2.1 | omega), by rw [ht9]; exact hP, by rw [hAe]; exact hD⟩⟩, by rw [hAe]; exact hS.F ht9⟩) (by rw [hAe]; exact hS.2.2) dX4_keepItem_102
          · have hpz := (PZ.inS hX0.2 (fun q z => hM q (Mw_rW q z)) hAe hS).no
            refine lv_iload_n hx hb dX4_keepItem_94 rfl (lv_at hl 3 rfl) ?_
            refine vp_callSi (W.runS (As := [.int (iI (nu 0))]) (rest := []) ⟨hx, hb, hml, hown, hts⟩ (c_X0_isPrime l (nu 0) (by omega)) (va_cwS 1 hts (gS tb_272 tb_273 tb_6 tb_274) rfl rfl rfl (by decide +kernel) ⟨Nat.le_of_ble_eq_true rfl, Nat.le_of_ble_eq_true rfl⟩) (preS_of (PZ_stb (fun _ => False)) hpz) rfl rfl hl.1 rfl (lv_room (Nat.le_of_ble_eq_true rfl)) dX4_keepItem_95 ⟨Nat.le_of_ble_eq_true rfl, Nat.le_of_ble_eq_true rfl⟩) (fun r9 hr9 => ?_)
            rcases hr9 with ⟨rfl, hb95⟩ | ⟨rfl, hb95⟩
            · refine rv_if_ne (tgt := 103) hx hb dX4_keepItem_98 (by decide) (by decide) (fun _ => ?_) (fun q => absurd q (by decide))
              have hnb := isPr_bd hb95
              refine lv_iload_n hx hb dX4_keepItem_103 rfl (lv_at hl 4 rfl) ?_
              refine lv_iload_n hx hb dX4_keepItem_104 rfl (lv_at hl 3 rfl) ?_
              refine lv_iload hx hb dX4_keepItem_105 (lv_at hl 2 rfl) ?_
              refine vp_callSi (W.runS (As := [.int (iI 2), .int (iI (nu 0)), .int (iI (nu 1))]) (rest := []) ⟨hx, hb, hml, hown, hts⟩ (c_X1_factorFits l 2 (nu 0) (nu 1) (by omega) hb95 (by omega)) (va_cwS 3 hts (gS tb_277 tb_278 tb_5 tb_279) rfl rfl rfl (by decide +kernel) ⟨Nat.le_of_ble_eq_true rfl, Nat.le_of_ble_eq_true rfl⟩) preS0 rfl rfl hl.1 rfl (lv_room (Nat.le_of_ble_eq_true rfl)) dX4_keepItem_107 ⟨Nat.le_of_ble_eq_true rfl, Nat.le_of_ble_eq_true rfl⟩) (fun r9 hr9 => ?_)
              rcases hr9 with ⟨rfl, hb107⟩ | ⟨rfl, hb107⟩
              · refine rv_if_ne (tgt := 115) hx hb dX4_keepItem_110 (by decide) (by decide) (fun _ => ?_) (fun q => absurd q (by decide))
                refine lv_iload_n hx hb dX4_keepItem_115 rfl (lv_at hl 3 rfl) ?_
                refine lv_iload hx hb dX4_keepItem_116 (lv_at hl 1 rfl) ?_
                refine vp_callSi (W.runS (As := [.int (iI (nu 0)), .int (iI (nu 2))]) (rest := []) ⟨hx, hb, hml, hown, hts⟩ (c_X1_offsetFits l (nu 0) (nu 2) (by omega) (by omega)) (va_cwS 2 hts (gS tb_283 tb_284 tb_5 tb_285) rfl rfl rfl (by decide +kernel) ⟨Nat.le_of_ble_eq_true rfl, Nat.le_of_ble_eq_true rfl⟩) preS0 rfl rfl hl.1 rfl (lv_room (Nat.le_of_ble_eq_true rfl)) dX4_keepItem_118 ⟨Nat.le_of_ble_eq_true rfl, Nat.le_of_ble_eq_true rfl⟩) (fun r9 hr9 => ?_)
                rcases hr9 with ⟨rfl, hb118⟩ | ⟨rfl, hb118⟩
                · refine rv_if_eq (tgt := 132) hx hb dX4_keepItem_121 (by decide) (by decide) (fun q => absurd q (by decide)) (fun _ => ?_)
                  refine lv_iload hx hb dX4_keepItem_124 (lv_at hl 0 rfl) ?_
                  refine vp_callSi (W.runS (As := [.int (iI (nu 3))]) (rest := []) ⟨hx, hb, hml, hown, hts⟩ (c_X1_wellsFit l (nu 3) (by omega)) (va_cwS 1 hts (gS tb_286 tb_287 tb_5 tb_288) rfl rfl rfl (by decide +kernel) ⟨Nat.le_of_ble_eq_true rfl, Nat.le_of_ble_eq_true rfl⟩) preS0 rfl rfl hl.1 rfl (lv_room (Nat.le_of_ble_eq_true rfl)) dX4_keepItem_126 ⟨Nat.le_of_ble_eq_true rfl, Nat.le_of_ble_eq_true rfl⟩) (fun r9 hr9 => ?_)
                  rcases hr9 with ⟨rfl, hb126⟩ | ⟨rfl, hb126⟩
                  · refine rv_if_ne (tgt := 134) hx hb dX4_keepItem_129 (by decide) (by decide) (fun _ => ?_) (fun q => absurd q (by decide))
                    refine lv_aload_n hx hb dX4_keepItem_134 rfl (lv_at hl 5 rfl) ?_
                    refine va_get (D := D) (ci := 3) (v := .ref (ad 3)) (C := RX4) (T := TX4) (N := 8) hx hb ht inTB_X4 hown hK hP 1 rfl rfl 0 (by decide) (ht _ tb_28) (fun _ h9 => h9) rfl dX4_keepItem_135 ?_
                    refine lv_aload_n hx hb dX4_keepItem_138 rfl (lv_at hl 5 rfl) ?_
                    refine va_get (D := D) (ci := 3) (v := .int (iI rpc)) (C := RX4) (T := TX4) (N := 8) hx hb ht inTB_X4 hown hK hP 1 rfl rfl 4 (by decide) (ht _ tb_32) (fun _ h9 => h9) rfl dX4_keepItem_139 ?_
                    refine va_new (ci := 0) (fs := [.int (iI 0), .int (iI 0), .int (iI 0), .int (iI 0), .int (iI 0), .int (iI 0), .null]) (C := RX1) (T := TX1) (N := 7) hx hb ht inTB_X1 tyX1 tyX1_ok hown (ht _ tb_26) (ht _ tb_127) (ht _ tb_5) hK hP hD hS hA rfl (fun j hj => by rcases (show j = 0 ∨ j = 1 ∨ j = 2 ∨ j = 3 ∨ j = 4 ∨ j = 5 ∨ j = 6 by omega) with rfl | rfl | rfl | rfl | rfl | rfl | rfl <;> rfl) (Nat.le_of_ble_eq_true rfl) (Nat.le_of_ble_eq_true rfl) dX4_keepItem_142 (fun q142 H hP hD hS => ?_)
                    have hP : va_P D classes (rW1 cs ad rlen rpc run_ rbo rcw tx gp nu ++ [(q142, .inr (0, [.int (iI 0), .int (iI 0), .int (iI 0), .int (iI 0), .int (iI 0), .int (iI 0), .null]))]) H := hP
                    have hD : va_D A (rW1 cs ad rlen rpc run_ rbo rcw tx gp nu ++ [(q142, .inr (0, [.int (iI 0), .int (iI 0), .int (iI 0), .int (iI 0), .int (iI 0), .int (iI 0), .null]))]) := hD
                    refine lv_dup hx hb dX4_keepItem_145 rfl ?_
                    refine lv_iload_n hx hb dX4_keepItem_146 rfl (lv_at hl 4 rfl) ?_
                    refine lv_iload_n hx hb dX4_keepItem_147 rfl (lv_at hl 3 rfl) ?_
                    refine lv_iload hx hb dX4_keepItem_148 (lv_at hl 2 rfl) ?_
                    refine lv_iload hx hb dX4_keepItem_150 (lv_at hl 1 rfl) ?_
                    refine lv_iload hx hb dX4_keepItem_152 (lv_at hl 0 rfl) ?_
                    have hFc := va_free (wc := [(q142, .inr (0, [.int (iI 0), .int (iI 0), .int (iI 0), .int (iI 0), .int (iI 0), .int (iI 0), .null]))]) hD hS hA [4] rfl
                    have hPc := hP.sub (ws' := [(q142, .inr (0, [.int (iI 0), .int (iI 0), .int (iI 0), .int (iI 0), .int (iI 0), .int (iI 0), .null]))]) [4] rfl
                    have hDc := hD.sub (ws' := [(q142, .inr (0, [.int (iI 0), .int (iI 0), .int (iI 0), .int (iI 0), .int (iI 0), .int (iI 0), .null]))]) [4] (by decide) rfl
                    refine va_callv (va_runI (As := [.int (iI 2), .int (iI (nu 0)), .int (iI (nu 1)), .int (iI (nu 2)), .int (iI (nu 3))]) (rest := [.ref q142, .int (iI rpc), .ref (ad 3)]) ⟨hx, hb, hml, hown, hts⟩ (c_X1_init l D cs H.size q142 2 (nu 0) (nu 1) (nu 2) (nu 3) (by omega) hb95 hb107) (cwI 5 hts (gTB tb_130) rfl rfl rfl (ht _ tb_5) (ht _ tb_289) (ht _ tb_129) rfl (by decide +kernel) ⟨Nat.le_of_ble_eq_true rfl, Nat.le_of_ble_eq_true rfl⟩) (preS_M (X := fun _ _ => True) Stb_T hK hPc hDc trivial) rfl rfl hl.1 rfl (lv_room (Nat.le_of_ble_eq_true rfl)) dX4_keepItem_154 ⟨Nat.le_of_ble_eq_true rfl, Nat.le_of_ble_eq_true rfl⟩) hS (fun q _ h => hFc q h) hFc (fun u9 t9 H9 locs ht9 hvm9 hw9 hB9 hz9 hk9 hS => ?_)
                    obtain ⟨rr_154, row_154, hf154_0, hP1, hD1⟩ := hB9
                    rw [ht9] at hP1
                    obtain ⟨hPj, hDj⟩ := va_join (wr := [_, _, _, _]) hP hD [4] [0, 1, 2, 3] rfl rfl (by decide) (by decide) hk9 hFc hP1 hD1
                    generalize H9 = H at *
                    have hP : va_P D classes (rW1 cs ad rlen rpc run_ rbo rcw tx gp nu ++ [(q142, .inr (0, [.int (iI (2 : Int)), .int (iI (nu 0)), .int (iI (nu 1)), .int (iI (nu 2)), .int (iI (nu 3)), .int (iI (per (2 : Int) (nu 0))), .ref rr_154])), (rr_154, iaC cs 31 row_154)]) H := hPj
                    have hD : va_D A (rW1 cs ad rlen rpc run_ rbo rcw tx gp nu ++ [(q142, .inr (0, [.int (iI (2 : Int)), .int (iI (nu 0)), .int (iI (nu 1)), .int (iI (nu 2)), .int (iI (nu 3)), .int (iI (per (2 : Int) (nu 0))), .ref rr_154])), (rr_154, iaC cs 31 row_154)]) := hDj
                    refine rv_aast hx hb hK hP hD hS 2 2 rfl rfl (any_of (r := (RX1, TX1, 7)) hK rfl (hP 4 _ rfl)) rpc.toNat (by omega) (by omega) dX4_keepItem_157 (fun H locs hP hD hS => ?_)
                    have hP : va_P D classes (rW1 cs ad rlen rpc run_ rbo rcw tx (va_up gp rpc.toNat (some q142)) nu ++ [(q142, .inr (0, [.int (iI (2 : Int)), .int (iI (nu 0)), .int (iI (nu 1)), .int (iI (nu 2)), .int (iI (nu 3)), .int (iI (per (2 : Int) (nu 0))), .ref rr_154])), (rr_154, iaC cs 31 row_154)]) H := hP
                    have hD : va_D A (rW1 cs ad rlen rpc run_ rbo rcw tx (va_up gp rpc.toNat (some q142)) nu ++ [(q142, .inr (0, [.int (iI (2 : Int)), .int (iI (nu 0)), .int (iI (nu 1)), .int (iI (nu 2)), .int (iI (nu 3)), .int (iI (per (2 : Int) (nu 0))), .ref rr_154])), (rr_154, iaC cs 31 row_154)]) := hD
                    refine lv_aload_n hx hb dX4_keepItem_158 rfl (lv_at hl 5 rfl) ?_
                    refine lv_dup hx hb dX4_keepItem_159 rfl ?_
                    refine va_get (D := D) (ci := 3) (v := .int (iI rpc)) (C := RX4) (T := TX4) (N := 8) hx hb ht inTB_X4 hown hK hP 1 rfl rfl 4 (by decide) (ht _ tb_32) (fun _ h9 => h9) rfl dX4_keepItem_160 ?_
                    refine rv_iconst hx hb dX4_keepItem_163 ?_
                    refine rv_iadd hx hb dX4_keepItem_164 ?_
                    refine va_put (D := D) (ci := 3) (v := .int (iI (rpc + 1))) (ty := tyX4 4) (C := RX4) (T := TX4) (N := 8) hx hb ht inTB_X4 tyX4 tyX4_ok nmX4 hown hK hP hD hS 1 rfl rfl 4 (by decide) (ht _ tb_32) (fun _ h9 => h9) rfl (tyX4_ok 4 (by decide)) rfl rfl (Nat.le_of_ble_eq_true rfl) dX4_keepItem_165 (fun H locs hP hD hS => ?_)
                    have hP : va_P D classes (rW1 cs ad rlen (rpc + 1) run_ rbo rcw tx (va_up gp rpc.toNat (some q142)) nu ++ [(q142, .inr (0, [.int (iI (2 : Int)), .int (iI (nu 0)), .int (iI (nu 1)), .int (iI (nu 2)), .int (iI (nu 3)), .int (iI (per (2 : Int) (nu 0))), .ref rr_154])), (rr_154, iaC cs 31 row_154)]) H := hP
                    have hD : va_D A (rW1 cs ad rlen (rpc + 1) run_ rbo rcw tx (va_up gp rpc.toNat (some q142)) nu ++ [(q142, .inr (0, [.int (iI (2 : Int)), .int (iI (nu 0)), .int (iI (nu 1)), .int (iI (nu 2)), .int (iI (nu 3)), .int (iI (per (2 : Int) (nu 0))), .ref rr_154])), (rr_154, iaC cs 31 row_154)]) := hD
                    refine rv_iconst hx hb dX4_keepItem_168 ?_
                    subst hQ
                    exact W.zret (ty := .boolean) hx hb hr (by decide) (fun t9 ht9 hW9 => ⟨⟨_, _, rfl, rfl, ⟨(rpc + 1), run_, rbo, rcw, (va_up gp rpc.toNat (some q142)), Or.inl ⟨rfl, Or.inr (Or.inr ⟨h3, h14, by omega, hb95, by rw [hkd]; exact hb107, hb118, hb126⟩)⟩, fun q => by rw [ht9]; obtain ⟨z0, z1, z2, z3, z4, z5⟩ := RdS.inS hX0.1.2 (fun q z => hM q (Mw_rW q z)) hAe hS; have hb4 : 0 ≤ v 20 ∧ v 20 < 4 := ⟨z0.1.1, by omega⟩; have hvp : vP (kdItem ch) (nu 0) (nu 1) (nu 2) (nu 3) := ⟨kd_bd ch, hb95, by rw [hkd]; exact hb107, hb118, hb126⟩; rw [kpV, cF_neg h3, cF_neg h14]; refine ⟨vL_set z0 hb4.2 hvp, by rw [setP_20 hb4, z1], by rw [setP_hi hb4 (by decide)]; exact z2, by rw [setP_hi hb4 (by decide)]; exact z3, by rw [setP_hi hb4 (by decide)]; exact z4, fun q hq => ?_⟩; rw [setP_20 hb4] at hq; rcases (show (q : Int) < v 20 ∨ q = (v 20).toNat by omega) with y | y; (rw [va_up_n (by omega)]; have e0 := setP_lo (k := kdItem ch) (n := nu 0) (f := nu 1) (o := nu 2) (w := nu 3) (j := 0) hb4 y (by decide); rw [Nat.add_zero] at e0; rw [e0, setP_lo hb4 y (by decide), setP_lo hb4 y (by decide), setP_lo hb4 y (by decide), setP_lo hb4 y (by decide)]; exact z5 q y); (subst y; obtain ⟨a0, a1, a2, a3, a4⟩ := setP_at (k := kdItem ch) (n := nu 0) (f := nu 1) (o := nu 2) (w := nu 3) hb4; rw [a0, a1, a2, a3, a4]; refine ⟨q142, by rw [show rpc.toNat = (v 20).toNat by omega, va_up_s], hvp, rr_154, row_154, ?_, newM2 (i := 4) hAe hX0.1.1 hD rfl rfl (Nat.le_of_ble_eq_true rfl), newM2 (i := 5) hAe hX0.1.1 hD rfl rfl (Nat.le_of_ble_eq_true rfl), (by rw [hkd]; exact hf154_0)⟩; rw [hkd]; exact hP.sub [4, 5] rfl), by rw [ht9]; exact hP.sub [0, 1, 2, 3] rfl, by rw [hAe]; exact hD.sub [0, 1, 2, 3] (by decide) rfl⟩⟩, by rw [hAe]; exact hS.F ht9⟩) (by rw [hAe]; exact hS.2.2) dX4_keepItem_169
                  · refine rv_if_ne (tgt := 134) hx hb dX4_keepItem_129 (by decide) (by decide) (fun q => absurd q (by decide)) (fun _ => ?_)
                    refine rv_iconst hx hb dX4_keepItem_132 ?_
                    refine W.widen (k := 2) (n := 38) (by omega) (by omega) ?_
                    subst hQ
                    exact W.zret (ty := .boolean) hx hb hr (by decide) (fun t9 ht9 hW9 => ⟨⟨_, _, rfl, rfl, ⟨rpc, run_, rbo, rcw, gp, Or.inr ⟨rfl, (fun q => by rcases q with q | q | q; exact h3 q.1; exact h14 q.1; first | exact hb118 q.2.2.2.2.2.1 | exact hb126 q.2.2.2.2.2.2)⟩, fun q => absurd q (fun q => by rcases q with q | q | q; exact h3 q.1; exact h14 q.1; first | exact hb118 q.2.2.2.2.2.1 | exact hb126 q.2.2.2.2.2.2), by rw [ht9]; exact hP, by rw [hAe]; exact hD⟩⟩, by rw [hAe]; exact hS.F ht9⟩) (by rw [hAe]; exact hS.2.2) dX4_keepItem_133
                · refine rv_if_eq (tgt := 132) hx hb dX4_keepItem_121 (by decide) (by decide) (fun _ => ?_) (fun q => absurd q (by decide))
                  refine rv_iconst hx hb dX4_keepItem_132 ?_
                  refine W.widen (k := 2) (n := 38) (by omega) (by omega) ?_
                  subst hQ
                  exact W.zret (ty := .boolean) hx hb hr (by decide) (fun t9 ht9 hW9 => ⟨⟨_, _, rfl, rfl, ⟨rpc, run_, rbo, rcw, gp, Or.inr ⟨rfl, (fun q => by rcases q with q | q | q; exact h3 q.1; exact h14 q.1; first | exact hb118 q.2.2.2.2.2.1 | exact hb126 q.2.2.2.2.2.2)⟩, fun q => absurd q (fun q => by rcases q with q | q | q; exact h3 q.1; exact h14 q.1; first | exact hb118 q.2.2.2.2.2.1 | exact hb126 q.2.2.2.2.2.2), by rw [ht9]; exact hP, by rw [hAe]; exact hD⟩⟩, by rw [hAe]; exact hS.F ht9⟩) (by rw [hAe]; exact hS.2.2) dX4_keepItem_133
              · refine rv_if_ne (tgt := 115) hx hb dX4_keepItem_110 (by decide) (by decide) (fun q => absurd q (by decide)) (fun _ => ?_)
                refine rv_iconst hx hb dX4_keepItem_113 ?_
                refine W.widen (k := 2) (n := 38) (by omega) (by omega) ?_
                subst hQ
                exact W.zret (ty := .boolean) hx hb hr (by decide) (fun t9 ht9 hW9 => ⟨⟨_, _, rfl, rfl, ⟨rpc, run_, rbo, rcw, gp, Or.inr ⟨rfl, (fun q => by rcases q with q | q | q; exact h3 q.1; exact h14 q.1; (rw [hkd] at q; exact hb107 q.2.2.2.2.1))⟩, fun q => absurd q (fun q => by rcases q with q | q | q; exact h3 q.1; exact h14 q.1; (rw [hkd] at q; exact hb107 q.2.2.2.2.1)), by rw [ht9]; exact hP, by rw [hAe]; exact hD⟩⟩, by rw [hAe]; exact hS.F ht9⟩) (by rw [hAe]; exact hS.2.2) dX4_keepItem_114
            · refine rv_if_ne (tgt := 103) hx hb dX4_keepItem_98 (by decide) (by decide) (fun q => absurd q (by decide)) (fun _ => ?_)
              refine rv_iconst hx hb dX4_keepItem_101 ?_
              refine W.widen (k := 2) (n := 38) (by omega) (by omega) ?_
              subst hQ
              exact W.zret (ty := .boolean) hx hb hr (by decide) (fun t9 ht9 hW9 => ⟨⟨_, _, rfl, rfl, ⟨rpc, run_, rbo, rcw, gp, Or.inr ⟨rfl, (fun q => by rcases q with q | q | q; exact h3 q.1; exact h14 q.1; first | exact hb95 q.2.2.2.1 | omega)⟩, fun q => absurd q (fun q => by rcases q with q | q | q; exact h3 q.1; exact h14 q.1; first | exact hb95 q.2.2.2.1 | omega), by rw [ht9]; exact hP, by rw [hAe]; exact hD⟩⟩, by rw [hAe]; exact hS.F ht9⟩) (by rw [hAe]; exact hS.2.2) dX4_keepItem_102
        · refine rv_iconst hx hb dX4_keepItem_38 ?_
          refine lv_goto (tgt := 43) hx hb dX4_keepItem_39 (by decide) ?_
          have hkd : kdItem ch = 1 := by rw [kdItem]; first | rw [cif_pos (by omega)] | rw [cif_neg (by omega), cif_pos (by omega)] | rw [cif_neg (by omega), cif_neg (by omega)]
          refine lv_istore_n (lv' := [(2, .int (iI 1)), (0, .ref (ad 2)), (1, .int (iI ch))]) hx hb dX4_keepItem_43 rfl hl (by decide) rfl (fun ls hl => ?_)
          refine lv_aload_n hx hb dX4_keepItem_44 rfl (lv_at hl 1 rfl) ?_
          refine va_get (D := D) (ci := 3) (v := .ref (ad 4)) (C := RX4) (T := TX4) (N := 8) hx hb ht inTB_X4 hown hK hP 1 rfl rfl 1 (by decide) (ht _ tb_29) (fun _ h9 => h9) rfl dX4_keepItem_45 ?_
          refine rv_iconst hx hb dX4_keepItem_48 ?_
          refine rv_iald hx hb hK hP 3 0 rfl rfl 0 rfl (by omega) dX4_keepItem_49 ?_
          refine lv_istore_n (lv' := [(3, .int (iI (nu 0))), (2, .int (iI 1)), (0, .ref (ad 2)), (1, .int (iI ch))]) hx hb dX4_keepItem_50 rfl hl (by decide) rfl (fun ls hl => ?_)
          refine lv_aload_n hx hb dX4_keepItem_51 rfl (lv_at hl 2 rfl) ?_
          refine va_get (D := D) (ci := 3) (v := .ref (ad 4)) (C := RX4) (T := TX4) (N := 8) hx hb ht inTB_X4 hown hK hP 1 rfl rfl 1 (by decide) (ht _ tb_29) (fun _ h9 => h9) rfl dX4_keepItem_52 ?_
          refine rv_iconst hx hb dX4_keepItem_55 ?_
          refine rv_iald hx hb hK hP 3 0 rfl rfl 1 rfl (by omega) dX4_keepItem_56 ?_
          refine lv_istore (lv' := [(4, .int (iI (nu 1))), (3, .int (iI (nu 0))), (2, .int (iI 1)), (0, .ref (ad 2)), (1, .int (iI ch))]) hx hb dX4_keepItem_57 hl (by decide) rfl (fun ls hl => ?_)
          refine lv_aload_n hx hb dX4_keepItem_59 rfl (lv_at hl 3 rfl) ?_
          refine va_get (D := D) (ci := 3) (v := .ref (ad 4)) (C := RX4) (T := TX4) (N := 8) hx hb ht inTB_X4 hown hK hP 1 rfl rfl 1 (by decide) (ht _ tb_29) (fun _ h9 => h9) rfl dX4_keepItem_60 ?_
          refine rv_iconst hx hb dX4_keepItem_63 ?_
          refine rv_iald hx hb hK hP 3 0 rfl rfl 2 rfl (by omega) dX4_keepItem_64 ?_
          refine lv_istore (lv' := [(5, .int (iI (nu 2))), (4, .int (iI (nu 1))), (3, .int (iI (nu 0))), (2, .int (iI 1)), (0, .ref (ad 2)), (1, .int (iI ch))]) hx hb dX4_keepItem_65 hl (by decide) rfl (fun ls hl => ?_)
          refine lv_aload_n hx hb dX4_keepItem_67 rfl (lv_at hl 4 rfl) ?_
          refine va_get (D := D) (ci := 3) (v := .ref (ad 4)) (C := RX4) (T := TX4) (N := 8) hx hb ht inTB_X4 hown hK hP 1 rfl rfl 1 (by decide) (ht _ tb_29) (fun _ h9 => h9) rfl dX4_keepItem_68 ?_
          refine rv_iconst hx hb dX4_keepItem_71 ?_
          refine rv_iald hx hb hK hP 3 0 rfl rfl 3 rfl (by omega) dX4_keepItem_72 ?_
          refine lv_istore (lv' := [(6, .int (iI (nu 3))), (5, .int (iI (nu 2))), (4, .int (iI (nu 1))), (3, .int (iI (nu 0))), (2, .int (iI 1)), (0, .ref (ad 2)), (1, .int (iI ch))]) hx hb dX4_keepItem_73 hl (by decide) rfl (fun ls hl => ?_)
          refine lv_aload_n hx hb dX4_keepItem_75 rfl (lv_at hl 5 rfl) ?_
          refine va_get (D := D) (ci := 3) (v := .int (iI rpc)) (C := RX4) (T := TX4) (N := 8) hx hb ht inTB_X4 hown hK hP 1 rfl rfl 4 (by decide) (ht _ tb_32) (fun _ h9 => h9) rfl dX4_keepItem_76 ?_
          refine rv_if_lt (tgt := 101) hx hb dX4_keepItem_79 (by decide) (by omega) (fun h79 => False.elim (by omega)) (fun h79 => ?_)
          refine lv_aload_n hx hb dX4_keepItem_82 rfl (lv_at hl 5 rfl) ?_
          refine va_get (D := D) (ci := 3) (v := .int (iI rpc)) (C := RX4) (T := TX4) (N := 8) hx hb ht inTB_X4 hown hK hP 1 rfl rfl 4 (by decide) (ht _ tb_32) (fun _ h9 => h9) rfl dX4_keepItem_83 ?_
          refine lv_aload_n hx hb dX4_keepItem_86 rfl (lv_at hl 5 rfl) ?_
          refine va_get (D := D) (ci := 3) (v := .ref (ad 3)) (C := RX4) (T := TX4) (N := 8) hx hb ht inTB_X4 hown hK hP 1 rfl rfl 0 (by decide) (ht _ tb_28) (fun _ h9 => h9) rfl dX4_keepItem_87 ?_
          refine rv_alen hx hb hK hP 2 2 rfl rfl dX4_keepItem_90 ?_
          refine rv_icmp_ge (tgt := 101) hx hb dX4_keepItem_91 (by decide) (by omega) (fun h91 => ?_) (fun h91 => ?_)
          · refine rv_iconst hx hb dX4_keepItem_101 ?_
            refine W.widen (k := 2) (n := 38) (by omega) (by omega) ?_
            subst hQ
            exact W.zret (ty := .boolean) hx hb hr (by decide) (fun t9 ht9 hW9 => ⟨⟨_, _, rfl, rfl, ⟨rpc, run_, rbo, rcw, gp, Or.inr ⟨rfl, (fun q => by rcases q with q | q | q; exact h3 q.1; exact h14 q.1; first | exact hb95 q.2.2.2.1 | omega)⟩, fun q => absurd q (fun q => by rcases q with q | q | q; exact h3 q.1; exact h14 q.1; first | exact hb95 q.2.2.2.1 | omega), by rw [ht9]; exact hP, by rw [hAe]; exact hD⟩⟩, by rw [hAe]; exact hS.F ht9⟩) (by rw [hAe]; exact hS.2.2) dX4_keepItem_102
          · have hpz := (PZ.inS hX0.2 (fun q z => hM q (Mw_rW q z)) hAe hS).no
            refine lv_iload_n hx hb dX4_keepItem_94 rfl (lv_at hl 3 rfl) ?_
            refine vp_callSi (W.runS (As := [.int (iI (nu 0))]) (rest := []) ⟨hx, hb, hml, hown, hts⟩ (c_X0_isPrime l (nu 0) (by omega)) (va_cwS 1 hts (gS tb_272 tb_273 tb_6 tb_274) rfl rfl rfl (by decide +kernel) ⟨Nat.le_of_ble_eq_true rfl, Nat.le_of_ble_eq_true rfl⟩) (preS_of (PZ_stb (fun _ => False)) hpz) rfl rfl hl.1 rfl (lv_room (Nat.le_of_ble_eq_true rfl)) dX4_keepItem_95 ⟨Nat.le_of_ble_eq_true rfl, Nat.le_of_ble_eq_true rfl⟩) (fun r9 hr9 => ?_)
            rcases hr9 with ⟨rfl, hb95⟩ | ⟨rfl, hb95⟩
            · refine rv_if_ne (tgt := 103) hx hb dX4_keepItem_98 (by decide) (by decide) (fun _ => ?_) (fun q => absurd q (by decide))
              have hnb := isPr_bd hb95
              refine lv_iload_n hx hb dX4_keepItem_103 rfl (lv_at hl 4 rfl) ?_
              refine lv_iload_n hx hb dX4_keepItem_104 rfl (lv_at hl 3 rfl) ?_
              refine lv_iload hx hb dX4_keepItem_105 (lv_at hl 2 rfl) ?_
              refine vp_callSi (W.runS (As := [.int (iI 1), .int (iI (nu 0)), .int (iI (nu 1))]) (rest := []) ⟨hx, hb, hml, hown, hts⟩ (c_X1_factorFits l 1 (nu 0) (nu 1) (by omega) hb95 (by omega)) (va_cwS 3 hts (gS tb_277 tb_278 tb_5 tb_279) rfl rfl rfl (by decide +kernel) ⟨Nat.le_of_ble_eq_true rfl, Nat.le_of_ble_eq_true rfl⟩) preS0 rfl rfl hl.1 rfl (lv_room (Nat.le_of_ble_eq_true rfl)) dX4_keepItem_107 ⟨Nat.le_of_ble_eq_true rfl, Nat.le_of_ble_eq_true rfl⟩) (fun r9 hr9 => ?_)
              rcases hr9 with ⟨rfl, hb107⟩ | ⟨rfl, hb107⟩
              · refine rv_if_ne (tgt := 115) hx hb dX4_keepItem_110 (by decide) (by decide) (fun _ => ?_) (fun q => absurd q (by decide))
                refine lv_iload_n hx hb dX4_keepItem_115 rfl (lv_at hl 3 rfl) ?_
                refine lv_iload hx hb dX4_keepItem_116 (lv_at hl 1 rfl) ?_
                refine vp_callSi (W.runS (As := [.int (iI (nu 0)), .int (iI (nu 2))]) (rest := []) ⟨hx, hb, hml, hown, hts⟩ (c_X1_offsetFits l (nu 0) (nu 2) (by omega) (by omega)) (va_cwS 2 hts (gS tb_283 tb_284 tb_5 tb_285) rfl rfl rfl (by decide +kernel) ⟨Nat.le_of_ble_eq_true rfl, Nat.le_of_ble_eq_true rfl⟩) preS0 rfl rfl hl.1 rfl (lv_room (Nat.le_of_ble_eq_true rfl)) dX4_keepItem_118 ⟨Nat.le_of_ble_eq_true rfl, Nat.le_of_ble_eq_true rfl⟩) (fun r9 hr9 => ?_)
                rcases hr9 with ⟨rfl, hb118⟩ | ⟨rfl, hb118⟩
                · refine rv_if_eq (tgt := 132) hx hb dX4_keepItem_121 (by decide) (by decide) (fun q => absurd q (by decide)) (fun _ => ?_)
                  refine lv_iload hx hb dX4_keepItem_124 (lv_at hl 0 rfl) ?_
                  refine vp_callSi (W.runS (As := [.int (iI (nu 3))]) (rest := []) ⟨hx, hb, hml, hown, hts⟩ (c_X1_wellsFit l (nu 3) (by omega)) (va_cwS 1 hts (gS tb_286 tb_287 tb_5 tb_288) rfl rfl rfl (by decide +kernel) ⟨Nat.le_of_ble_eq_true rfl, Nat.le_of_ble_eq_true rfl⟩) preS0 rfl rfl hl.1 rfl (lv_room (Nat.le_of_ble_eq_true rfl)) dX4_keepItem_126 ⟨Nat.le_of_ble_eq_true rfl, Nat.le_of_ble_eq_true rfl⟩) (fun r9 hr9 => ?_)
                  rcases hr9 with ⟨rfl, hb126⟩ | ⟨rfl, hb126⟩
                  · refine rv_if_ne (tgt := 134) hx hb dX4_keepItem_129 (by decide) (by decide) (fun _ => ?_) (fun q => absurd q (by decide))
                    refine lv_aload_n hx hb dX4_keepItem_134 rfl (lv_at hl 5 rfl) ?_
                    refine va_get (D := D) (ci := 3) (v := .ref (ad 3)) (C := RX4) (T := TX4) (N := 8) hx hb ht inTB_X4 hown hK hP 1 rfl rfl 0 (by decide) (ht _ tb_28) (fun _ h9 => h9) rfl dX4_keepItem_135 ?_
                    refine lv_aload_n hx hb dX4_keepItem_138 rfl (lv_at hl 5 rfl) ?_
                    refine va_get (D := D) (ci := 3) (v := .int (iI rpc)) (C := RX4) (T := TX4) (N := 8) hx hb ht inTB_X4 hown hK hP 1 rfl rfl 4 (by decide) (ht _ tb_32) (fun _ h9 => h9) rfl dX4_keepItem_139 ?_
                    refine va_new (ci := 0) (fs := [.int (iI 0), .int (iI 0), .int (iI 0), .int (iI 0), .int (iI 0), .int (iI 0), .null]) (C := RX1) (T := TX1) (N := 7) hx hb ht inTB_X1 tyX1 tyX1_ok hown (ht _ tb_26) (ht _ tb_127) (ht _ tb_5) hK hP hD hS hA rfl (fun j hj => by rcases (show j = 0 ∨ j = 1 ∨ j = 2 ∨ j = 3 ∨ j = 4 ∨ j = 5 ∨ j = 6 by omega) with rfl | rfl | rfl | rfl | rfl | rfl | rfl <;> rfl) (Nat.le_of_ble_eq_true rfl) (Nat.le_of_ble_eq_true rfl) dX4_keepItem_142 (fun q142 H hP hD hS => ?_)
                    have hP : va_P D classes (rW1 cs ad rlen rpc run_ rbo rcw tx gp nu ++ [(q142, .inr (0, [.int (iI 0), .int (iI 0), .int (iI 0), .int (iI 0), .int (iI 0), .int (iI 0), .null]))]) H := hP
                    have hD : va_D A (rW1 cs ad rlen rpc run_ rbo rcw tx gp nu ++ [(q142, .inr (0, [.int (iI 0), .int (iI 0), .int (iI 0), .int (iI 0), .int (iI 0), .int (iI 0), .null]))]) := hD
                    refine lv_dup hx hb dX4_keepItem_145 rfl ?_
                    refine lv_iload_n hx hb dX4_keepItem_146 rfl (lv_at hl 4 rfl) ?_
                    refine lv_iload_n hx hb dX4_keepItem_147 rfl (lv_at hl 3 rfl) ?_
                    refine lv_iload hx hb dX4_keepItem_148 (lv_at hl 2 rfl) ?_
                    refine lv_iload hx hb dX4_keepItem_150 (lv_at hl 1 rfl) ?_
                    refine lv_iload hx hb dX4_keepItem_152 (lv_at hl 0 rfl) ?_
                    have hFc := va_free (wc := [(q142, .inr (0, [.int (iI 0), .int (iI 0), .int (iI 0), .int (iI 0), .int (iI 0), .int (iI 0), .null]))]) hD hS hA [4] rfl
                    have hPc := hP.sub (ws' := [(q142, .inr (0, [.int (iI 0), .int (iI 0), .int (iI 0), .int (iI 0), .int (iI 0), .int (iI 0), .null]))]) [4] rfl
                    have hDc := hD.sub (ws' := [(q142, .inr (0, [.int (iI 0), .int (iI 0), .int (iI 0), .int (iI 0), .int (iI 0), .int (iI 0), .null]))]) [4] (by decide) rfl
                    refine va_callv (va_runI (As := [.int (iI 1), .int (iI (nu 0)), .int (iI (nu 1)), .int (iI (nu 2)), .int (iI (nu 3))]) (rest := [.ref q142, .int (iI rpc), .ref (ad 3)]) ⟨hx, hb, hml, hown, hts⟩ (c_X1_init l D cs H.size q142 1 (nu 0) (nu 1) (nu 2) (nu 3) (by omega) hb95 hb107) (cwI 5 hts (gTB tb_130) rfl rfl rfl (ht _ tb_5) (ht _ tb_289) (ht _ tb_129) rfl (by decide +kernel) ⟨Nat.le_of_ble_eq_true rfl, Nat.le_of_ble_eq_true rfl⟩) (preS_M (X := fun _ _ => True) Stb_T hK hPc hDc trivial) rfl rfl hl.1 rfl (lv_room (Nat.le_of_ble_eq_true rfl)) dX4_keepItem_154 ⟨Nat.le_of_ble_eq_true rfl, Nat.le_of_ble_eq_true rfl⟩) hS (fun q _ h => hFc q h) hFc (fun u9 t9 H9 locs ht9 hvm9 hw9 hB9 hz9 hk9 hS => ?_)
                    obtain ⟨rr_154, row_154, hf154_0, hP1, hD1⟩ := hB9
                    rw [ht9] at hP1
                    obtain ⟨hPj, hDj⟩ := va_join (wr := [_, _, _, _]) hP hD [4] [0, 1, 2, 3] rfl rfl (by decide) (by decide) hk9 hFc hP1 hD1
                    generalize H9 = H at *
                    have hP : va_P D classes (rW1 cs ad rlen rpc run_ rbo rcw tx gp nu ++ [(q142, .inr (0, [.int (iI (1 : Int)), .int (iI (nu 0)), .int (iI (nu 1)), .int (iI (nu 2)), .int (iI (nu 3)), .int (iI (per (1 : Int) (nu 0))), .ref rr_154])), (rr_154, iaC cs 31 row_154)]) H := hPj
                    have hD : va_D A (rW1 cs ad rlen rpc run_ rbo rcw tx gp nu ++ [(q142, .inr (0, [.int (iI (1 : Int)), .int (iI (nu 0)), .int (iI (nu 1)), .int (iI (nu 2)), .int (iI (nu 3)), .int (iI (per (1 : Int) (nu 0))), .ref rr_154])), (rr_154, iaC cs 31 row_154)]) := hDj
                    refine rv_aast hx hb hK hP hD hS 2 2 rfl rfl (any_of (r := (RX1, TX1, 7)) hK rfl (hP 4 _ rfl)) rpc.toNat (by omega) (by omega) dX4_keepItem_157 (fun H locs hP hD hS => ?_)
                    have hP : va_P D classes (rW1 cs ad rlen rpc run_ rbo rcw tx (va_up gp rpc.toNat (some q142)) nu ++ [(q142, .inr (0, [.int (iI (1 : Int)), .int (iI (nu 0)), .int (iI (nu 1)), .int (iI (nu 2)), .int (iI (nu 3)), .int (iI (per (1 : Int) (nu 0))), .ref rr_154])), (rr_154, iaC cs 31 row_154)]) H := hP
                    have hD : va_D A (rW1 cs ad rlen rpc run_ rbo rcw tx (va_up gp rpc.toNat (some q142)) nu ++ [(q142, .inr (0, [.int (iI (1 : Int)), .int (iI (nu 0)), .int (iI (nu 1)), .int (iI (nu 2)), .int (iI (nu 3)), .int (iI (per (1 : Int) (nu 0))), .ref rr_154])), (rr_154, iaC cs 31 row_154)]) := hD
                    refine lv_aload_n hx hb dX4_keepItem_158 rfl (lv_at hl 5 rfl) ?_
                    refine lv_dup hx hb dX4_keepItem_159 rfl ?_
                    refine va_get (D := D) (ci := 3) (v := .int (iI rpc)) (C := RX4) (T := TX4) (N := 8) hx hb ht inTB_X4 hown hK hP 1 rfl rfl 4 (by decide) (ht _ tb_32) (fun _ h9 => h9) rfl dX4_keepItem_160 ?_
                    refine rv_iconst hx hb dX4_keepItem_163 ?_
                    refine rv_iadd hx hb dX4_keepItem_164 ?_
                    refine va_put (D := D) (ci := 3) (v := .int (iI (rpc + 1))) (ty := tyX4 4) (C := RX4) (T := TX4) (N := 8) hx hb ht inTB_X4 tyX4 tyX4_ok nmX4 hown hK hP hD hS 1 rfl rfl 4 (by decide) (ht _ tb_32) (fun _ h9 => h9) rfl (tyX4_ok 4 (by decide)) rfl rfl (Nat.le_of_ble_eq_true rfl) dX4_keepItem_165 (fun H locs hP hD hS => ?_)
                    have hP : va_P D classes (rW1 cs ad rlen (rpc + 1) run_ rbo rcw tx (va_up gp rpc.toNat (some q142)) nu ++ [(q142, .inr (0, [.int (iI (1 : Int)), .int (iI (nu 0)), .int (iI (nu 1)), .int (iI (nu 2)), .int (iI (nu 3)), .int (iI (per (1 : Int) (nu 0))), .ref rr_154])), (rr_154, iaC cs 31 row_154)]) H := hP
                    have hD : va_D A (rW1 cs ad rlen (rpc + 1) run_ rbo rcw tx (va_up gp rpc.toNat (some q142)) nu ++ [(q142, .inr (0, [.int (iI (1 : Int)), .int (iI (nu 0)), .int (iI (nu 1)), .int (iI (nu 2)), .int (iI (nu 3)), .int (iI (per (1 : Int) (nu 0))), .ref rr_154])), (rr_154, iaC cs 31 row_154)]) := hD
                    refine rv_iconst hx hb dX4_keepItem_168 ?_
                    subst hQ
                    exact W.zret (ty := .boolean) hx hb hr (by decide) (fun t9 ht9 hW9 => ⟨⟨_, _, rfl, rfl, ⟨(rpc + 1), run_, rbo, rcw, (va_up gp rpc.toNat (some q142)), Or.inl ⟨rfl, Or.inr (Or.inr ⟨h3, h14, by omega, hb95, by rw [hkd]; exact hb107, hb118, hb126⟩)⟩, fun q => by rw [ht9]; obtain ⟨z0, z1, z2, z3, z4, z5⟩ := RdS.inS hX0.1.2 (fun q z => hM q (Mw_rW q z)) hAe hS; have hb4 : 0 ≤ v 20 ∧ v 20 < 4 := ⟨z0.1.1, by omega⟩; have hvp : vP (kdItem ch) (nu 0) (nu 1) (nu 2) (nu 3) := ⟨kd_bd ch, hb95, by rw [hkd]; exact hb107, hb118, hb126⟩; rw [kpV, cF_neg h3, cF_neg h14]; refine ⟨vL_set z0 hb4.2 hvp, by rw [setP_20 hb4, z1], by rw [setP_hi hb4 (by decide)]; exact z2, by rw [setP_hi hb4 (by decide)]; exact z3, by rw [setP_hi hb4 (by decide)]; exact z4, fun q hq => ?_⟩; rw [setP_20 hb4] at hq; rcases (show (q : Int) < v 20 ∨ q = (v 20).toNat by omega) with y | y; (rw [va_up_n (by omega)]; have e0 := setP_lo (k := kdItem ch) (n := nu 0) (f := nu 1) (o := nu 2) (w := nu 3) (j := 0) hb4 y (by decide); rw [Nat.add_zero] at e0; rw [e0, setP_lo hb4 y (by decide), setP_lo hb4 y (by decide), setP_lo hb4 y (by decide), setP_lo hb4 y (by decide)]; exact z5 q y); (subst y; obtain ⟨a0, a1, a2, a3, a4⟩ := setP_at (k := kdItem ch) (n := nu 0) (f := nu 1) (o := nu 2) (w := nu 3) hb4; rw [a0, a1, a2, a3, a4]; refine ⟨q142, by rw [show rpc.toNat = (v 20).toNat by omega, va_up_s], hvp, rr_154, row_154, ?_, newM2 (i := 4) hAe hX0.1.1 hD rfl rfl (Nat.le_of_ble_eq_true rfl), newM2 (i := 5) hAe hX0.1.1 hD rfl rfl (Nat.le_of_ble_eq_true rfl), (by rw [hkd]; exact hf154_0)⟩; rw [hkd]; exact hP.sub [4, 5] rfl), by rw [ht9]; exact hP.sub [0, 1, 2, 3] rfl, by rw [hAe]; exact hD.sub [0, 1, 2, 3] (by decide) rfl⟩⟩, by rw [hAe]; exact hS.F ht9⟩) (by rw [hAe]; exact hS.2.2) dX4_keepItem_169
                  · refine rv_if_ne (tgt := 134) hx hb dX4_keepItem_129 (by decide) (by decide) (fun q => absurd q (by decide)) (fun _ => ?_)
                    refine rv_iconst hx hb dX4_keepItem_132 ?_
                    refine W.widen (k := 2) (n := 38) (by omega) (by omega) ?_
                    subst hQ
                    exact W.zret (ty := .boolean) hx hb hr (by decide) (fun t9 ht9 hW9 => ⟨⟨_, _, rfl, rfl, ⟨rpc, run_, rbo, rcw, gp, Or.inr ⟨rfl, (fun q => by rcases q with q | q | q; exact h3 q.1; exact h14 q.1; first | exact hb118 q.2.2.2.2.2.1 | exact hb126 q.2.2.2.2.2.2)⟩, fun q => absurd q (fun q => by rcases q with q | q | q; exact h3 q.1; exact h14 q.1; first | exact hb118 q.2.2.2.2.2.1 | exact hb126 q.2.2.2.2.2.2), by rw [ht9]; exact hP, by rw [hAe]; exact hD⟩⟩, by rw [hAe]; exact hS.F ht9⟩) (by rw [hAe]; exact hS.2.2) dX4_keepItem_133
                · refine rv_if_eq (tgt := 132) hx hb dX4_keepItem_121 (by decide) (by decide) (fun _ => ?_) (fun q => absurd q (by decide))
                  refine rv_iconst hx hb dX4_keepItem_132 ?_
                  refine W.widen (k := 2) (n := 38) (by omega) (by omega) ?_
                  subst hQ
                  exact W.zret (ty := .boolean) hx hb hr (by decide) (fun t9 ht9 hW9 => ⟨⟨_, _, rfl, rfl, ⟨rpc, run_, rbo, rcw, gp, Or.inr ⟨rfl, (fun q => by rcases q with q | q | q; exact h3 q.1; exact h14 q.1; first | exact hb118 q.2.2.2.2.2.1 | exact hb126 q.2.2.2.2.2.2)⟩, fun q => absurd q (fun q => by rcases q with q | q | q; exact h3 q.1; exact h14 q.1; first | exact hb118 q.2.2.2.2.2.1 | exact hb126 q.2.2.2.2.2.2), by rw [ht9]; exact hP, by rw [hAe]; exact hD⟩⟩, by rw [hAe]; exact hS.F ht9⟩) (by rw [hAe]; exact hS.2.2) dX4_keepItem_133
              · refine rv_if_ne (tgt := 115) hx hb dX4_keepItem_110 (by decide) (by decide) (fun q => absurd q (by decide)) (fun _ => ?_)
                refine rv_iconst hx hb dX4_keepItem_113 ?_
                refine W.widen (k := 2) (n := 38) (by omega) (by omega) ?_
                subst hQ
                exact W.zret (ty := .boolean) hx hb hr (by decide) (fun t9 ht9 hW9 => ⟨⟨_, _, rfl, rfl, ⟨rpc, run_, rbo, rcw, gp, Or.inr ⟨rfl, (fun q => by rcases q with q | q | q; exact h3 q.1; exact h14 q.1; (rw [hkd] at q; exact hb107 q.2.2.2.2.1))⟩, fun q => absurd q (fun q => by rcases q with q | q | q; exact h3 q.1; exact h14 q.1; (rw [hkd] at q; exact hb107 q.2.2.2.2.1)), by rw [ht9]; exact hP, by rw [hAe]; exact hD⟩⟩, by rw [hAe]; exact hS.F ht9⟩) (by rw [hAe]; exact hS.2.2) dX4_keepItem_114
            · refine rv_if_ne (tgt := 103) hx hb dX4_keepItem_98 (by decide) (by decide) (fun q => absurd q (by decide)) (fun _ => ?_)
              refine rv_iconst hx hb dX4_keepItem_101 ?_
              refine W.widen (k := 2) (n := 38) (by omega) (by omega) ?_
              subst hQ
              exact W.zret (ty := .boolean) hx hb hr (by decide) (fun t9 ht9 hW9 => ⟨⟨_, _, rfl, rfl, ⟨rpc, run_, rbo, rcw, gp, Or.inr ⟨rfl, (fun q => by rcases q with q | q | q; exact h3 q.1; exact h14 q.1; first | exact hb95 q.2.2.2.1 | omega)⟩, fun q => absurd q (fun q => by rcases q with q | q | q; exact h3 q.1; exact h14 q.1; first | exact hb95 q.2.2.2.1 | omega), by rw [ht9]; exact hP, by rw [hAe]; exact hD⟩⟩, by rw [hAe]; exact hS.F ht9⟩) (by rw [hAe]; exact hS.2.2) dX4_keepItem_102
      · refine rv_iconst hx hb dX4_keepItem_28 ?_
        refine lv_goto (tgt := 43) hx hb dX4_keepItem_29 (by decide) ?_
        have hkd : kdItem ch = 0 := by rw [kdItem]; first | rw [cif_pos (by omega)] | rw [cif_neg (by omega), cif_pos (by omega)] | rw [cif_neg (by omega), cif_neg (by omega)]
        refine lv_istore_n (lv' := [(2, .int (iI 0)), (0, .ref (ad 2)), (1, .int (iI ch))]) hx hb dX4_keepItem_43 rfl hl (by decide) rfl (fun ls hl => ?_)
        refine lv_aload_n hx hb dX4_keepItem_44 rfl (lv_at hl 1 rfl) ?_
        refine va_get (D := D) (ci := 3) (v := .ref (ad 4)) (C := RX4) (T := TX4) (N := 8) hx hb ht inTB_X4 hown hK hP 1 rfl rfl 1 (by decide) (ht _ tb_29) (fun _ h9 => h9) rfl dX4_keepItem_45 ?_
        refine rv_iconst hx hb dX4_keepItem_48 ?_
        refine rv_iald hx hb hK hP 3 0 rfl rfl 0 rfl (by omega) dX4_keepItem_49 ?_
        refine lv_istore_n (lv' := [(3, .int (iI (nu 0))), (2, .int (iI 0)), (0, .ref (ad 2)), (1, .int (iI ch))]) hx hb dX4_keepItem_50 rfl hl (by decide) rfl (fun ls hl => ?_)
        refine lv_aload_n hx hb dX4_keepItem_51 rfl (lv_at hl 2 rfl) ?_
        refine va_get (D := D) (ci := 3) (v := .ref (ad 4)) (C := RX4) (T := TX4) (N := 8) hx hb ht inTB_X4 hown hK hP 1 rfl rfl 1 (by decide) (ht _ tb_29) (fun _ h9 => h9) rfl dX4_keepItem_52 ?_
        refine rv_iconst hx hb dX4_keepItem_55 ?_
        refine rv_iald hx hb hK hP 3 0 rfl rfl 1 rfl (by omega) dX4_keepItem_56 ?_
        refine lv_istore (lv' := [(4, .int (iI (nu 1))), (3, .int (iI (nu 0))), (2, .int (iI 0)), (0, .ref (ad 2)), (1, .int (iI ch))]) hx hb dX4_keepItem_57 hl (by decide) rfl (fun ls hl => ?_)
        refine lv_aload_n hx hb dX4_keepItem_59 rfl (lv_at hl 3 rfl) ?_
        refine va_get (D := D) (ci := 3) (v := .ref (ad 4)) (C := RX4) (T := TX4) (N := 8) hx hb ht inTB_X4 hown hK hP 1 rfl rfl 1 (by decide) (ht _ tb_29) (fun _ h9 => h9) rfl dX4_keepItem_60 ?_
        refine rv_iconst hx hb dX4_keepItem_63 ?_
        refine rv_iald hx hb hK hP 3 0 rfl rfl 2 rfl (by omega) dX4_keepItem_64 ?_
        refine lv_istore (lv' := [(5, .int (iI (nu 2))), (4, .int (iI (nu 1))), (3, .int (iI (nu 0))), (2, .int (iI 0)), (0, .ref (ad 2)), (1, .int (iI ch))]) hx hb dX4_keepItem_65 hl (by decide) rfl (fun ls hl => ?_)
        refine lv_aload_n hx hb dX4_keepItem_67 rfl (lv_at hl 4 rfl) ?_
        refine va_get (D := D) (ci := 3) (v := .ref (ad 4)) (C := RX4) (T := TX4) (N := 8) hx hb ht inTB_X4 hown hK hP 1 rfl rfl 1 (by decide) (ht _ tb_29) (fun _ h9 => h9) rfl dX4_keepItem_68 ?_
        refine rv_iconst hx hb dX4_keepItem_71 ?_
        refine rv_iald hx hb hK hP 3 0 rfl rfl 3 rfl (by omega) dX4_keepItem_72 ?_
        refine lv_istore (lv' := [(6, .int (iI (nu 3))), (5, .int (iI (nu 2))), (4, .int (iI (nu 1))), (3, .int (iI (nu 0))), (2, .int (iI 0)), (0, .ref (ad 2)), (1, .int (iI ch))]) hx hb dX4_keepItem_73 hl (by decide) rfl (fun ls hl => ?_)
        refine lv_aload_n hx hb dX4_keepItem_75 rfl (lv_at hl 5 rfl) ?_
        refine va_get (D := D) (ci := 3) (v := .int (iI rpc)) (C := RX4) (T := TX4) (N := 8) hx hb ht inTB_X4 hown hK hP 1 rfl rfl 4 (by decide) (ht _ tb_32) (fun _ h9 => h9) rfl dX4_keepItem_76 ?_
        refine rv_if_lt (tgt := 101) hx hb dX4_keepItem_79 (by decide) (by omega) (fun h79 => False.elim (by omega)) (fun h79 => ?_)
        refine lv_aload_n hx hb dX4_keepItem_82 rfl (lv_at hl 5 rfl) ?_
        refine va_get (D := D) (ci := 3) (v := .int (iI rpc)) (C := RX4) (T := TX4) (N := 8) hx hb ht inTB_X4 hown hK hP 1 rfl rfl 4 (by decide) (ht _ tb_32) (fun _ h9 => h9) rfl dX4_keepItem_83 ?_
        refine lv_aload_n hx hb dX4_keepItem_86 rfl (lv_at hl 5 rfl) ?_
        refine va_get (D := D) (ci := 3) (v := .ref (ad 3)) (C := RX4) (T := TX4) (N := 8) hx hb ht inTB_X4 hown hK hP 1 rfl rfl 0 (by decide) (ht _ tb_28) (fun _ h9 => h9) rfl dX4_keepItem_87 ?_
        refine rv_alen hx hb hK hP 2 2 rfl rfl dX4_keepItem_90 ?_
        refine rv_icmp_ge (tgt := 101) hx hb dX4_keepItem_91 (by decide) (by omega) (fun h91 => ?_) (fun h91 => ?_)
        · refine rv_iconst hx hb dX4_keepItem_101 ?_
          refine W.widen (k := 2) (n := 38) (by omega) (by omega) ?_
          subst hQ
          exact W.zret (ty := .boolean) hx hb hr (by decide) (fun t9 ht9 hW9 => ⟨⟨_, _, rfl, rfl, ⟨rpc, run_, rbo, rcw, gp, Or.inr ⟨rfl, (fun q => by rcases q with q | q | q; exact h3 q.1; exact h14 q.1; first | exact hb95 q.2.2.2.1 | omega)⟩, fun q => absurd q (fun q => by rcases q with q | q | q; exact h3 q.1; exact h14 q.1; first | exact hb95 q.2.2.2.1 | omega), by rw [ht9]; exact hP, by rw [hAe]; exact hD⟩⟩, by rw [hAe]; exact hS.F ht9⟩) (by rw [hAe]; exact hS.2.2) dX4_keepItem_102
        · have hpz := (PZ.inS hX0.2 (fun q z => hM q (Mw_rW q z)) hAe hS).no
          refine lv_iload_n hx hb dX4_keepItem_94 rfl (lv_at hl 3 rfl) ?_
          refine vp_callSi (W.runS (As := [.int (iI (nu 0))]) (rest := []) ⟨hx, hb, hml, hown, hts⟩ (c_X0_isPrime l (nu 0) (by omega)) (va_cwS 1 hts (gS tb_272 tb_273 tb_6 tb_274) rfl rfl rfl (by decide +kernel) ⟨Nat.le_of_ble_eq_true rfl, Nat.le_of_ble_eq_true rfl⟩) (preS_of (PZ_stb (fun _ => False)) hpz) rfl rfl hl.1 rfl (lv_room (Nat.le_of_ble_eq_true rfl)) dX4_keepItem_95 ⟨Nat.le_of_ble_eq_true rfl, Nat.le_of_ble_eq_true rfl⟩) (fun r9 hr9 => ?_)
          rcases hr9 with ⟨rfl, hb95⟩ | ⟨rfl, hb95⟩
          · refine rv_if_ne (tgt := 103) hx hb dX4_keepItem_98 (by decide) (by decide) (fun _ => ?_) (fun q => absurd q (by decide))
            have hnb := isPr_bd hb95
            refine lv_iload_n hx hb dX4_keepItem_103 rfl (lv_at hl 4 rfl) ?_
            refine lv_iload_n hx hb dX4_keepItem_104 rfl (lv_at hl 3 rfl) ?_
            refine lv_iload hx hb dX4_keepItem_105 (lv_at hl 2 rfl) ?_
            refine vp_callSi (W.runS (As := [.int (iI 0), .int (iI (nu 0)), .int (iI (nu 1))]) (rest := []) ⟨hx, hb, hml, hown, hts⟩ (c_X1_factorFits l 0 (nu 0) (nu 1) (by omega) hb95 (by omega)) (va_cwS 3 hts (gS tb_277 tb_278 tb_5 tb_279) rfl rfl rfl (by decide +kernel) ⟨Nat.le_of_ble_eq_true rfl, Nat.le_of_ble_eq_true rfl⟩) preS0 rfl rfl hl.1 rfl (lv_room (Nat.le_of_ble_eq_true rfl)) dX4_keepItem_107 ⟨Nat.le_of_ble_eq_true rfl, Nat.le_of_ble_eq_true rfl⟩) (fun r9 hr9 => ?_)
            rcases hr9 with ⟨rfl, hb107⟩ | ⟨rfl, hb107⟩
            · refine rv_if_ne (tgt := 115) hx hb dX4_keepItem_110 (by decide) (by decide) (fun _ => ?_) (fun q => absurd q (by decide))
              refine lv_iload_n hx hb dX4_keepItem_115 rfl (lv_at hl 3 rfl) ?_
              refine lv_iload hx hb dX4_keepItem_116 (lv_at hl 1 rfl) ?_
              refine vp_callSi (W.runS (As := [.int (iI (nu 0)), .int (iI (nu 2))]) (rest := []) ⟨hx, hb, hml, hown, hts⟩ (c_X1_offsetFits l (nu 0) (nu 2) (by omega) (by omega)) (va_cwS 2 hts (gS tb_283 tb_284 tb_5 tb_285) rfl rfl rfl (by decide +kernel) ⟨Nat.le_of_ble_eq_true rfl, Nat.le_of_ble_eq_true rfl⟩) preS0 rfl rfl hl.1 rfl (lv_room (Nat.le_of_ble_eq_true rfl)) dX4_keepItem_118 ⟨Nat.le_of_ble_eq_true rfl, Nat.le_of_ble_eq_true rfl⟩) (fun r9 hr9 => ?_)
              rcases hr9 with ⟨rfl, hb118⟩ | ⟨rfl, hb118⟩
              · refine rv_if_eq (tgt := 132) hx hb dX4_keepItem_121 (by decide) (by decide) (fun q => absurd q (by decide)) (fun _ => ?_)
                refine lv_iload hx hb dX4_keepItem_124 (lv_at hl 0 rfl) ?_
                refine vp_callSi (W.runS (As := [.int (iI (nu 3))]) (rest := []) ⟨hx, hb, hml, hown, hts⟩ (c_X1_wellsFit l (nu 3) (by omega)) (va_cwS 1 hts (gS tb_286 tb_287 tb_5 tb_288) rfl rfl rfl (by decide +kernel) ⟨Nat.le_of_ble_eq_true rfl, Nat.le_of_ble_eq_true rfl⟩) preS0 rfl rfl hl.1 rfl (lv_room (Nat.le_of_ble_eq_true rfl)) dX4_keepItem_126 ⟨Nat.le_of_ble_eq_true rfl, Nat.le_of_ble_eq_true rfl⟩) (fun r9 hr9 => ?_)
                rcases hr9 with ⟨rfl, hb126⟩ | ⟨rfl, hb126⟩
                · refine rv_if_ne (tgt := 134) hx hb dX4_keepItem_129 (by decide) (by decide) (fun _ => ?_) (fun q => absurd q (by decide))
                  refine lv_aload_n hx hb dX4_keepItem_134 rfl (lv_at hl 5 rfl) ?_
                  refine va_get (D := D) (ci := 3) (v := .ref (ad 3)) (C := RX4) (T := TX4) (N := 8) hx hb ht inTB_X4 hown hK hP 1 rfl rfl 0 (by decide) (ht _ tb_28) (fun _ h9 => h9) rfl dX4_keepItem_135 ?_
                  refine lv_aload_n hx hb dX4_keepItem_138 rfl (lv_at hl 5 rfl) ?_
                  refine va_get (D := D) (ci := 3) (v := .int (iI rpc)) (C := RX4) (T := TX4) (N := 8) hx hb ht inTB_X4 hown hK hP 1 rfl rfl 4 (by decide) (ht _ tb_32) (fun _ h9 => h9) rfl dX4_keepItem_139 ?_
                  refine va_new (ci := 0) (fs := [.int (iI 0), .int (iI 0), .int (iI 0), .int (iI 0), .int (iI 0), .int (iI 0), .null]) (C := RX1) (T := TX1) (N := 7) hx hb ht inTB_X1 tyX1 tyX1_ok hown (ht _ tb_26) (ht _ tb_127) (ht _ tb_5) hK hP hD hS hA rfl (fun j hj => by rcases (show j = 0 ∨ j = 1 ∨ j = 2 ∨ j = 3 ∨ j = 4 ∨ j = 5 ∨ j = 6 by omega) with rfl | rfl | rfl | rfl | rfl | rfl | rfl <;> rfl) (Nat.le_of_ble_eq_true rfl) (Nat.le_of_ble_eq_true rfl) dX4_keepItem_142 (fun q142 H hP hD hS => ?_)
                  have hP : va_P D classes (rW1 cs ad rlen rpc run_ rbo rcw tx gp nu ++ [(q142, .inr (0, [.int (iI 0), .int (iI 0), .int (iI 0), .int (iI 0), .int (iI 0), .int (iI 0), .null]))]) H := hP
                  have hD : va_D A (rW1 cs ad rlen rpc run_ rbo rcw tx gp nu ++ [(q142, .inr (0, [.int (iI 0), .int (iI 0), .int (iI 0), .int (iI 0), .int (iI 0), .int (iI 0), .null]))]) := hD
                  refine lv_dup hx hb dX4_keepItem_145 rfl ?_
                  refine lv_iload_n hx hb dX4_keepItem_146 rfl (lv_at hl 4 rfl) ?_
                  refine lv_iload_n hx hb dX4_keepItem_147 rfl (lv_at hl 3 rfl) ?_
                  refine lv_iload hx hb dX4_keepItem_148 (lv_at hl 2 rfl) ?_
                  refine lv_iload hx hb dX4_keepItem_150 (lv_at hl 1 rfl) ?_
                  refine lv_iload hx hb dX4_keepItem_152 (lv_at hl 0 rfl) ?_
                  have hFc := va_free (wc := [(q142, .inr (0, [.int (iI 0), .int (iI 0), .int (iI 0), .int (iI 0), .int (iI 0), .int (iI 0), .null]))]) hD hS hA [4] rfl
                  have hPc := hP.sub (ws' := [(q142, .inr (0, [.int (iI 0), .int (iI 0), .int (iI 0), .int (iI 0), .int (iI 0), .int (iI 0), .null]))]) [4] rfl
                  have hDc := hD.sub (ws' := [(q142, .inr (0, [.int (iI 0), .int (iI 0), .int (iI 0), .int (iI 0), .int (iI 0), .int (iI 0), .null]))]) [4] (by decide) rfl
                  refine va_callv (va_runI (As := [.int (iI 0), .int (iI (nu 0)), .int (iI (nu 1)), .int (iI (nu 2)), .int (iI (nu 3))]) (rest := [.ref q142, .int (iI rpc), .ref (ad 3)]) ⟨hx, hb, hml, hown, hts⟩ (c_X1_init l D cs H.size q142 0 (nu 0) (nu 1) (nu 2) (nu 3) (by omega) hb95 hb107) (cwI 5 hts (gTB tb_130) rfl rfl rfl (ht _ tb_5) (ht _ tb_289) (ht _ tb_129) rfl (by decide +kernel) ⟨Nat.le_of_ble_eq_true rfl, Nat.le_of_ble_eq_true rfl⟩) (preS_M (X := fun _ _ => True) Stb_T hK hPc hDc trivial) rfl rfl hl.1 rfl (lv_room (Nat.le_of_ble_eq_true rfl)) dX4_keepItem_154 ⟨Nat.le_of_ble_eq_true rfl, Nat.le_of_ble_eq_true rfl⟩) hS (fun q _ h => hFc q h) hFc (fun u9 t9 H9 locs ht9 hvm9 hw9 hB9 hz9 hk9 hS => ?_)
                  obtain ⟨rr_154, row_154, hf154_0, hP1, hD1⟩ := hB9
                  rw [ht9] at hP1
                  obtain ⟨hPj, hDj⟩ := va_join (wr := [_, _, _, _]) hP hD [4] [0, 1, 2, 3] rfl rfl (by decide) (by decide) hk9 hFc hP1 hD1
                  generalize H9 = H at *
                  have hP : va_P D classes (rW1 cs ad rlen rpc run_ rbo rcw tx gp nu ++ [(q142, .inr (0, [.int (iI (0 : Int)), .int (iI (nu 0)), .int (iI (nu 1)), .int (iI (nu 2)), .int (iI (nu 3)), .int (iI (per (0 : Int) (nu 0))), .ref rr_154])), (rr_154, iaC cs 31 row_154)]) H := hPj
                  have hD : va_D A (rW1 cs ad rlen rpc run_ rbo rcw tx gp nu ++ [(q142, .inr (0, [.int (iI (0 : Int)), .int (iI (nu 0)), .int (iI (nu 1)), .int (iI (nu 2)), .int (iI (nu 3)), .int (iI (per (0 : Int) (nu 0))), .ref rr_154])), (rr_154, iaC cs 31 row_154)]) := hDj
                  refine rv_aast hx hb hK hP hD hS 2 2 rfl rfl (any_of (r := (RX1, TX1, 7)) hK rfl (hP 4 _ rfl)) rpc.toNat (by omega) (by omega) dX4_keepItem_157 (fun H locs hP hD hS => ?_)
                  have hP : va_P D classes (rW1 cs ad rlen rpc run_ rbo rcw tx (va_up gp rpc.toNat (some q142)) nu ++ [(q142, .inr (0, [.int (iI (0 : Int)), .int (iI (nu 0)), .int (iI (nu 1)), .int (iI (nu 2)), .int (iI (nu 3)), .int (iI (per (0 : Int) (nu 0))), .ref rr_154])), (rr_154, iaC cs 31 row_154)]) H := hP
                  have hD : va_D A (rW1 cs ad rlen rpc run_ rbo rcw tx (va_up gp rpc.toNat (some q142)) nu ++ [(q142, .inr (0, [.int (iI (0 : Int)), .int (iI (nu 0)), .int (iI (nu 1)), .int (iI (nu 2)), .int (iI (nu 3)), .int (iI (per (0 : Int) (nu 0))), .ref rr_154])), (rr_154, iaC cs 31 row_154)]) := hD
                  refine lv_aload_n hx hb dX4_keepItem_158 rfl (lv_at hl 5 rfl) ?_
                  refine lv_dup hx hb dX4_keepItem_159 rfl ?_
                  refine va_get (D := D) (ci := 3) (v := .int (iI rpc)) (C := RX4) (T := TX4) (N := 8) hx hb ht inTB_X4 hown hK hP 1 rfl rfl 4 (by decide) (ht _ tb_32) (fun _ h9 => h9) rfl dX4_keepItem_160 ?_
                  refine rv_iconst hx hb dX4_keepItem_163 ?_
                  refine rv_iadd hx hb dX4_keepItem_164 ?_
                  refine va_put (D := D) (ci := 3) (v := .int (iI (rpc + 1))) (ty := tyX4 4) (C := RX4) (T := TX4) (N := 8) hx hb ht inTB_X4 tyX4 tyX4_ok nmX4 hown hK hP hD hS 1 rfl rfl 4 (by decide) (ht _ tb_32) (fun _ h9 => h9) rfl (tyX4_ok 4 (by decide)) rfl rfl (Nat.le_of_ble_eq_true rfl) dX4_keepItem_165 (fun H locs hP hD hS => ?_)
                  have hP : va_P D classes (rW1 cs ad rlen (rpc + 1) run_ rbo rcw tx (va_up gp rpc.toNat (some q142)) nu ++ [(q142, .inr (0, [.int (iI (0 : Int)), .int (iI (nu 0)), .int (iI (nu 1)), .int (iI (nu 2)), .int (iI (nu 3)), .int (iI (per (0 : Int) (nu 0))), .ref rr_154])), (rr_154, iaC cs 31 row_154)]) H := hP
                  have hD : va_D A (rW1 cs ad rlen (rpc + 1) run_ rbo rcw tx (va_up gp rpc.toNat (some q142)) nu ++ [(q142, .inr (0, [.int (iI (0 : Int)), .int (iI (nu 0)), .int (iI (nu 1)), .int (iI (nu 2)), .int (iI (nu 3)), .int (iI (per (0 : Int) (nu 0))), .ref rr_154])), (rr_154, iaC cs 31 row_154)]) := hD
                  refine rv_iconst hx hb dX4_keepItem_168 ?_
                  subst hQ
                  exact W.zret (ty := .boolean) hx hb hr (by decide) (fun t9 ht9 hW9 => ⟨⟨_, _, rfl, rfl, ⟨(rpc + 1), run_, rbo, rcw, (va_up gp rpc.toNat (some q142)), Or.inl ⟨rfl, Or.inr (Or.inr ⟨h3, h14, by omega, hb95, by rw [hkd]; exact hb107, hb118, hb126⟩)⟩, fun q => by rw [ht9]; obtain ⟨z0, z1, z2, z3, z4, z5⟩ := RdS.inS hX0.1.2 (fun q z => hM q (Mw_rW q z)) hAe hS; have hb4 : 0 ≤ v 20 ∧ v 20 < 4 := ⟨z0.1.1, by omega⟩; have hvp : vP (kdItem ch) (nu 0) (nu 1) (nu 2) (nu 3) := ⟨kd_bd ch, hb95, by rw [hkd]; exact hb107, hb118, hb126⟩; rw [kpV, cF_neg h3, cF_neg h14]; refine ⟨vL_set z0 hb4.2 hvp, by rw [setP_20 hb4, z1], by rw [setP_hi hb4 (by decide)]; exact z2, by rw [setP_hi hb4 (by decide)]; exact z3, by rw [setP_hi hb4 (by decide)]; exact z4, fun q hq => ?_⟩; rw [setP_20 hb4] at hq; rcases (show (q : Int) < v 20 ∨ q = (v 20).toNat by omega) with y | y; (rw [va_up_n (by omega)]; have e0 := setP_lo (k := kdItem ch) (n := nu 0) (f := nu 1) (o := nu 2) (w := nu 3) (j := 0) hb4 y (by decide); rw [Nat.add_zero] at e0; rw [e0, setP_lo hb4 y (by decide), setP_lo hb4 y (by decide), setP_lo hb4 y (by decide), setP_lo hb4 y (by decide)]; exact z5 q y); (subst y; obtain ⟨a0, a1, a2, a3, a4⟩ := setP_at (k := kdItem ch) (n := nu 0) (f := nu 1) (o := nu 2) (w := nu 3) hb4; rw [a0, a1, a2, a3, a4]; refine ⟨q142, by rw [show rpc.toNat = (v 20).toNat by omega, va_up_s], hvp, rr_154, row_154, ?_, newM2 (i := 4) hAe hX0.1.1 hD rfl rfl (Nat.le_of_ble_eq_true rfl), newM2 (i := 5) hAe hX0.1.1 hD rfl rfl (Nat.le_of_ble_eq_true rfl), (by rw [hkd]; exact hf154_0)⟩; rw [hkd]; exact hP.sub [4, 5] rfl), by rw [ht9]; exact hP.sub [0, 1, 2, 3] rfl, by rw [hAe]; exact hD.sub [0, 1, 2, 3] (by decide) rfl⟩⟩, by rw [hAe]; exact hS.F ht9⟩) (by rw [hAe]; exact hS.2.2) dX4_keepItem_169
                · refine rv_if_ne (tgt := 134) hx hb dX4_keepItem_129 (by decide) (by decide) (fun q => absurd q (by decide)) (fun _ => ?_)
                  refine rv_iconst hx hb dX4_keepItem_132 ?_
                  refine W.widen (k := 2) (n := 38) (by omega) (by omega) ?_
                  subst hQ
                  exact W.zret (ty := .boolean) hx hb hr (by decide) (fun t9 ht9 hW9 => ⟨⟨_, _, rfl, rfl, ⟨rpc, run_, rbo, rcw, gp, Or.inr ⟨rfl, (fun q => by rcases q with q | q | q; exact h3 q.1; exact h14 q.1; first | exact hb118 q.2.2.2.2.2.1 | exact hb126 q.2.2.2.2.2.2)⟩, fun q => absurd q (fun q => by rcases q with q | q | q; exact h3 q.1; exact h14 q.1; first | exact hb118 q.2.2.2.2.2.1 | exact hb126 q.2.2.2.2.2.2), by rw [ht9]; exact hP, by rw [hAe]; exact hD⟩⟩, by rw [hAe]; exact hS.F ht9⟩) (by rw [hAe]; exact hS.2.2) dX4_keepItem_133
              · refine rv_if_eq (tgt := 132) hx hb dX4_keepItem_121 (by decide) (by decide) (fun _ => ?_) (fun q => absurd q (by decide))
                refine rv_iconst hx hb dX4_keepItem_132 ?_
                refine W.widen (k := 2) (n := 38) (by omega) (by omega) ?_
                subst hQ
                exact W.zret (ty := .boolean) hx hb hr (by decide) (fun t9 ht9 hW9 => ⟨⟨_, _, rfl, rfl, ⟨rpc, run_, rbo, rcw, gp, Or.inr ⟨rfl, (fun q => by rcases q with q | q | q; exact h3 q.1; exact h14 q.1; first | exact hb118 q.2.2.2.2.2.1 | exact hb126 q.2.2.2.2.2.2)⟩, fun q => absurd q (fun q => by rcases q with q | q | q; exact h3 q.1; exact h14 q.1; first | exact hb118 q.2.2.2.2.2.1 | exact hb126 q.2.2.2.2.2.2), by rw [ht9]; exact hP, by rw [hAe]; exact hD⟩⟩, by rw [hAe]; exact hS.F ht9⟩) (by rw [hAe]; exact hS.2.2) dX4_keepItem_133
            · refine rv_if_ne (tgt := 115) hx hb dX4_keepItem_110 (by decide) (by decide) (fun q => absurd q (by decide)) (fun _ => ?_)
              refine rv_iconst hx hb dX4_keepItem_113 ?_
              refine W.widen (k := 2) (n := 38) (by omega) (by omega) ?_
              subst hQ
              exact W.zret (ty := .boolean) hx hb hr (by decide) (fun t9 ht9 hW9 => ⟨⟨_, _, rfl, rfl, ⟨rpc, run_, rbo, rcw, gp, Or.inr ⟨rfl, (fun q => by rcases q with q | q | q; exact h3 q.1; exact h14 q.1; (rw [hkd] at q; exact hb107 q.2.2.2.2.1))⟩, fun q => absurd q (fun q => by rcases q with q | q | q; exact h3 q.1; exact h14 q.1; (rw [hkd] at q; exact hb107 q.2.2.2.2.1)), by rw [ht9]; exact hP, by rw [hAe]; exact hD⟩⟩, by rw [hAe]; exact hS.F ht9⟩) (by rw [hAe]; exact hS.2.2) dX4_keepItem_114
          · refine rv_if_ne (tgt := 103) hx hb dX4_keepItem_98 (by decide) (by decide) (fun q => absurd q (by decide)) (fun _ => ?_)
            refine rv_iconst hx hb dX4_keepItem_101 ?_
            refine W.widen (k := 2) (n := 38) (by omega) (by omega) ?_
            subst hQ
            exact W.zret (ty := .boolean) hx hb hr (by decide) (fun t9 ht9 hW9 => ⟨⟨_, _, rfl, rfl, ⟨rpc, run_, rbo, rcw, gp, Or.inr ⟨rfl, (fun q => by rcases q with q | q | q; exact h3 q.1; exact h14 q.1; first | exact hb95 q.2.2.2.1 | omega)⟩, fun q => absurd q (fun q => by rcases q with q | q | q; exact h3 q.1; exact h14 q.1; first | exact hb95 q.2.2.2.1 | omega), by rw [ht9]; exact hP, by rw [hAe]; exact hD⟩⟩, by rw [hAe]; exact hS.F ht9⟩) (by rw [hAe]; exact hS.2.2) dX4_keepItem_102
    · refine lv_aload_n hx hb dX4_keepItem_17 rfl (lv_at hl 0 rfl) ?_
      have hFc := va_free (wc := (rW1 cs ad rlen rpc run_ rbo rcw tx gp nu)) hD hS hA [0, 1, 2, 3] rfl
      refine va_calli (va_runV (As := []) (rest := []) ⟨hx, hb, hml, hown, hts⟩ (c_X4_keepBoard l D cs ad H.size rlen rpc run_ rbo rcw tx gp nu hnu) (cwV 0 hts (gV tb_268 tb_270 tbs_7 tb_2 tb_271) rfl rfl rfl (by decide +kernel) ⟨Nat.le_of_ble_eq_true rfl, Nat.le_of_ble_eq_true rfl⟩) (preV_M (X := fun _ _ => True) Stb_T hK (va_recv hK hP (ci := 3) (q0 := 1) rfl rfl) hP hD trivial) rfl rfl hl.1 rfl (lv_room (Nat.le_of_ble_eq_true rfl)) dX4_keepItem_18 ⟨Nat.le_of_ble_eq_true rfl, Nat.le_of_ble_eq_true rfl⟩) hS (fun q _ h => hFc q h) hFc (fun r9 u9 t9 H9 locs ht9 hvm9 hw9 hB9 hz9 hk9 hS => ?_)
      obtain rfl := hw9
      obtain ⟨rbo2_18, rcw2_18, hf18_0, hf18_1, hP1, hD1⟩ := hB9
      rw [ht9] at hP1
      have hP := hP1
      have hD := hD1.weaken (fun _ _ _ h => hFc _ h)
      generalize H9 = H at hP hS hz9 hk9 ht9 ⊢
      have hP : va_P D classes (rW1 cs ad rlen rpc run_ rbo2_18 rcw2_18 tx gp nu) H := hP
      have hD : va_D A (rW1 cs ad rlen rpc run_ rbo2_18 rcw2_18 tx gp nu) := hD
      rcases hf18_0 with ⟨rfl, hb18⟩ | ⟨rfl, hb18⟩
      · refine W.widen (k := 2) (n := 38) (by omega) (by omega) ?_
        subst hQ
        exact W.zret (ty := .boolean) hx hb hr (by decide) (fun t9 ht9 hW9 => ⟨⟨_, _, rfl, rfl, ⟨rpc, run_, rbo2_18, rcw2_18, gp, Or.inl ⟨rfl, Or.inr (Or.inl ⟨h14, hb18⟩)⟩, fun q => by rw [ht9]; obtain ⟨z0, z1, z2, z3, z4, z5⟩ := RdS.inS hX0.1.2 (fun q z => hM q (Mw_rW q z)) hAe hS; rw [kpV, cF_neg h3, cF_pos h14]; exact ⟨vL_tell (vL_tell z0 hb18.1 22 rfl) hb18.2 23 rfl, by rw [upI_n (by decide), upI_n (by decide)]; exact z1, by rw [upI_n (by decide), upI_n (by decide)]; exact z2, by rw [upI_n (by decide), upI_s]; exact (hf18_1 hb18).1, by rw [upI_s]; exact (hf18_1 hb18).2, fun q hq => by rw [upI_n (by decide), upI_n (by decide)] at hq; rw [upI_n (by omega), upI_n (by omega), upI_n (by omega), upI_n (by omega), upI_n (by omega), upI_n (by omega), upI_n (by omega), upI_n (by omega), upI_n (by omega), upI_n (by omega)]; exact z5 q hq⟩, by rw [ht9]; exact hP, by rw [hAe]; exact hD⟩⟩, by rw [hAe]; exact hS.F ht9⟩) (by rw [hAe]; exact hS.2.2) dX4_keepItem_21
      · refine W.widen (k := 2) (n := 38) (by omega) (by omega) ?_
        subst hQ
        exact W.zret (ty := .boolean) hx hb hr (by decide) (fun t9 ht9 hW9 => ⟨⟨_, _, rfl, rfl, ⟨rpc, run_, rbo2_18, rcw2_18, gp, Or.inr ⟨rfl, (fun q => by rcases q with q | q | q; exact h3 q.1; exact hb18 q.2; exact q.2.1 h14)⟩, fun q => absurd q (fun q => by rcases q with q | q | q; exact h3 q.1; exact hb18 q.2; exact q.2.1 h14), by rw [ht9]; exact hP, by rw [hAe]; exact hD⟩⟩, by rw [hAe]; exact hS.F ht9⟩) (by rw [hAe]; exact hS.2.2) dX4_keepItem_21
  · refine lv_aload_n hx hb dX4_keepItem_6 rfl (lv_at hl 0 rfl) ?_
    have hFc := va_free (wc := (rW1 cs ad rlen rpc run_ rbo rcw tx gp nu)) hD hS hA [0, 1, 2, 3] rfl
    refine va_calli (va_runV (As := []) (rest := []) ⟨hx, hb, hml, hown, hts⟩ (c_X4_keepUnit l D cs ad H.size rlen rpc run_ rbo rcw tx gp nu hnu) (cwV 0 hts (gV tb_261 tb_263 tbs_6 tb_2 tb_264) rfl rfl rfl (by decide +kernel) ⟨Nat.le_of_ble_eq_true rfl, Nat.le_of_ble_eq_true rfl⟩) (preV_M (X := fun _ _ => True) Stb_T hK (va_recv hK hP (ci := 3) (q0 := 1) rfl rfl) hP hD trivial) rfl rfl hl.1 rfl (lv_room (Nat.le_of_ble_eq_true rfl)) dX4_keepItem_7 ⟨Nat.le_of_ble_eq_true rfl, Nat.le_of_ble_eq_true rfl⟩) hS (fun q _ h => hFc q h) hFc (fun r9 u9 t9 H9 locs ht9 hvm9 hw9 hB9 hz9 hk9 hS => ?_)
    obtain rfl := hw9
    obtain ⟨run2_7, hf7_0, hf7_1, hP1, hD1⟩ := hB9
    rw [ht9] at hP1
    have hP := hP1
    have hD := hD1.weaken (fun _ _ _ h => hFc _ h)
    generalize H9 = H at hP hS hz9 hk9 ht9 ⊢
    have hP : va_P D classes (rW1 cs ad rlen rpc run2_7 rbo rcw tx gp nu) H := hP
    have hD : va_D A (rW1 cs ad rlen rpc run2_7 rbo rcw tx gp nu) := hD
    rcases hf7_0 with ⟨rfl, hb7⟩ | ⟨rfl, hb7⟩
    · refine W.widen (k := 2) (n := 38) (by omega) (by omega) ?_
      subst hQ
      exact W.zret (ty := .boolean) hx hb hr (by decide) (fun t9 ht9 hW9 => ⟨⟨_, _, rfl, rfl, ⟨rpc, run2_7, rbo, rcw, gp, Or.inl ⟨rfl, Or.inl ⟨h3, hb7⟩⟩, fun q => by rw [ht9]; obtain ⟨z0, z1, z2, z3, z4, z5⟩ := RdS.inS hX0.1.2 (fun q z => hM q (Mw_rW q z)) hAe hS; rw [kpV, cF_pos h3]; exact ⟨vL_tell z0 hb7 21 rfl, by rw [upI_n (by decide)]; exact z1, by rw [upI_s]; exact hf7_1 hb7, by rw [upI_n (by decide)]; exact z3, by rw [upI_n (by decide)]; exact z4, fun q hq => by rw [upI_n (by decide)] at hq; rw [upI_n (by omega), upI_n (by omega), upI_n (by omega), upI_n (by omega), upI_n (by omega)]; exact z5 q hq⟩, by rw [ht9]; exact hP, by rw [hAe]; exact hD⟩⟩, by rw [hAe]; exact hS.F ht9⟩) (by rw [hAe]; exact hS.2.2) dX4_keepItem_10
    · refine W.widen (k := 2) (n := 38) (by omega) (by omega) ?_
      subst hQ
      exact W.zret (ty := .boolean) hx hb hr (by decide) (fun t9 ht9 hW9 => ⟨⟨_, _, rfl, rfl, ⟨rpc, run2_7, rbo, rcw, gp, Or.inr ⟨rfl, (fun q => by rcases q with q | q | q; exact hb7 q.2; omega; exact q.1 h3)⟩, fun q => absurd q (fun q => by rcases q with q | q | q; exact hb7 q.2; omega; exact q.1 h3), by rw [ht9]; exact hP, by rw [hAe]; exact hD⟩⟩, by rw [hAe]; exact hS.F ht9⟩) (by rw [hAe]; exact hS.2.2) dX4_keepItem_10

