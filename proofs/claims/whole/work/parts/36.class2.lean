/-! the class: what it is asked -/

abbrev rm_X6_undo : Room := { frames := 1, cells := 0, slots := 0, locals := 21 }
set_option maxHeartbeats 8000000 in
set_option maxRecDepth 100000 in
/-- undo -/
theorem c_X6_undo (l : Launch) (D : va_G) (cs : Nat → ClassId) (ad : Nat → Nat) (sz : Nat) (len : Int) (pl : Nat) (rlen : Int) (rpc : Int) (run_ : Int) (rbo : Int) (rcw : Int) (rt : Value) (tx : Nat → Int) (gp : Nat → Option Nat) (nu : Nat → Int) (kept : Int) (gq : Nat → Option Nat) (swl : Int) (sun : Int) (sbo : Int) (scw : Int) (bo : Int) (cu : Int) (lo : Int) (wh : Int) (dps : Nat → Int) (alk : Nat → Int) (bof : Nat → Int) (us : Nat → Int) (bl : Nat → Int) (lg : Nat → Int) (M : Nat → Prop) (v : Nat → Int) (bf : Nat → Int) (hM : ∀ q, inAd ad 0 14 q → M q) (hkp : 0 ≤ kept ∧ kept ≤ 6) (hlen : 0 ≤ len ∧ len ≤ 200) : Met l yX6_undo (Cond.code yX6_undo cX6_undo 2 (some .int) :: TB) rm_X6_undo (va_Pc [.ref (ad 0)] (MPre D cs sz (xW cs ad len pl rlen rpc run_ rbo rcw rt tx gp nu kept gq swl sun sbo scw bo cu lo wh dps alk bof us bl lg) (fun U H => XI D cs M pl v kept gq bf U H))) (va_Qi (fun (r u : Int32) => r = u) (fun r t => ∃ (pl2 : Nat) (kept2 : Int) (gq2 : Nat → Option Nat), (r = iI (cif (kept = 0) (-2) (kept - 1))) ∧ (∀ (v2 : Nat → Int), (kept = 0 → v2 = v) → (¬ kept = 0 → ∀ j : Nat, j < 24 → v2 j = bf (24 * (kept - 1).toNat + j)) → XK D cs M t.heap pl2 kept2 gq2 v2 (cif (kept = 0) 0 (kept - 1)) bf) ∧ va_P D classes (xW cs ad len pl2 rlen rpc run_ rbo rcw rt tx gp nu kept2 gq2 swl sun sbo scw bo cu lo wh dps alk bof us bl lg) t.heap ∧ va_D (va_A (xW cs ad len pl rlen rpc run_ rbo rcw rt tx gp nu kept gq swl sun sbo scw bo cu lo wh dps alk bof us bl lg) sz) (xW cs ad len pl2 rlen rpc run_ rbo rcw rt tx gp nu kept2 gq2 swl sun sbo scw bo cu lo wh dps alk bof us bl lg)) (va_A (xW cs ad len pl rlen rpc run_ rbo rcw rt tx gp nu kept gq swl sun sbo scw bo cu lo wh dps alk bof us bl lg) sz)) 0 0 (va_A (xW cs ad len pl rlen rpc run_ rbo rcw rt tx gp nu kept gq swl sun sbo scw bo cu lo wh dps alk bof us bl lg) sz) := by
  refine enter (cc := cX6_undo) (maxL := 2) (ret := (some .int)) (by decide) (Nat.le_of_ble_eq_true rfl) ?_
  intro pg ev s m below meth c Q ls hx hb hml hown hts hr hlocks hnm ⟨hsz, hP, hD0, hK, hX0⟩ hl hQ
  have ht : ∀ w ∈ TB, w.before _ s = true := fun w h => hts w (List.mem_cons_of_mem _ h)
  subst hsz
  have hD := hD0.self (sz := s.heap.size)
  obtain ⟨A, hAe⟩ : ∃ A, va_A (xW cs ad len pl rlen rpc run_ rbo rcw rt tx gp nu kept gq swl sun sbo scw bo cu lo wh dps alk bof us bl lg) s.heap.size = A := ⟨_, rfl⟩
  rw [hAe] at hD
  have hA : ∀ q : Nat, s.heap.size ≤ q → A q := fun q h => by rw [← hAe]; exact Or.inr h
  obtain ⟨H, hH⟩ : ∃ H, H = s.heap := ⟨_, rfl⟩
  obtain ⟨locs, hlocs⟩ : ∃ locs : List Loc, locs = [] := ⟨_, rfl⟩
  have hS : va_S A s.heap H locs := by rw [hH, hlocs]; exact va_S.rf
  rw [← hH] at hP
  suffices hgo : W pg l ev rm_X6_undo s m [.ref (ad 0)].toArray below meth c H locs 0 0 Q (F0 m 0 ls []) by rw [hH, hlocs] at hgo; exact hgo
  have hl : lv_has ls 2 [(0, .ref (ad 0))] := hl
  have hXI := XI.inS hX0 (fun q z => hM q (Mw_xW q z)) hAe (show va_S A s.heap H locs from hS)
  have hvL := hX0.1.2.1.1
  obtain ⟨hv20, hv21, hv22, hv23, hvp⟩ := id hvL
  obtain ⟨arr, g, hG0⟩ := hX0.1.2.1.g
  refine lv_aload_n hx hb dX6_undo_0 rfl (lv_at hl 0 rfl) ?_
  refine va_get (D := D) (ci := 5) (v := .ref (ad 5)) (C := RX6) (T := TX6) (N := 6) hx hb ht inTB_X6 hown hK hP 0 rfl rfl 2 (by decide) (ht _ tb_201) (fun _ h9 => h9) rfl dX6_undo_1 ?_
  have hFc := va_free (wc := (pW cs ad kept gq)) hD hS hA [5, 6] rfl
  have hPc := hP.sub (ws' := (pW cs ad kept gq)) [5, 6] rfl
  have hDc := hD.sub (ws' := (pW cs ad kept gq)) [5, 6] (by decide) rfl
  refine va_callq (va_runV (As := []) (rest := []) ⟨hx, hb, hml, hown, hts⟩ (c_X2_takeLatest l D cs ad H.size kept gq (by omega) (fun i hi => by obtain ⟨y, e, -⟩ := hXI.1.2.2 i hi; exact ⟨y, e⟩)) (cwV 0 hts (gV tb_382 tb_383 tb_384 tb_3 tb_385) rfl rfl rfl (by decide +kernel) ⟨Nat.le_of_ble_eq_true rfl, Nat.le_of_ble_eq_true rfl⟩) (preV_M (X := fun _ _ => True) Stb_T hK (va_recv hK hPc (ci := 1) (q0 := 0) rfl rfl) hPc hDc trivial) rfl rfl hl.1 rfl (lv_room (Nat.le_of_ble_eq_true rfl)) dX6_undo_4 ⟨Nat.le_of_ble_eq_true rfl, Nat.le_of_ble_eq_true rfl⟩) hS (fun q _ h => hFc q h) hFc (fun r9 u9 t9 H9 locs ht9 hvm9 hw9 hB9 hz9 hk9 hS => ?_)
  obtain rfl := hw9
  obtain ⟨kept2_4, gq2_4, hf4_0, hf4_1, hf4_2, hP1, hD1⟩ := hB9
  rw [ht9] at hP1
  obtain ⟨hPj, hDj⟩ := va_join (wr := [_, _, _, _, _, _, _, _, _, _, _, _]) hP hD [5, 6] [0, 1, 2, 3, 4, 7, 8, 9, 10, 11, 12, 13] rfl rfl (by decide) (by decide) hk9 hFc hP1 hD1
  generalize H9 = H at *
  have hP : va_P D classes (xW cs ad len pl rlen rpc run_ rbo rcw rt tx gp nu kept2_4 gq2_4 swl sun sbo scw bo cu lo wh dps alk bof us bl lg) H := hPj.sub [0, 1, 2, 3, 4, 12, 13, 5, 6, 7, 8, 9, 10, 11] rfl
  have hD : va_D A (xW cs ad len pl rlen rpc run_ rbo rcw rt tx gp nu kept2_4 gq2_4 swl sun sbo scw bo cu lo wh dps alk bof us bl lg) := hDj.sub [0, 1, 2, 3, 4, 12, 13, 5, 6, 7, 8, 9, 10, 11] (by decide) rfl
  by_cases hk1 : 1 ≤ kept
  · obtain ⟨y, hy, -⟩ := hX0.1.2.2 (kept - 1).toNat (by omega)
    rw [cF_pos hk1, hy] at hf4_0
    subst hf4_0
    refine W.eq (g2 := F0 m 7 ls [.ref y]) rfl ?_
    refine lv_astore_n (lv' := [(1, .ref y), (0, .ref (ad 0))]) hx hb dX6_undo_7 rfl hl (by decide) rfl (fun ls hl => ?_)
    refine lv_aload_n hx hb dX6_undo_8 rfl (lv_at hl 0 rfl) ?_
    refine lv_ifnonnull (tgt := 15) hx hb dX6_undo_9 (by decide) ?_
    refine lv_aload_n hx hb dX6_undo_15 rfl (lv_at hl 1 rfl) ?_
    refine lv_aload_n hx hb dX6_undo_16 rfl (lv_at hl 0 rfl) ?_
    refine va_put (D := D) (ci := 5) (v := .ref y) (ty := tyX6 5) (C := RX6) (T := TX6) (N := 6) hx hb ht inTB_X6 tyX6 tyX6_ok nmX6 hown hK hP hD hS 0 rfl rfl 5 (by decide) (ht _ tb_204) (fun _ h9 => h9) rfl (tyX6_ok 5 (by decide)) rfl rfl (Nat.le_of_ble_eq_true rfl) dX6_undo_17 (fun H locs hP hD hS => ?_)
    have hP : va_P D classes (xW cs ad len y rlen rpc run_ rbo rcw rt tx gp nu kept2_4 gq2_4 swl sun sbo scw bo cu lo wh dps alk bof us bl lg) H := hP
    have hD : va_D A (xW cs ad len y rlen rpc run_ rbo rcw rt tx gp nu kept2_4 gq2_4 swl sun sbo scw bo cu lo wh dps alk bof us bl lg) := hD
    refine lv_aload_n hx hb dX6_undo_20 rfl (lv_at hl 1 rfl) ?_
    refine va_get (D := D) (ci := 5) (v := .ref (ad 5)) (C := RX6) (T := TX6) (N := 6) hx hb ht inTB_X6 hown hK hP 0 rfl rfl 2 (by decide) (ht _ tb_201) (fun _ h9 => h9) rfl dX6_undo_21 ?_
    refine va_get (D := D) (ci := 1) (v := .int (iI kept2_4)) (C := RX2) (T := TX2) (N := 2) hx hb ht inTB_X2 hown hK hP 5 rfl rfl 1 (by decide) (ht _ tb_65) (fun _ h9 => h9) rfl dX6_undo_24 ?_
    have hXI := XI.inS hX0 (fun q z => hM q (Mw_xW q z)) hAe hS
    subst hQ
    exact W.iret hx hb hr (fun t9 ht9 hW9 => ⟨⟨_, _, rfl, rfl, ⟨y, kept2_4, gq2_4, by rw [hf4_1, cif_pos hk1, cif_neg (by omega)], fun v2 h1 h2 => by rw [ht9, cif_neg (by omega)]; rw [cif_pos hk1] at hf4_1; refine ⟨?_, hf4_1, fun i hi => ?_⟩; (obtain ⟨y2, e2, hp2⟩ := hXI.1.2.2 (kept - 1).toNat (by omega); cases (Option.some.inj (hy.symm.trans e2)); exact hp2.agr (fun j hj => (h2 (by omega) j hj).symm)); (rw [hf4_2 i hi]; exact hXI.1.2.2 i (by omega)), by rw [ht9]; exact hP, by rw [hAe]; exact hD⟩⟩, by rw [hAe]; exact hS.F ht9⟩) (by rw [hAe]; exact hS.2.2) dX6_undo_27
  · rw [cF_neg hk1] at hf4_0
    subst hf4_0
    refine W.eq (g2 := F0 m 7 ls [.null]) rfl ?_
    refine lv_astore_nN (lv' := [(1, .null), (0, .ref (ad 0))]) hx hb dX6_undo_7 rfl hl (by decide) rfl (fun ls hl => ?_)
    refine lv_aload_nN hx hb dX6_undo_8 rfl (lv_at hl 0 rfl) ?_
    refine lv_ifnonnullN hx hb dX6_undo_9 ?_
    refine rv_bipush hx hb dX6_undo_12 (by decide) ?_
    have hXI := XI.inS hX0 (fun q z => hM q (Mw_xW q z)) hAe hS
    subst hQ
    exact W.iret hx hb hr (fun t9 ht9 hW9 => ⟨⟨_, _, rfl, rfl, ⟨pl, kept2_4, gq2_4, by rw [cif_pos (by omega)], fun v2 h1 h2 => by obtain rfl := h1 (by omega); rw [ht9, cif_pos (by omega)]; rw [cif_neg hk1] at hf4_1; exact ⟨hXI.1.2.1, by omega, fun i hi => by omega⟩, by rw [ht9]; exact hP, by rw [hAe]; exact hD⟩⟩, by rw [hAe]; exact hS.F ht9⟩) (by rw [hAe]; exact hS.2.2) dX6_undo_14

abbrev rm_X6_squares : Room := { frames := 1, cells := 0, slots := 0, locals := 24 }
set_option maxHeartbeats 8000000 in
set_option maxRecDepth 100000 in
/-- squares -/
theorem c_X6_squares (l : Launch) (D : va_G) (cs : Nat → ClassId) (ad : Nat → Nat) (sz : Nat) (len : Int) (pl : Nat) (rlen : Int) (rpc : Int) (run_ : Int) (rbo : Int) (rcw : Int) (rt : Value) (tx : Nat → Int) (gp : Nat → Option Nat) (nu : Nat → Int) (kept : Int) (gq : Nat → Option Nat) (swl : Int) (sun : Int) (sbo : Int) (scw : Int) (bo : Int) (cu : Int) (lo : Int) (wh : Int) (dps : Nat → Int) (alk : Nat → Int) (bof : Nat → Int) (us : Nat → Int) (bl : Nat → Int) (lg : Nat → Int) (M : Nat → Prop) (v : Nat → Int) (bf : Nat → Int) (n : Int) (hM : ∀ q, inAd ad 0 14 q → M q) (hkp : 0 ≤ kept ∧ kept ≤ 6) (hlen : 0 ≤ len ∧ len ≤ 200) (hn : -2147483648 ≤ n ∧ n < 2147483648) : Met l yX6_squares (Cond.code yX6_squares cX6_squares 2 (some .int) :: TB) rm_X6_squares (va_Pc [.ref (ad 0), .int (iI n)] (MPre D cs sz (xW cs ad len pl rlen rpc run_ rbo rcw rt tx gp nu kept gq swl sun sbo scw bo cu lo wh dps alk bof us bl lg) (fun U H => XI D cs M pl v kept gq bf U H))) (va_Qi (fun (r u : Int32) => r = u) (fun r t => (r = iI (aSquares n)) ∧ va_P D classes (xW cs ad len pl rlen rpc run_ rbo rcw rt tx gp nu kept gq swl sun sbo scw bo cu lo wh dps alk bof us bl lg) t.heap ∧ va_D (va_A (xW cs ad len pl rlen rpc run_ rbo rcw rt tx gp nu kept gq swl sun sbo scw bo cu lo wh dps alk bof us bl lg) sz) (xW cs ad len pl rlen rpc run_ rbo rcw rt tx gp nu kept gq swl sun sbo scw bo cu lo wh dps alk bof us bl lg)) (va_A (xW cs ad len pl rlen rpc run_ rbo rcw rt tx gp nu kept gq swl sun sbo scw bo cu lo wh dps alk bof us bl lg) sz)) 0 0 (va_A (xW cs ad len pl rlen rpc run_ rbo rcw rt tx gp nu kept gq swl sun sbo scw bo cu lo wh dps alk bof us bl lg) sz) := by
  refine enter (cc := cX6_squares) (maxL := 2) (ret := (some .int)) (by decide) (Nat.le_of_ble_eq_true rfl) ?_
  intro pg ev s m below meth c Q ls hx hb hml hown hts hr hlocks hnm ⟨hsz, hP, hD0, hK, hX0⟩ hl hQ
  have ht : ∀ w ∈ TB, w.before _ s = true := fun w h => hts w (List.mem_cons_of_mem _ h)
  subst hsz
  have hD := hD0.self (sz := s.heap.size)
  obtain ⟨A, hAe⟩ : ∃ A, va_A (xW cs ad len pl rlen rpc run_ rbo rcw rt tx gp nu kept gq swl sun sbo scw bo cu lo wh dps alk bof us bl lg) s.heap.size = A := ⟨_, rfl⟩
  rw [hAe] at hD
  have hA : ∀ q : Nat, s.heap.size ≤ q → A q := fun q h => by rw [← hAe]; exact Or.inr h
  obtain ⟨H, hH⟩ : ∃ H, H = s.heap := ⟨_, rfl⟩
  obtain ⟨locs, hlocs⟩ : ∃ locs : List Loc, locs = [] := ⟨_, rfl⟩
  have hS : va_S A s.heap H locs := by rw [hH, hlocs]; exact va_S.rf
  rw [← hH] at hP
  suffices hgo : W pg l ev rm_X6_squares s m [.ref (ad 0), .int (iI n)].toArray below meth c H locs 0 0 Q (F0 m 0 ls []) by rw [hH, hlocs] at hgo; exact hgo
  have hl : lv_has ls 2 [(0, .ref (ad 0)), (1, .int (iI n))] := hl
  have hXI := XI.inS hX0 (fun q z => hM q (Mw_xW q z)) hAe (show va_S A s.heap H locs from hS)
  have hvL := hX0.1.2.1.1
  obtain ⟨hv20, hv21, hv22, hv23, hvp⟩ := id hvL
  obtain ⟨arr, g, hG0⟩ := hX0.1.2.1.g
  refine lv_iload_n hx hb dX6_squares_0 rfl (lv_at hl 1 rfl) ?_
  refine vp_callSi (W.runS (As := [.int (iI n)]) (rest := []) ⟨hx, hb, hml, hown, hts⟩ (c_X0_isPrime l n (by omega)) (va_cwS 1 hts (gS tb_390 tb_273 tb_6 tb_274) rfl rfl rfl (by decide +kernel) ⟨Nat.le_of_ble_eq_true rfl, Nat.le_of_ble_eq_true rfl⟩) (preS_of (PZ_stb (fun _ => False)) hXI.2.1.no) rfl rfl hl.1 rfl (lv_room (Nat.le_of_ble_eq_true rfl)) dX6_squares_1 ⟨Nat.le_of_ble_eq_true rfl, Nat.le_of_ble_eq_true rfl⟩) (fun r9 hr9 => ?_)
  rcases hr9 with ⟨rfl, hb1⟩ | ⟨rfl, hb1⟩
  · refine rv_if_eq (tgt := 14) hx hb dX6_squares_4 (by decide) (by decide) (fun q => absurd q (by decide)) (fun _ => ?_)
    have hnb := isPr_bd hb1
    refine lv_iload_n hx hb dX6_squares_7 rfl (lv_at hl 1 rfl) ?_
    refine vp_callSi (W.runS (As := [.int (iI n)]) (rest := []) ⟨hx, hb, hml, hown, hts⟩ (c_X0_squareBits l n (by omega)) (va_cwS 1 hts (gS tb_391 tb_136 tb_6 tb_137) rfl rfl rfl (by decide +kernel) ⟨Nat.le_of_ble_eq_true rfl, Nat.le_of_ble_eq_true rfl⟩) preS0 rfl rfl hl.1 rfl (lv_room (Nat.le_of_ble_eq_true rfl)) dX6_squares_8 ⟨Nat.le_of_ble_eq_true rfl, Nat.le_of_ble_eq_true rfl⟩) (fun r9 hr9 => ?_)
    obtain ⟨rfl, hx8_0⟩ := hr9
    refine lv_goto (tgt := 15) hx hb dX6_squares_11 (by decide) ?_
    subst hQ
    exact W.iret hx hb hr (fun t9 ht9 hW9 => ⟨⟨_, _, rfl, rfl, ⟨by rw [aSquares, cif_pos hb1], by rw [ht9]; exact hP, by rw [hAe]; exact hD⟩⟩, by rw [hAe]; exact hS.F ht9⟩) (by rw [hAe]; exact hS.2.2) dX6_squares_15
  · refine rv_if_eq (tgt := 14) hx hb dX6_squares_4 (by decide) (by decide) (fun _ => ?_) (fun q => absurd q (by decide))
    refine rv_iconst hx hb dX6_squares_14 ?_
    subst hQ
    exact W.iret hx hb hr (fun t9 ht9 hW9 => ⟨⟨_, _, rfl, rfl, ⟨by rw [aSquares, cif_neg hb1], by rw [ht9]; exact hP, by rw [hAe]; exact hD⟩⟩, by rw [hAe]; exact hS.F ht9⟩) (by rw [hAe]; exact hS.2.2) dX6_squares_15

abbrev rm_X6_sign : Room := { frames := 2, cells := 0, slots := 0, locals := 44 }
set_option maxHeartbeats 8000000 in
set_option maxRecDepth 100000 in
/-- sign -/
theorem c_X6_sign (l : Launch) (D : va_G) (cs : Nat → ClassId) (ad : Nat → Nat) (sz : Nat) (len : Int) (pl : Nat) (rlen : Int) (rpc : Int) (run_ : Int) (rbo : Int) (rcw : Int) (rt : Value) (tx : Nat → Int) (gp : Nat → Option Nat) (nu : Nat → Int) (kept : Int) (gq : Nat → Option Nat) (swl : Int) (sun : Int) (sbo : Int) (scw : Int) (bo : Int) (cu : Int) (lo : Int) (wh : Int) (dps : Nat → Int) (alk : Nat → Int) (bof : Nat → Int) (us : Nat → Int) (bl : Nat → Int) (lg : Nat → Int) (M : Nat → Prop) (v : Nat → Int) (bf : Nat → Int) (b : Int) (n : Int) (hM : ∀ q, inAd ad 0 14 q → M q) (hkp : 0 ≤ kept ∧ kept ≤ 6) (hlen : 0 ≤ len ∧ len ≤ 200) (hb0 : -2147483648 ≤ b ∧ b < 2147483648) (hn : -2147483648 ≤ n ∧ n < 2147483648) : Met l yX6_sign (Cond.code yX6_sign cX6_sign 3 (some .int) :: TB) rm_X6_sign (va_Pc [.ref (ad 0), .int (iI b), .int (iI n)] (MPre D cs sz (xW cs ad len pl rlen rpc run_ rbo rcw rt tx gp nu kept gq swl sun sbo scw bo cu lo wh dps alk bof us bl lg) (fun U H => XI D cs M pl v kept gq bf U H))) (va_Qi (fun (r u : Int32) => r = u) (fun r t => (r = iI (aSign b n)) ∧ va_P D classes (xW cs ad len pl rlen rpc run_ rbo rcw rt tx gp nu kept gq swl sun sbo scw bo cu lo wh dps alk bof us bl lg) t.heap ∧ va_D (va_A (xW cs ad len pl rlen rpc run_ rbo rcw rt tx gp nu kept gq swl sun sbo scw bo cu lo wh dps alk bof us bl lg) sz) (xW cs ad len pl rlen rpc run_ rbo rcw rt tx gp nu kept gq swl sun sbo scw bo cu lo wh dps alk bof us bl lg)) (va_A (xW cs ad len pl rlen rpc run_ rbo rcw rt tx gp nu kept gq swl sun sbo scw bo cu lo wh dps alk bof us bl lg) sz)) 0 0 (va_A (xW cs ad len pl rlen rpc run_ rbo rcw rt tx gp nu kept gq swl sun sbo scw bo cu lo wh dps alk bof us bl lg) sz) := by
  refine enter (cc := cX6_sign) (maxL := 3) (ret := (some .int)) (by decide) (Nat.le_of_ble_eq_true rfl) ?_
  intro pg ev s m below meth c Q ls hx hb hml hown hts hr hlocks hnm ⟨hsz, hP, hD0, hK, hX0⟩ hl hQ
  have ht : ∀ w ∈ TB, w.before _ s = true := fun w h => hts w (List.mem_cons_of_mem _ h)
  subst hsz
  have hD := hD0.self (sz := s.heap.size)
  obtain ⟨A, hAe⟩ : ∃ A, va_A (xW cs ad len pl rlen rpc run_ rbo rcw rt tx gp nu kept gq swl sun sbo scw bo cu lo wh dps alk bof us bl lg) s.heap.size = A := ⟨_, rfl⟩
  rw [hAe] at hD
  have hA : ∀ q : Nat, s.heap.size ≤ q → A q := fun q h => by rw [← hAe]; exact Or.inr h
  obtain ⟨H, hH⟩ : ∃ H, H = s.heap := ⟨_, rfl⟩
  obtain ⟨locs, hlocs⟩ : ∃ locs : List Loc, locs = [] := ⟨_, rfl⟩
  have hS : va_S A s.heap H locs := by rw [hH, hlocs]; exact va_S.rf
  rw [← hH] at hP
  suffices hgo : W pg l ev rm_X6_sign s m [.ref (ad 0), .int (iI b), .int (iI n)].toArray below meth c H locs 0 0 Q (F0 m 0 ls []) by rw [hH, hlocs] at hgo; exact hgo
  have hl : lv_has ls 3 [(0, .ref (ad 0)), (1, .int (iI b)), (2, .int (iI n))] := hl
  have hXI := XI.inS hX0 (fun q z => hM q (Mw_xW q z)) hAe (show va_S A s.heap H locs from hS)
  have hvL := hX0.1.2.1.1
  obtain ⟨hv20, hv21, hv22, hv23, hvp⟩ := id hvL
  obtain ⟨arr, g, hG0⟩ := hX0.1.2.1.g
  refine lv_iload_n hx hb dX6_sign_0 rfl (lv_at hl 1 rfl) ?_
  refine rv_if_lt (tgt := 18) hx hb dX6_sign_1 (by decide) (by omega) (fun h1 => ?_) (fun h1 => ?_)
  · refine rv_iconst hx hb dX6_sign_18 ?_
    subst hQ
    exact W.iret hx hb hr (fun t9 ht9 hW9 => ⟨⟨_, _, rfl, rfl, ⟨by rw [aSign, cif_neg (fun q => by first | exact hb12 q.2 | (have := q.1; omega))], by rw [ht9]; exact hP, by rw [hAe]; exact hD⟩⟩, by rw [hAe]; exact hS.F ht9⟩) (by rw [hAe]; exact hS.2.2) dX6_sign_19
  · refine lv_iload_n hx hb dX6_sign_4 rfl (lv_at hl 1 rfl) ?_
    refine rv_sipush hx hb dX6_sign_5 (by decide) ?_
    refine rv_icmp_gt (tgt := 18) hx hb dX6_sign_8 (by decide) (by omega) (fun h8 => ?_) (fun h8 => ?_)
    · refine rv_iconst hx hb dX6_sign_18 ?_
      subst hQ
      exact W.iret hx hb hr (fun t9 ht9 hW9 => ⟨⟨_, _, rfl, rfl, ⟨by rw [aSign, cif_neg (fun q => by first | exact hb12 q.2 | (have := q.1; omega))], by rw [ht9]; exact hP, by rw [hAe]; exact hD⟩⟩, by rw [hAe]; exact hS.F ht9⟩) (by rw [hAe]; exact hS.2.2) dX6_sign_19
    · refine lv_iload_n hx hb dX6_sign_11 rfl (lv_at hl 2 rfl) ?_
      refine vp_callSi (W.runS (As := [.int (iI n)]) (rest := []) ⟨hx, hb, hml, hown, hts⟩ (c_X0_isPrime l n (by omega)) (va_cwS 1 hts (gS tb_390 tb_273 tb_6 tb_274) rfl rfl rfl (by decide +kernel) ⟨Nat.le_of_ble_eq_true rfl, Nat.le_of_ble_eq_true rfl⟩) (preS_of (PZ_stb (fun _ => False)) hXI.2.1.no) rfl rfl hl.1 rfl (lv_room (Nat.le_of_ble_eq_true rfl)) dX6_sign_12 ⟨Nat.le_of_ble_eq_true rfl, Nat.le_of_ble_eq_true rfl⟩) (fun r9 hr9 => ?_)
      rcases hr9 with ⟨rfl, hb12⟩ | ⟨rfl, hb12⟩
      · refine rv_if_ne (tgt := 20) hx hb dX6_sign_15 (by decide) (by decide) (fun _ => ?_) (fun q => absurd q (by decide))
        refine lv_iload_n hx hb dX6_sign_20 rfl (lv_at hl 1 rfl) ?_
        refine lv_iload_n hx hb dX6_sign_21 rfl (lv_at hl 2 rfl) ?_
        refine vp_callSi (W.runS (As := [.int (iI b), .int (iI n)]) (rest := []) ⟨hx, hb, hml, hown, hts⟩ (c_X0_signOf l b n (by omega) hb12) (va_cwS 2 hts (gS tb_396 tb_397 tb_6 tb_398) rfl rfl rfl (by decide +kernel) ⟨Nat.le_of_ble_eq_true rfl, Nat.le_of_ble_eq_true rfl⟩) preS0 rfl rfl hl.1 rfl (lv_room (Nat.le_of_ble_eq_true rfl)) dX6_sign_22 ⟨Nat.le_of_ble_eq_true rfl, Nat.le_of_ble_eq_true rfl⟩) (fun r9 hr9 => ?_)
        obtain ⟨rfl, hx22_0⟩ := hr9
        refine rv_iconst hx hb dX6_sign_25 ?_
        refine rv_iadd hx hb dX6_sign_26 ?_
        subst hQ
        exact W.iret hx hb hr (fun t9 ht9 hW9 => ⟨⟨_, _, rfl, rfl, ⟨by rw [aSign, cif_pos ⟨by omega, hb12⟩], by rw [ht9]; exact hP, by rw [hAe]; exact hD⟩⟩, by rw [hAe]; exact hS.F ht9⟩) (by rw [hAe]; exact hS.2.2) dX6_sign_27
      · refine rv_if_ne (tgt := 20) hx hb dX6_sign_15 (by decide) (by decide) (fun q => absurd q (by decide)) (fun _ => ?_)
        refine rv_iconst hx hb dX6_sign_18 ?_
        subst hQ
        exact W.iret hx hb hr (fun t9 ht9 hW9 => ⟨⟨_, _, rfl, rfl, ⟨by rw [aSign, cif_neg (fun q => by first | exact hb12 q.2 | (have := q.1; omega))], by rw [ht9]; exact hP, by rw [hAe]; exact hD⟩⟩, by rw [hAe]; exact hS.F ht9⟩) (by rw [hAe]; exact hS.2.2) dX6_sign_19

abbrev rm_X6_root : Room := { frames := 2, cells := 0, slots := 0, locals := 46 }
set_option maxHeartbeats 8000000 in
set_option maxRecDepth 100000 in
/-- root -/
theorem c_X6_root (l : Launch) (D : va_G) (cs : Nat → ClassId) (ad : Nat → Nat) (sz : Nat) (len : Int) (pl : Nat) (rlen : Int) (rpc : Int) (run_ : Int) (rbo : Int) (rcw : Int) (rt : Value) (tx : Nat → Int) (gp : Nat → Option Nat) (nu : Nat → Int) (kept : Int) (gq : Nat → Option Nat) (swl : Int) (sun : Int) (sbo : Int) (scw : Int) (bo : Int) (cu : Int) (lo : Int) (wh : Int) (dps : Nat → Int) (alk : Nat → Int) (bof : Nat → Int) (us : Nat → Int) (bl : Nat → Int) (lg : Nat → Int) (M : Nat → Prop) (v : Nat → Int) (bf : Nat → Int) (n : Int) (what : Int) (hM : ∀ q, inAd ad 0 14 q → M q) (hkp : 0 ≤ kept ∧ kept ≤ 6) (hlen : 0 ≤ len ∧ len ≤ 200) (hn : -2147483648 ≤ n ∧ n < 2147483648) (hw : -2147483648 ≤ what ∧ what < 2147483648) : Met l yX6_root (Cond.code yX6_root cX6_root 3 (some .int) :: TB) rm_X6_root (va_Pc [.ref (ad 0), .int (iI n), .int (iI what)] (MPre D cs sz (xW cs ad len pl rlen rpc run_ rbo rcw rt tx gp nu kept gq swl sun sbo scw bo cu lo wh dps alk bof us bl lg) (fun U H => XI D cs M pl v kept gq bf U H))) (va_Qi (fun (r u : Int32) => r = u) (fun r t => (r = iI (aRoot n what)) ∧ va_P D classes (xW cs ad len pl rlen rpc run_ rbo rcw rt tx gp nu kept gq swl sun sbo scw bo cu lo wh dps alk bof us bl lg) t.heap ∧ va_D (va_A (xW cs ad len pl rlen rpc run_ rbo rcw rt tx gp nu kept gq swl sun sbo scw bo cu lo wh dps alk bof us bl lg) sz) (xW cs ad len pl rlen rpc run_ rbo rcw rt tx gp nu kept gq swl sun sbo scw bo cu lo wh dps alk bof us bl lg)) (va_A (xW cs ad len pl rlen rpc run_ rbo rcw rt tx gp nu kept gq swl sun sbo scw bo cu lo wh dps alk bof us bl lg) sz)) 0 0 (va_A (xW cs ad len pl rlen rpc run_ rbo rcw rt tx gp nu kept gq swl sun sbo scw bo cu lo wh dps alk bof us bl lg) sz) := by
  refine enter (cc := cX6_root) (maxL := 3) (ret := (some .int)) (by decide) (Nat.le_of_ble_eq_true rfl) ?_
  intro pg ev s m below meth c Q ls hx hb hml hown hts hr hlocks hnm ⟨hsz, hP, hD0, hK, hX0⟩ hl hQ
  have ht : ∀ w ∈ TB, w.before _ s = true := fun w h => hts w (List.mem_cons_of_mem _ h)
  subst hsz
  have hD := hD0.self (sz := s.heap.size)
  obtain ⟨A, hAe⟩ : ∃ A, va_A (xW cs ad len pl rlen rpc run_ rbo rcw rt tx gp nu kept gq swl sun sbo scw bo cu lo wh dps alk bof us bl lg) s.heap.size = A := ⟨_, rfl⟩
  rw [hAe] at hD
  have hA : ∀ q : Nat, s.heap.size ≤ q → A q := fun q h => by rw [← hAe]; exact Or.inr h
  obtain ⟨H, hH⟩ : ∃ H, H = s.heap := ⟨_, rfl⟩
  obtain ⟨locs, hlocs⟩ : ∃ locs : List Loc, locs = [] := ⟨_, rfl⟩
  have hS : va_S A s.heap H locs := by rw [hH, hlocs]; exact va_S.rf
  rw [← hH] at hP
  suffices hgo : W pg l ev rm_X6_root s m [.ref (ad 0), .int (iI n), .int (iI what)].toArray below meth c H locs 0 0 Q (F0 m 0 ls []) by rw [hH, hlocs] at hgo; exact hgo
  have hl : lv_has ls 3 [(0, .ref (ad 0)), (1, .int (iI n)), (2, .int (iI what))] := hl
  have hXI := XI.inS hX0 (fun q z => hM q (Mw_xW q z)) hAe (show va_S A s.heap H locs from hS)
  have hvL := hX0.1.2.1.1
  obtain ⟨hv20, hv21, hv22, hv23, hvp⟩ := id hvL
  obtain ⟨arr, g, hG0⟩ := hX0.1.2.1.g
  refine lv_iload_n hx hb dX6_root_0 rfl (lv_at hl 1 rfl) ?_
  refine vp_callSi (W.runS (As := [.int (iI n)]) (rest := []) ⟨hx, hb, hml, hown, hts⟩ (c_X0_isPrime l n (by omega)) (va_cwS 1 hts (gS tb_390 tb_273 tb_6 tb_274) rfl rfl rfl (by decide +kernel) ⟨Nat.le_of_ble_eq_true rfl, Nat.le_of_ble_eq_true rfl⟩) (preS_of (PZ_stb (fun _ => False)) hXI.2.1.no) rfl rfl hl.1 rfl (lv_room (Nat.le_of_ble_eq_true rfl)) dX6_root_1 ⟨Nat.le_of_ble_eq_true rfl, Nat.le_of_ble_eq_true rfl⟩) (fun r9 hr9 => ?_)
  rcases hr9 with ⟨rfl, hb1⟩ | ⟨rfl, hb1⟩
  · refine rv_if_ne (tgt := 9) hx hb dX6_root_4 (by decide) (by decide) (fun _ => ?_) (fun q => absurd q (by decide))
    refine lv_iload_n hx hb dX6_root_9 rfl (lv_at hl 2 rfl) ?_
    by_cases hc0 : what = 0
    · refine rv_top (y := 0) hc0 ?_
      refine lv_lookup (tgt := 36) hx hb dX6_root_10 (by decide) rfl (by decide) ?_
      refine lv_iload_n hx hb dX6_root_36 rfl (lv_at hl 1 rfl) ?_
      refine vp_callSi (W.runS (As := [.int (iI n)]) (rest := []) ⟨hx, hb, hml, hown, hts⟩ (c_X0_lowestRoot l n hb1) (va_cwS 1 hts (gS tb_405 tb_406 tb_6 tb_407) rfl rfl rfl (by decide +kernel) ⟨Nat.le_of_ble_eq_true rfl, Nat.le_of_ble_eq_true rfl⟩) preS0 rfl rfl hl.1 rfl (lv_room (Nat.le_of_ble_eq_true rfl)) dX6_root_37 ⟨Nat.le_of_ble_eq_true rfl, Nat.le_of_ble_eq_true rfl⟩) (fun r9 hr9 => ?_)
      subst hr9
      subst hQ
      exact W.iret hx hb hr (fun t9 ht9 hW9 => ⟨⟨_, _, rfl, rfl, ⟨by rw [aRoot, cif_pos ⟨hb1, by omega⟩, cif_pos hc0], by rw [ht9]; exact hP, by rw [hAe]; exact hD⟩⟩, by rw [hAe]; exact hS.F ht9⟩) (by rw [hAe]; exact hS.2.2) dX6_root_40
    by_cases hc1 : what = 1
    · refine rv_top (y := 1) hc1 ?_
      refine lv_lookup (tgt := 41) hx hb dX6_root_10 (by decide) rfl (by decide) ?_
      refine lv_iload_n hx hb dX6_root_41 rfl (lv_at hl 1 rfl) ?_
      refine vp_callSi (W.runS (As := [.int (iI n)]) (rest := []) ⟨hx, hb, hml, hown, hts⟩ (c_X0_rootCount l n hb1) (va_cwS 1 hts (gS tb_409 tb_410 tb_6 tb_411) rfl rfl rfl (by decide +kernel) ⟨Nat.le_of_ble_eq_true rfl, Nat.le_of_ble_eq_true rfl⟩) preS0 rfl rfl hl.1 rfl (lv_room (Nat.le_of_ble_eq_true rfl)) dX6_root_42 ⟨Nat.le_of_ble_eq_true rfl, Nat.le_of_ble_eq_true rfl⟩) (fun r9 hr9 => ?_)
      subst hr9
      subst hQ
      exact W.iret hx hb hr (fun t9 ht9 hW9 => ⟨⟨_, _, rfl, rfl, ⟨by rw [aRoot, cif_pos ⟨hb1, by omega⟩, cif_neg hc0], by rw [ht9]; exact hP, by rw [hAe]; exact hD⟩⟩, by rw [hAe]; exact hS.F ht9⟩) (by rw [hAe]; exact hS.2.2) dX6_root_45
    refine lv_lookup (tgt := 46) (off := 36) hx hb dX6_root_10 (by decide) (by rw [iI_toInt (by omega)]; show Op.lookupswitch.offset [(0, 26), (1, 31)] 36 _ = 36; rw [Op.lookupswitch.offset_cons, if_neg (by omega), Op.lookupswitch.offset_cons, if_neg (by omega)]; rfl) (by decide) ?_
    refine rv_iconst hx hb dX6_root_46 ?_
    subst hQ
    exact W.iret hx hb hr (fun t9 ht9 hW9 => ⟨⟨_, _, rfl, rfl, ⟨by rw [aRoot, cif_neg (fun q => by have := q.2; omega)], by rw [ht9]; exact hP, by rw [hAe]; exact hD⟩⟩, by rw [hAe]; exact hS.F ht9⟩) (by rw [hAe]; exact hS.2.2) dX6_root_47
  · refine rv_if_ne (tgt := 9) hx hb dX6_root_4 (by decide) (by decide) (fun q => absurd q (by decide)) (fun _ => ?_)
    refine rv_iconst hx hb dX6_root_7 ?_
    subst hQ
    exact W.iret hx hb hr (fun t9 ht9 hW9 => ⟨⟨_, _, rfl, rfl, ⟨by rw [aRoot, cif_neg (fun q => hb1 q.1)], by rw [ht9]; exact hP, by rw [hAe]; exact hD⟩⟩, by rw [hAe]; exact hS.F ht9⟩) (by rw [hAe]; exact hS.2.2) dX6_root_8

abbrev rm_X6_law : Room := { frames := 2, cells := 0, slots := 0, locals := 44 }
set_option maxHeartbeats 8000000 in
set_option maxRecDepth 100000 in
/-- law -/
theorem c_X6_law (l : Launch) (D : va_G) (cs : Nat → ClassId) (ad : Nat → Nat) (sz : Nat) (len : Int) (pl : Nat) (rlen : Int) (rpc : Int) (run_ : Int) (rbo : Int) (rcw : Int) (rt : Value) (tx : Nat → Int) (gp : Nat → Option Nat) (nu : Nat → Int) (kept : Int) (gq : Nat → Option Nat) (swl : Int) (sun : Int) (sbo : Int) (scw : Int) (bo : Int) (cu : Int) (lo : Int) (wh : Int) (dps : Nat → Int) (alk : Nat → Int) (bof : Nat → Int) (us : Nat → Int) (bl : Nat → Int) (lg : Nat → Int) (M : Nat → Prop) (v : Nat → Int) (bf : Nat → Int) (p : Int) (q : Int) (hM : ∀ q, inAd ad 0 14 q → M q) (hkp : 0 ≤ kept ∧ kept ≤ 6) (hlen : 0 ≤ len ∧ len ≤ 200) (hp0 : -2147483648 ≤ p ∧ p < 2147483648) (hq0 : -2147483648 ≤ q ∧ q < 2147483648) : Met l yX6_law (Cond.code yX6_law cX6_law 3 (some .int) :: TB) rm_X6_law (va_Pc [.ref (ad 0), .int (iI p), .int (iI q)] (MPre D cs sz (xW cs ad len pl rlen rpc run_ rbo rcw rt tx gp nu kept gq swl sun sbo scw bo cu lo wh dps alk bof us bl lg) (fun U H => XI D cs M pl v kept gq bf U H))) (va_Qi (fun (r u : Int32) => r = u) (fun r t => (r = iI (aLaw p q)) ∧ va_P D classes (xW cs ad len pl rlen rpc run_ rbo rcw rt tx gp nu kept gq swl sun sbo scw bo cu lo wh dps alk bof us bl lg) t.heap ∧ va_D (va_A (xW cs ad len pl rlen rpc run_ rbo rcw rt tx gp nu kept gq swl sun sbo scw bo cu lo wh dps alk bof us bl lg) sz) (xW cs ad len pl rlen rpc run_ rbo rcw rt tx gp nu kept gq swl sun sbo scw bo cu lo wh dps alk bof us bl lg)) (va_A (xW cs ad len pl rlen rpc run_ rbo rcw rt tx gp nu kept gq swl sun sbo scw bo cu lo wh dps alk bof us bl lg) sz)) 0 0 (va_A (xW cs ad len pl rlen rpc run_ rbo rcw rt tx gp nu kept gq swl sun sbo scw bo cu lo wh dps alk bof us bl lg) sz) := by
  refine enter (cc := cX6_law) (maxL := 3) (ret := (some .int)) (by decide) (Nat.le_of_ble_eq_true rfl) ?_
  intro pg ev s m below meth c Q ls hx hb hml hown hts hr hlocks hnm ⟨hsz, hP, hD0, hK, hX0⟩ hl hQ
  have ht : ∀ w ∈ TB, w.before _ s = true := fun w h => hts w (List.mem_cons_of_mem _ h)
  subst hsz
  have hD := hD0.self (sz := s.heap.size)
  obtain ⟨A, hAe⟩ : ∃ A, va_A (xW cs ad len pl rlen rpc run_ rbo rcw rt tx gp nu kept gq swl sun sbo scw bo cu lo wh dps alk bof us bl lg) s.heap.size = A := ⟨_, rfl⟩
  rw [hAe] at hD
  have hA : ∀ q : Nat, s.heap.size ≤ q → A q := fun q h => by rw [← hAe]; exact Or.inr h
  obtain ⟨H, hH⟩ : ∃ H, H = s.heap := ⟨_, rfl⟩
  obtain ⟨locs, hlocs⟩ : ∃ locs : List Loc, locs = [] := ⟨_, rfl⟩
  have hS : va_S A s.heap H locs := by rw [hH, hlocs]; exact va_S.rf
  rw [← hH] at hP
  suffices hgo : W pg l ev rm_X6_law s m [.ref (ad 0), .int (iI p), .int (iI q)].toArray below meth c H locs 0 0 Q (F0 m 0 ls []) by rw [hH, hlocs] at hgo; exact hgo
  have hl : lv_has ls 3 [(0, .ref (ad 0)), (1, .int (iI p)), (2, .int (iI q))] := hl
  have hXI := XI.inS hX0 (fun q z => hM q (Mw_xW q z)) hAe (show va_S A s.heap H locs from hS)
  have hvL := hX0.1.2.1.1
  obtain ⟨hv20, hv21, hv22, hv23, hvp⟩ := id hvL
  obtain ⟨arr, g, hG0⟩ := hX0.1.2.1.g
  refine lv_iload_n hx hb dX6_law_0 rfl (lv_at hl 1 rfl) ?_
  refine vp_callSi (W.runS (As := [.int (iI p)]) (rest := []) ⟨hx, hb, hml, hown, hts⟩ (c_X0_isPrime l p (by omega)) (va_cwS 1 hts (gS tb_390 tb_273 tb_6 tb_274) rfl rfl rfl (by decide +kernel) ⟨Nat.le_of_ble_eq_true rfl, Nat.le_of_ble_eq_true rfl⟩) (preS_of (PZ_stb (fun _ => False)) hXI.2.1.no) rfl rfl hl.1 rfl (lv_room (Nat.le_of_ble_eq_true rfl)) dX6_law_1 ⟨Nat.le_of_ble_eq_true rfl, Nat.le_of_ble_eq_true rfl⟩) (fun r9 hr9 => ?_)
  rcases hr9 with ⟨rfl, hb1⟩ | ⟨rfl, hb1⟩
  · refine rv_if_eq (tgt := 19) hx hb dX6_law_4 (by decide) (by decide) (fun q => absurd q (by decide)) (fun _ => ?_)
    refine lv_iload_n hx hb dX6_law_7 rfl (lv_at hl 2 rfl) ?_
    refine vp_callSi (W.runS (As := [.int (iI q)]) (rest := []) ⟨hx, hb, hml, hown, hts⟩ (c_X0_isPrime l q (by omega)) (va_cwS 1 hts (gS tb_390 tb_273 tb_6 tb_274) rfl rfl rfl (by decide +kernel) ⟨Nat.le_of_ble_eq_true rfl, Nat.le_of_ble_eq_true rfl⟩) (preS_of (PZ_stb (fun _ => False)) hXI.2.1.no) rfl rfl hl.1 rfl (lv_room (Nat.le_of_ble_eq_true rfl)) dX6_law_8 ⟨Nat.le_of_ble_eq_true rfl, Nat.le_of_ble_eq_true rfl⟩) (fun r9 hr9 => ?_)
    rcases hr9 with ⟨rfl, hb8⟩ | ⟨rfl, hb8⟩
    · refine rv_if_eq (tgt := 19) hx hb dX6_law_11 (by decide) (by decide) (fun q => absurd q (by decide)) (fun _ => ?_)
      refine lv_iload_n hx hb dX6_law_14 rfl (lv_at hl 1 rfl) ?_
      refine lv_iload_n hx hb dX6_law_15 rfl (lv_at hl 2 rfl) ?_
      refine rv_icmp_ne (tgt := 21) hx hb dX6_law_16 (by decide) (by omega) (fun h16 => ?_) (fun h16 => ?_)
      · refine lv_iload_n hx hb dX6_law_21 rfl (lv_at hl 1 rfl) ?_
        refine lv_iload_n hx hb dX6_law_22 rfl (lv_at hl 2 rfl) ?_
        refine vp_callSi (W.runS (As := [.int (iI p), .int (iI q)]) (rest := []) ⟨hx, hb, hml, hown, hts⟩ (c_X0_signOf l p q (by omega) hb8) (va_cwS 2 hts (gS tb_396 tb_397 tb_6 tb_398) rfl rfl rfl (by decide +kernel) ⟨Nat.le_of_ble_eq_true rfl, Nat.le_of_ble_eq_true rfl⟩) preS0 rfl rfl hl.1 rfl (lv_room (Nat.le_of_ble_eq_true rfl)) dX6_law_23 ⟨Nat.le_of_ble_eq_true rfl, Nat.le_of_ble_eq_true rfl⟩) (fun r9 hr9 => ?_)
        obtain ⟨rfl, hx23_0⟩ := hr9
        refine lv_iload_n hx hb dX6_law_26 rfl (lv_at hl 2 rfl) ?_
        refine lv_iload_n hx hb dX6_law_27 rfl (lv_at hl 1 rfl) ?_
        refine vp_callSi (W.runS (As := [.int (iI q), .int (iI p)]) (rest := [.int (iI (sg p q))]) ⟨hx, hb, hml, hown, hts⟩ (c_X0_signOf l q p (by omega) hb1) (va_cwS 2 hts (gS tb_396 tb_397 tb_6 tb_398) rfl rfl rfl (by decide +kernel) ⟨Nat.le_of_ble_eq_true rfl, Nat.le_of_ble_eq_true rfl⟩) preS0 rfl rfl hl.1 rfl (lv_room (Nat.le_of_ble_eq_true rfl)) dX6_law_28 ⟨Nat.le_of_ble_eq_true rfl, Nat.le_of_ble_eq_true rfl⟩) (fun r9 hr9 => ?_)
        obtain ⟨rfl, hx28_0⟩ := hr9
        refine rv_imul hx hb dX6_law_31 ?_
        refine rv_iconst hx hb dX6_law_32 ?_
        refine rv_iadd hx hb dX6_law_33 ?_
        subst hQ
        exact W.iret hx hb hr (fun t9 ht9 hW9 => ⟨⟨_, _, rfl, rfl, ⟨by rw [aLaw, cif_pos ⟨hb1, hb8, h16⟩], by rw [ht9]; exact hP, by rw [hAe]; exact hD⟩⟩, by rw [hAe]; exact hS.F ht9⟩) (by rw [hAe]; exact hS.2.2) dX6_law_34
      · refine rv_iconst hx hb dX6_law_19 ?_
        subst hQ
        exact W.iret hx hb hr (fun t9 ht9 hW9 => ⟨⟨_, _, rfl, rfl, ⟨by rw [aLaw, cif_neg (fun z => by first | exact hb1 z.1 | exact hb8 z.2.1 | exact z.2.2 h16)], by rw [ht9]; exact hP, by rw [hAe]; exact hD⟩⟩, by rw [hAe]; exact hS.F ht9⟩) (by rw [hAe]; exact hS.2.2) dX6_law_20
    · refine rv_if_eq (tgt := 19) hx hb dX6_law_11 (by decide) (by decide) (fun _ => ?_) (fun q => absurd q (by decide))
      refine rv_iconst hx hb dX6_law_19 ?_
      subst hQ
      exact W.iret hx hb hr (fun t9 ht9 hW9 => ⟨⟨_, _, rfl, rfl, ⟨by rw [aLaw, cif_neg (fun z => by first | exact hb1 z.1 | exact hb8 z.2.1 | exact z.2.2 h16)], by rw [ht9]; exact hP, by rw [hAe]; exact hD⟩⟩, by rw [hAe]; exact hS.F ht9⟩) (by rw [hAe]; exact hS.2.2) dX6_law_20
  · refine rv_if_eq (tgt := 19) hx hb dX6_law_4 (by decide) (by decide) (fun _ => ?_) (fun q => absurd q (by decide))
    refine rv_iconst hx hb dX6_law_19 ?_
    subst hQ
    exact W.iret hx hb hr (fun t9 ht9 hW9 => ⟨⟨_, _, rfl, rfl, ⟨by rw [aLaw, cif_neg (fun z => by first | exact hb1 z.1 | exact hb8 z.2.1 | exact z.2.2 h16)], by rw [ht9]; exact hP, by rw [hAe]; exact hD⟩⟩, by rw [hAe]; exact hS.F ht9⟩) (by rw [hAe]; exact hS.2.2) dX6_law_20

abbrev rm_X6_panel : Room := { frames := 4, cells := 1, slots := 31, locals := 92 }
set_option maxHeartbeats 8000000 in
set_option maxRecDepth 100000 in
/-- panel -/
theorem c_X6_panel (l : Launch) (D : va_G) (cs : Nat → ClassId) (ad : Nat → Nat) (sz : Nat) (len : Int) (pl : Nat) (rlen : Int) (rpc : Int) (run_ : Int) (rbo : Int) (rcw : Int) (rt : Value) (tx : Nat → Int) (gp : Nat → Option Nat) (nu : Nat → Int) (kept : Int) (gq : Nat → Option Nat) (swl : Int) (sun : Int) (sbo : Int) (scw : Int) (bo : Int) (cu : Int) (lo : Int) (wh : Int) (dps : Nat → Int) (alk : Nat → Int) (bof : Nat → Int) (us : Nat → Int) (bl : Nat → Int) (lg : Nat → Int) (M : Nat → Prop) (v : Nat → Int) (bf : Nat → Int) (p : Int) (what : Int) (hM : ∀ q, inAd ad 0 14 q → M q) (hkp : 0 ≤ kept ∧ kept ≤ 6) (hlen : 0 ≤ len ∧ len ≤ 200) (hp0 : -2147483648 ≤ p ∧ p < 2147483648) (hw : -2147483648 ≤ what ∧ what < 2147483648) : Met l yX6_panel (Cond.code yX6_panel cX6_panel 4 (some .int) :: TB) rm_X6_panel (va_Pc [.ref (ad 0), .int (iI p), .int (iI what)] (MPre D cs sz (xW cs ad len pl rlen rpc run_ rbo rcw rt tx gp nu kept gq swl sun sbo scw bo cu lo wh dps alk bof us bl lg) (fun U H => XI D cs M pl v kept gq bf U H))) (va_Qi (fun (r u : Int32) => r = u) (fun r t => (r = iI (aPanel v p what)) ∧ va_P D classes (xW cs ad len pl rlen rpc run_ rbo rcw rt tx gp nu kept gq swl sun sbo scw bo cu lo wh dps alk bof us bl lg) t.heap ∧ va_D (va_A (xW cs ad len pl rlen rpc run_ rbo rcw rt tx gp nu kept gq swl sun sbo scw bo cu lo wh dps alk bof us bl lg) sz) (xW cs ad len pl rlen rpc run_ rbo rcw rt tx gp nu kept gq swl sun sbo scw bo cu lo wh dps alk bof us bl lg)) (va_A (xW cs ad len pl rlen rpc run_ rbo rcw rt tx gp nu kept gq swl sun sbo scw bo cu lo wh dps alk bof us bl lg) sz)) 1 31 (va_A (xW cs ad len pl rlen rpc run_ rbo rcw rt tx gp nu kept gq swl sun sbo scw bo cu lo wh dps alk bof us bl lg) sz) := by
  refine enter (cc := cX6_panel) (maxL := 4) (ret := (some .int)) (by decide) (Nat.le_of_ble_eq_true rfl) ?_
  intro pg ev s m below meth c Q ls hx hb hml hown hts hr hlocks hnm ⟨hsz, hP, hD0, hK, hX0⟩ hl hQ
  have ht : ∀ w ∈ TB, w.before _ s = true := fun w h => hts w (List.mem_cons_of_mem _ h)
  subst hsz
  have hD := hD0.self (sz := s.heap.size)
  obtain ⟨A, hAe⟩ : ∃ A, va_A (xW cs ad len pl rlen rpc run_ rbo rcw rt tx gp nu kept gq swl sun sbo scw bo cu lo wh dps alk bof us bl lg) s.heap.size = A := ⟨_, rfl⟩
  rw [hAe] at hD
  have hA : ∀ q : Nat, s.heap.size ≤ q → A q := fun q h => by rw [← hAe]; exact Or.inr h
  obtain ⟨H, hH⟩ : ∃ H, H = s.heap := ⟨_, rfl⟩
  obtain ⟨locs, hlocs⟩ : ∃ locs : List Loc, locs = [] := ⟨_, rfl⟩
  have hS : va_S A s.heap H locs := by rw [hH, hlocs]; exact va_S.rf
  rw [← hH] at hP
  suffices hgo : W pg l ev rm_X6_panel s m [.ref (ad 0), .int (iI p), .int (iI what)].toArray below meth c H locs 0 0 Q (F0 m 0 ls []) by rw [hH, hlocs] at hgo; exact hgo
  have hl : lv_has ls 4 [(0, .ref (ad 0)), (1, .int (iI p)), (2, .int (iI what))] := hl
  have hXI := XI.inS hX0 (fun q z => hM q (Mw_xW q z)) hAe (show va_S A s.heap H locs from hS)
  have hvL := hX0.1.2.1.1
  obtain ⟨hv20, hv21, hv22, hv23, hvp⟩ := id hvL
  obtain ⟨arr, g, hG0⟩ := hX0.1.2.1.g
  have hGG := hG0.inS (fun q z => hM q (Mw_xW q z)) hAe hS
  obtain ⟨_, hPl, hna, hnr, hgy⟩ := id hGG
  refine lv_aload_n hx hb dX6_panel_0 rfl (lv_at hl 0 rfl) ?_
  refine va_get (D := D) (ci := 5) (v := .ref pl) (C := RX6) (T := TX6) (N := 6) hx hb ht inTB_X6 hown hK hP 0 rfl rfl 5 (by decide) (ht _ tb_204) (fun _ h9 => h9) rfl dX6_panel_1 ?_
  refine lv_iload_n hx hb dX6_panel_4 rfl (lv_at hl 1 rfl) ?_
  refine va_csq (W.runV (As := [.int (iI p)]) (rest := []) ⟨hx, hb, hml, hown, hts⟩ (c_X3_panelAt l D cs pl arr ((v 20).toNat) g (v 21) (v 22) (v 23) p (by omega) (by omega)) (cwV 1 hts (gV tb_314 tb_315 tb_316 tb_7 tb_317) rfl rfl rfl (by decide +kernel) ⟨Nat.le_of_ble_eq_true rfl, Nat.le_of_ble_eq_true rfl⟩) (preV_pi hK hGG.pin) rfl rfl hl.1 rfl (lv_room (Nat.le_of_ble_eq_true rfl)) dX6_panel_5 ⟨Nat.le_of_ble_eq_true rfl, Nat.le_of_ble_eq_true rfl⟩) (fun r9 hr9 => ?_)
  subst hr9
  by_cases hq5 : 0 ≤ p ∧ p < ((((v 20).toNat) : Nat) : Int)
  · obtain ⟨y5, hy5, hpan5⟩ := (show ∃ y, g p.toNat = some y ∧ PanelAt D cs M H y (pv v p 0) (pv v p 1) (pv v p 2) (pv v p 3) (pv v p 4) from hgy p.toNat (by omega))
    rw [cF_pos hq5, hy5]
    refine W.eq (g2 := F0 m 8 ls [.ref y5]) rfl ?_
    have hpp : 0 ≤ p ∧ p < v 20 := by omega
    obtain ⟨hvk, hvn, hvf, hvo, hvw⟩ := vL_p hvL hpp
    have hnb := isPr_bd hvn
    have hpb := per_bd (k := pv v p 0) hvn
    have hfb := fOK_bd hvk hvn hvf
    obtain ⟨_, r0, row0, hPn, _, _, _⟩ := id hpan5
    refine lv_astore_n (lv' := [(3, .ref y5), (0, .ref (ad 0)), (1, .int (iI p)), (2, .int (iI what))]) hx hb dX6_panel_8 rfl hl (by decide) rfl (fun ls hl => ?_)
    refine lv_aload_n hx hb dX6_panel_9 rfl (lv_at hl 0 rfl) ?_
    refine lv_ifnonnull (tgt := 15) hx hb dX6_panel_10 (by decide) ?_
    refine lv_iload_n hx hb dX6_panel_15 rfl (lv_at hl 3 rfl) ?_
    by_cases hc0 : what = 0
    · refine rv_top (y := 0) hc0 ?_
      refine lv_tableIn (tgt := 76) hx hb dX6_panel_16 (by decide) (by decide) rfl (by decide) ?_
      refine lv_aload_n hx hb dX6_panel_76 rfl (lv_at hl 0 rfl) ?_
      refine va_get (D := D) (ci := 0) (v := .int (iI (pv v p 0))) (C := RX1) (T := TX1) (N := 7) hx hb ht inTB_X1 hown hK hPn 0 rfl rfl 0 (by decide) (ht _ tb_142) (fun _ h9 => h9) rfl dX6_panel_77 ?_
      refine W.widen (k := 1) (n := 31) (by omega) (by omega) ?_
      subst hQ
      exact W.iret hx hb hr (fun t9 ht9 hW9 => ⟨⟨_, _, rfl, rfl, ⟨by rw [aPanel, cif_pos ⟨hpp, by omega⟩, cif_pos (by omega), hc0]; rfl, by rw [ht9]; exact hP, by rw [hAe]; exact hD⟩⟩, by rw [hAe]; exact hS.F ht9⟩) (by rw [hAe]; exact hS.2.2) dX6_panel_80
    by_cases hc1 : what = 1
    · refine rv_top (y := 1) hc1 ?_
      refine lv_tableIn (tgt := 81) hx hb dX6_panel_16 (by decide) (by decide) rfl (by decide) ?_
      refine lv_aload_n hx hb dX6_panel_81 rfl (lv_at hl 0 rfl) ?_
      refine va_get (D := D) (ci := 0) (v := .int (iI (pv v p 1))) (C := RX1) (T := TX1) (N := 7) hx hb ht inTB_X1 hown hK hPn 0 rfl rfl 1 (by decide) (ht _ tb_144) (fun _ h9 => h9) rfl dX6_panel_82 ?_
      refine W.widen (k := 1) (n := 31) (by omega) (by omega) ?_
      subst hQ
      exact W.iret hx hb hr (fun t9 ht9 hW9 => ⟨⟨_, _, rfl, rfl, ⟨by rw [aPanel, cif_pos ⟨hpp, by omega⟩, cif_pos (by omega), hc1]; rfl, by rw [ht9]; exact hP, by rw [hAe]; exact hD⟩⟩, by rw [hAe]; exact hS.F ht9⟩) (by rw [hAe]; exact hS.2.2) dX6_panel_85
    by_cases hc2 : what = 2
    · refine rv_top (y := 2) hc2 ?_
      refine lv_tableIn (tgt := 86) hx hb dX6_panel_16 (by decide) (by decide) rfl (by decide) ?_
      refine lv_aload_n hx hb dX6_panel_86 rfl (lv_at hl 0 rfl) ?_
      refine va_get (D := D) (ci := 0) (v := .int (iI (pv v p 2))) (C := RX1) (T := TX1) (N := 7) hx hb ht inTB_X1 hown hK hPn 0 rfl rfl 2 (by decide) (ht _ tb_146) (fun _ h9 => h9) rfl dX6_panel_87 ?_
      refine W.widen (k := 1) (n := 31) (by omega) (by omega) ?_
      subst hQ
      exact W.iret hx hb hr (fun t9 ht9 hW9 => ⟨⟨_, _, rfl, rfl, ⟨by rw [aPanel, cif_pos ⟨hpp, by omega⟩, cif_pos (by omega), hc2]; rfl, by rw [ht9]; exact hP, by rw [hAe]; exact hD⟩⟩, by rw [hAe]; exact hS.F ht9⟩) (by rw [hAe]; exact hS.2.2) dX6_panel_90
    by_cases hc3 : what = 3
    · refine rv_top (y := 3) hc3 ?_
      refine lv_tableIn (tgt := 91) hx hb dX6_panel_16 (by decide) (by decide) rfl (by decide) ?_
      refine lv_aload_n hx hb dX6_panel_91 rfl (lv_at hl 0 rfl) ?_
      refine va_get (D := D) (ci := 0) (v := .int (iI (pv v p 3))) (C := RX1) (T := TX1) (N := 7) hx hb ht inTB_X1 hown hK hPn 0 rfl rfl 3 (by decide) (ht _ tb_149) (fun _ h9 => h9) rfl dX6_panel_92 ?_
      refine W.widen (k := 1) (n := 31) (by omega) (by omega) ?_
      subst hQ
      exact W.iret hx hb hr (fun t9 ht9 hW9 => ⟨⟨_, _, rfl, rfl, ⟨by rw [aPanel, cif_pos ⟨hpp, by omega⟩, cif_pos (by omega), hc3]; rfl, by rw [ht9]; exact hP, by rw [hAe]; exact hD⟩⟩, by rw [hAe]; exact hS.F ht9⟩) (by rw [hAe]; exact hS.2.2) dX6_panel_95
    by_cases hc4 : what = 4
    · refine rv_top (y := 4) hc4 ?_
      refine lv_tableIn (tgt := 96) hx hb dX6_panel_16 (by decide) (by decide) rfl (by decide) ?_
      refine lv_aload_n hx hb dX6_panel_96 rfl (lv_at hl 0 rfl) ?_
      refine va_get (D := D) (ci := 0) (v := .int (iI (pv v p 4))) (C := RX1) (T := TX1) (N := 7) hx hb ht inTB_X1 hown hK hPn 0 rfl rfl 4 (by decide) (ht _ tb_153) (fun _ h9 => h9) rfl dX6_panel_97 ?_
      refine W.widen (k := 1) (n := 31) (by omega) (by omega) ?_
      subst hQ
      exact W.iret hx hb hr (fun t9 ht9 hW9 => ⟨⟨_, _, rfl, rfl, ⟨by rw [aPanel, cif_pos ⟨hpp, by omega⟩, cif_pos (by omega), hc4]; rfl, by rw [ht9]; exact hP, by rw [hAe]; exact hD⟩⟩, by rw [hAe]; exact hS.F ht9⟩) (by rw [hAe]; exact hS.2.2) dX6_panel_100
    by_cases hc5 : what = 5
    · refine rv_top (y := 5) hc5 ?_
      refine lv_tableIn (tgt := 101) hx hb dX6_panel_16 (by decide) (by decide) rfl (by decide) ?_
      refine lv_aload_n hx hb dX6_panel_101 rfl (lv_at hl 0 rfl) ?_
      refine va_get (D := D) (ci := 0) (v := .int (iI (per (pv v p 0) (pv v p 1)))) (C := RX1) (T := TX1) (N := 7) hx hb ht inTB_X1 hown hK hPn 0 rfl rfl 5 (by decide) (ht _ tb_155) (fun _ h9 => h9) rfl dX6_panel_102 ?_
      refine W.widen (k := 1) (n := 31) (by omega) (by omega) ?_
      subst hQ
      exact W.iret hx hb hr (fun t9 ht9 hW9 => ⟨⟨_, _, rfl, rfl, ⟨by rw [aPanel, cif_pos ⟨hpp, by omega⟩, cif_neg (by omega), cif_pos hc5], by rw [ht9]; exact hP, by rw [hAe]; exact hD⟩⟩, by rw [hAe]; exact hS.F ht9⟩) (by rw [hAe]; exact hS.2.2) dX6_panel_105
    by_cases hc6 : what = 6
    · refine rv_top (y := 6) hc6 ?_
      refine lv_tableIn (tgt := 106) hx hb dX6_panel_16 (by decide) (by decide) rfl (by decide) ?_
      refine lv_aload_n hx hb dX6_panel_106 rfl (lv_at hl 0 rfl) ?_
      refine vp_callSi (W.runV (As := []) (rest := []) ⟨hx, hb, hml, hown, hts⟩ (c_X1_greatestDepth l D cs y5 (pv v p 0) (pv v p 1) (pv v p 2) (pv v p 3) (pv v p 4)) (cwV 0 hts (gV tb_420 tb_421 tb_422 tb_5 tb_423) rfl rfl rfl (by decide +kernel) ⟨Nat.le_of_ble_eq_true rfl, Nat.le_of_ble_eq_true rfl⟩) (preV_pan hK hpan5) rfl rfl hl.1 rfl (lv_room (Nat.le_of_ble_eq_true rfl)) dX6_panel_107 ⟨Nat.le_of_ble_eq_true rfl, Nat.le_of_ble_eq_true rfl⟩) (fun r9 hr9 => ?_)
      obtain ⟨rfl, hx107_0⟩ := hr9
      refine W.widen (k := 1) (n := 31) (by omega) (by omega) ?_
      subst hQ
      exact W.iret hx hb hr (fun t9 ht9 hW9 => ⟨⟨_, _, rfl, rfl, ⟨by rw [aPanel, cif_pos ⟨hpp, by omega⟩, cif_neg (by omega), cif_neg (by omega), cif_pos (by omega), aSum, cif_pos hc6], by rw [ht9]; exact hP, by rw [hAe]; exact hD⟩⟩, by rw [hAe]; exact hS.F ht9⟩) (by rw [hAe]; exact hS.2.2) dX6_panel_110
    by_cases hc7 : what = 7
    · refine rv_top (y := 7) hc7 ?_
      refine lv_tableIn (tgt := 111) hx hb dX6_panel_16 (by decide) (by decide) rfl (by decide) ?_
      refine lv_aload_n hx hb dX6_panel_111 rfl (lv_at hl 0 rfl) ?_
      refine vp_callSi (W.runV (As := []) (rest := []) ⟨hx, hb, hml, hown, hts⟩ (c_X1_depthsTogether l D cs y5 (pv v p 0) (pv v p 1) (pv v p 2) (pv v p 3) (pv v p 4)) (cwV 0 hts (gV tb_433 tb_434 tb_435 tb_5 tb_436) rfl rfl rfl (by decide +kernel) ⟨Nat.le_of_ble_eq_true rfl, Nat.le_of_ble_eq_true rfl⟩) (preV_pan hK hpan5) rfl rfl hl.1 rfl (lv_room (Nat.le_of_ble_eq_true rfl)) dX6_panel_112 ⟨Nat.le_of_ble_eq_true rfl, Nat.le_of_ble_eq_true rfl⟩) (fun r9 hr9 => ?_)
      subst hr9
      refine W.widen (k := 1) (n := 31) (by omega) (by omega) ?_
      subst hQ
      exact W.iret hx hb hr (fun t9 ht9 hW9 => ⟨⟨_, _, rfl, rfl, ⟨by rw [aPanel, cif_pos ⟨hpp, by omega⟩, cif_neg (by omega), cif_neg (by omega), cif_pos (by omega), aSum, cif_neg (by omega), cif_pos hc7], by rw [ht9]; exact hP, by rw [hAe]; exact hD⟩⟩, by rw [hAe]; exact hS.F ht9⟩) (by rw [hAe]; exact hS.2.2) dX6_panel_115
    by_cases hc8 : what = 8
    · refine rv_top (y := 8) hc8 ?_
      refine lv_tableIn (tgt := 116) hx hb dX6_panel_16 (by decide) (by decide) rfl (by decide) ?_
      refine lv_aload_n hx hb dX6_panel_116 rfl (lv_at hl 0 rfl) ?_
      refine vp_callSi (W.runV (As := []) (rest := []) ⟨hx, hb, hml, hown, hts⟩ (c_X1_unlikeDepths l D cs y5 (pv v p 0) (pv v p 1) (pv v p 2) (pv v p 3) (pv v p 4)) (cwV 0 hts (gV tb_437 tb_438 tb_439 tb_5 tb_440) rfl rfl rfl (by decide +kernel) ⟨Nat.le_of_ble_eq_true rfl, Nat.le_of_ble_eq_true rfl⟩) (preV_pan hK hpan5) rfl rfl hl.1 rfl (lv_room (Nat.le_of_ble_eq_true rfl)) dX6_panel_117 ⟨Nat.le_of_ble_eq_true rfl, Nat.le_of_ble_eq_true rfl⟩) (fun r9 hr9 => ?_)
      subst hr9
      refine W.widen (k := 1) (n := 31) (by omega) (by omega) ?_
      subst hQ
      exact W.iret hx hb hr (fun t9 ht9 hW9 => ⟨⟨_, _, rfl, rfl, ⟨by rw [aPanel, cif_pos ⟨hpp, by omega⟩, cif_neg (by omega), cif_neg (by omega), cif_pos (by omega), aSum, cif_neg (by omega), cif_neg (by omega), cif_pos hc8, bcW_eq hvk hvn hvf], by rw [ht9]; exact hP, by rw [hAe]; exact hD⟩⟩, by rw [hAe]; exact hS.F ht9⟩) (by rw [hAe]; exact hS.2.2) dX6_panel_120
    by_cases hc9 : what = 9
    · refine rv_top (y := 9) hc9 ?_
      refine lv_tableIn (tgt := 121) hx hb dX6_panel_16 (by decide) (by decide) rfl (by decide) ?_
      refine lv_aload_n hx hb dX6_panel_121 rfl (lv_at hl 0 rfl) ?_
      refine vp_callSi (W.runV (As := []) (rest := []) ⟨hx, hb, hml, hown, hts⟩ (c_X1_isMirrored l D cs y5 (pv v p 0) (pv v p 1) (pv v p 2) (pv v p 3) (pv v p 4)) (cwV 0 hts (gV tb_447 tb_448 tb_449 tb_5 tb_450) rfl rfl rfl (by decide +kernel) ⟨Nat.le_of_ble_eq_true rfl, Nat.le_of_ble_eq_true rfl⟩) (preV_pan hK hpan5) rfl rfl hl.1 rfl (lv_room (Nat.le_of_ble_eq_true rfl)) dX6_panel_122 ⟨Nat.le_of_ble_eq_true rfl, Nat.le_of_ble_eq_true rfl⟩) (fun r9 hr9 => ?_)
      rcases hr9 with ⟨rfl, hb122⟩ | ⟨rfl, hb122⟩
      · refine rv_if_eq (tgt := 132) hx hb dX6_panel_125 (by decide) (by decide) (fun q => absurd q (by decide)) (fun _ => ?_)
        refine rv_iconst hx hb dX6_panel_128 ?_
        refine lv_goto (tgt := 133) hx hb dX6_panel_129 (by decide) ?_
        refine W.widen (k := 1) (n := 31) (by omega) (by omega) ?_
        subst hQ
        exact W.iret hx hb hr (fun t9 ht9 hW9 => ⟨⟨_, _, rfl, rfl, ⟨by rw [aPanel, cif_pos ⟨hpp, by omega⟩, cif_neg (by omega), cif_neg (by omega), cif_pos (by omega), aSum, cif_neg (by omega), cif_neg (by omega), cif_neg (by omega), cif_pos hb122], by rw [ht9]; exact hP, by rw [hAe]; exact hD⟩⟩, by rw [hAe]; exact hS.F ht9⟩) (by rw [hAe]; exact hS.2.2) dX6_panel_133
      · refine rv_if_eq (tgt := 132) hx hb dX6_panel_125 (by decide) (by decide) (fun _ => ?_) (fun q => absurd q (by decide))
        refine rv_iconst hx hb dX6_panel_132 ?_
        refine W.widen (k := 1) (n := 31) (by omega) (by omega) ?_
        subst hQ
        exact W.iret hx hb hr (fun t9 ht9 hW9 => ⟨⟨_, _, rfl, rfl, ⟨by rw [aPanel, cif_pos ⟨hpp, by omega⟩, cif_neg (by omega), cif_neg (by omega), cif_pos (by omega), aSum, cif_neg (by omega), cif_neg (by omega), cif_neg (by omega), cif_neg hb122], by rw [ht9]; exact hP, by rw [hAe]; exact hD⟩⟩, by rw [hAe]; exact hS.F ht9⟩) (by rw [hAe]; exact hS.2.2) dX6_panel_133
    by_cases hc10 : what = 10
    · refine rv_top (y := 10) hc10 ?_
      refine lv_tableIn (tgt := 134) hx hb dX6_panel_16 (by decide) (by decide) rfl (by decide) ?_
      refine lv_aload_n hx hb dX6_panel_134 rfl (lv_at hl 0 rfl) ?_
      have hFc := va_free (wc := ([] : va_W)) hD hS hA [] rfl
      have hPc := hP.sub (ws' := ([] : va_W)) [] rfl
      have hDc := hD.sub (ws' := ([] : va_W)) [] (by decide) rfl
      refine va_calli (va_runV (As := []) (rest := []) ⟨hx, hb, hml, hown, hts⟩ (c_X1_evenness l D cs H.size y5 (pv v p 0) (pv v p 1) (pv v p 2) (pv v p 3) (pv v p 4)) (cwV 0 hts (gV tb_451 tb_452 tb_453 tb_5 tb_454) rfl rfl rfl (by decide +kernel) ⟨Nat.le_of_ble_eq_true rfl, Nat.le_of_ble_eq_true rfl⟩) (preV_M (X := fun U H => PanelAt D cs (fun _ => False) H y5 (pv v p 0) (pv v p 1) (pv v p 2) (pv v p 3) (pv v p 4)) Stb_H hK (PanelAt.recv hK hpan5) hPc hDc hpan5.any) rfl rfl hl.1 rfl (lv_room (Nat.le_of_ble_eq_true rfl)) dX6_panel_135 ⟨Nat.le_of_ble_eq_true rfl, Nat.le_of_ble_eq_true rfl⟩) hS (fun q _ h => hFc q h) hFc (fun r9 u9 t9 H9 locs ht9 hvm9 hw9 hB9 hz9 hk9 hS => ?_)
      obtain rfl := hw9
      obtain ⟨hf135_0, hP1, hD1⟩ := hB9
      rw [ht9] at hP1
      obtain ⟨hPj, hDj⟩ := va_join (wr := [_, _, _, _, _, _, _, _, _, _, _, _, _, _]) hP hD [] [0, 1, 2, 3, 4, 5, 6, 7, 8, 9, 10, 11, 12, 13] rfl rfl (by decide) (by decide) hk9 hFc hP1 hD1
      generalize H9 = H at *
      have hP : va_P D classes (xW cs ad len pl rlen rpc run_ rbo rcw rt tx gp nu kept gq swl sun sbo scw bo cu lo wh dps alk bof us bl lg) H := hPj
      have hD : va_D A (xW cs ad len pl rlen rpc run_ rbo rcw rt tx gp nu kept gq swl sun sbo scw bo cu lo wh dps alk bof us bl lg) := hDj
      subst hf135_0
      subst hQ
      exact W.iret hx hb hr (fun t9 ht9 hW9 => ⟨⟨_, _, rfl, rfl, ⟨by rw [aPanel, cif_pos ⟨hpp, by omega⟩, cif_neg (by omega), cif_neg (by omega), cif_neg (by omega)], by rw [ht9]; exact hP, by rw [hAe]; exact hD⟩⟩, by rw [hAe]; exact hS.F ht9⟩) (by rw [hAe]; exact hS.2.2) dX6_panel_138
    refine lv_tableOut (tgt := 139) hx hb dX6_panel_16 (by rw [iI_toInt (by omega)]; omega) (by decide) ?_
    refine rv_iconst hx hb dX6_panel_139 ?_
    refine W.widen (k := 1) (n := 31) (by omega) (by omega) ?_
    subst hQ
    exact W.iret hx hb hr (fun t9 ht9 hW9 => ⟨⟨_, _, rfl, rfl, ⟨by rw [aPanel, cif_neg (fun q => by have := q.2; omega)], by rw [ht9]; exact hP, by rw [hAe]; exact hD⟩⟩, by rw [hAe]; exact hS.F ht9⟩) (by rw [hAe]; exact hS.2.2) dX6_panel_140
  · rw [cF_neg hq5]
    refine W.eq (g2 := F0 m 8 ls [.null]) rfl ?_
    refine lv_astore_nN (lv' := [(3, .null), (0, .ref (ad 0)), (1, .int (iI p)), (2, .int (iI what))]) hx hb dX6_panel_8 rfl hl (by decide) rfl (fun ls hl => ?_)
    refine lv_aload_nN hx hb dX6_panel_9 rfl (lv_at hl 0 rfl) ?_
    refine lv_ifnonnullN hx hb dX6_panel_10 ?_
    refine rv_iconst hx hb dX6_panel_13 ?_
    refine W.widen (k := 1) (n := 31) (by omega) (by omega) ?_
    subst hQ
    exact W.iret hx hb hr (fun t9 ht9 hW9 => ⟨⟨_, _, rfl, rfl, ⟨by rw [aPanel, cif_neg (fun q => by have := q.1; omega)], by rw [ht9]; exact hP, by rw [hAe]; exact hD⟩⟩, by rw [hAe]; exact hS.F ht9⟩) (by rw [hAe]; exact hS.2.2) dX6_panel_14

abbrev rm_X6_well : Room := { frames := 3, cells := 0, slots := 0, locals := 65 }
set_option maxHeartbeats 8000000 in
set_option maxRecDepth 100000 in
/-- well -/
theorem c_X6_well (l : Launch) (D : va_G) (cs : Nat → ClassId) (ad : Nat → Nat) (sz : Nat) (len : Int) (pl : Nat) (rlen : Int) (rpc : Int) (run_ : Int) (rbo : Int) (rcw : Int) (rt : Value) (tx : Nat → Int) (gp : Nat → Option Nat) (nu : Nat → Int) (kept : Int) (gq : Nat → Option Nat) (swl : Int) (sun : Int) (sbo : Int) (scw : Int) (bo : Int) (cu : Int) (lo : Int) (wh : Int) (dps : Nat → Int) (alk : Nat → Int) (bof : Nat → Int) (us : Nat → Int) (bl : Nat → Int) (lg : Nat → Int) (M : Nat → Prop) (v : Nat → Int) (bf : Nat → Int) (p : Int) (i : Int) (hM : ∀ q, inAd ad 0 14 q → M q) (hkp : 0 ≤ kept ∧ kept ≤ 6) (hlen : 0 ≤ len ∧ len ≤ 200) (hp0 : -2147483648 ≤ p ∧ p < 2147483648) (hi : -2147483648 ≤ i ∧ i < 2147483648) : Met l yX6_well (Cond.code yX6_well cX6_well 4 (some .int) :: TB) rm_X6_well (va_Pc [.ref (ad 0), .int (iI p), .int (iI i)] (MPre D cs sz (xW cs ad len pl rlen rpc run_ rbo rcw rt tx gp nu kept gq swl sun sbo scw bo cu lo wh dps alk bof us bl lg) (fun U H => XI D cs M pl v kept gq bf U H))) (va_Qi (fun (r u : Int32) => r = u) (fun r t => (r = iI (aWell v p i)) ∧ va_P D classes (xW cs ad len pl rlen rpc run_ rbo rcw rt tx gp nu kept gq swl sun sbo scw bo cu lo wh dps alk bof us bl lg) t.heap ∧ va_D (va_A (xW cs ad len pl rlen rpc run_ rbo rcw rt tx gp nu kept gq swl sun sbo scw bo cu lo wh dps alk bof us bl lg) sz) (xW cs ad len pl rlen rpc run_ rbo rcw rt tx gp nu kept gq swl sun sbo scw bo cu lo wh dps alk bof us bl lg)) (va_A (xW cs ad len pl rlen rpc run_ rbo rcw rt tx gp nu kept gq swl sun sbo scw bo cu lo wh dps alk bof us bl lg) sz)) 0 0 (va_A (xW cs ad len pl rlen rpc run_ rbo rcw rt tx gp nu kept gq swl sun sbo scw bo cu lo wh dps alk bof us bl lg) sz) := by
  refine enter (cc := cX6_well) (maxL := 4) (ret := (some .int)) (by decide) (Nat.le_of_ble_eq_true rfl) ?_
  intro pg ev s m below meth c Q ls hx hb hml hown hts hr hlocks hnm ⟨hsz, hP, hD0, hK, hX0⟩ hl hQ
  have ht : ∀ w ∈ TB, w.before _ s = true := fun w h => hts w (List.mem_cons_of_mem _ h)
  subst hsz
  have hD := hD0.self (sz := s.heap.size)
  obtain ⟨A, hAe⟩ : ∃ A, va_A (xW cs ad len pl rlen rpc run_ rbo rcw rt tx gp nu kept gq swl sun sbo scw bo cu lo wh dps alk bof us bl lg) s.heap.size = A := ⟨_, rfl⟩
  rw [hAe] at hD
  have hA : ∀ q : Nat, s.heap.size ≤ q → A q := fun q h => by rw [← hAe]; exact Or.inr h
  obtain ⟨H, hH⟩ : ∃ H, H = s.heap := ⟨_, rfl⟩
  obtain ⟨locs, hlocs⟩ : ∃ locs : List Loc, locs = [] := ⟨_, rfl⟩
  have hS : va_S A s.heap H locs := by rw [hH, hlocs]; exact va_S.rf
  rw [← hH] at hP
  suffices hgo : W pg l ev rm_X6_well s m [.ref (ad 0), .int (iI p), .int (iI i)].toArray below meth c H locs 0 0 Q (F0 m 0 ls []) by rw [hH, hlocs] at hgo; exact hgo
  have hl : lv_has ls 4 [(0, .ref (ad 0)), (1, .int (iI p)), (2, .int (iI i))] := hl
  have hXI := XI.inS hX0 (fun q z => hM q (Mw_xW q z)) hAe (show va_S A s.heap H locs from hS)
  have hvL := hX0.1.2.1.1
  obtain ⟨hv20, hv21, hv22, hv23, hvp⟩ := id hvL
  obtain ⟨arr, g, hG0⟩ := hX0.1.2.1.g
  have hGG := hG0.inS (fun q z => hM q (Mw_xW q z)) hAe hS
  obtain ⟨_, hPl, hna, hnr, hgy⟩ := id hGG
  refine lv_aload_n hx hb dX6_well_0 rfl (lv_at hl 0 rfl) ?_
  refine va_get (D := D) (ci := 5) (v := .ref pl) (C := RX6) (T := TX6) (N := 6) hx hb ht inTB_X6 hown hK hP 0 rfl rfl 5 (by decide) (ht _ tb_204) (fun _ h9 => h9) rfl dX6_well_1 ?_
  refine lv_iload_n hx hb dX6_well_4 rfl (lv_at hl 1 rfl) ?_
  refine va_csq (W.runV (As := [.int (iI p)]) (rest := []) ⟨hx, hb, hml, hown, hts⟩ (c_X3_panelAt l D cs pl arr ((v 20).toNat) g (v 21) (v 22) (v 23) p (by omega) (by omega)) (cwV 1 hts (gV tb_314 tb_315 tb_316 tb_7 tb_317) rfl rfl rfl (by decide +kernel) ⟨Nat.le_of_ble_eq_true rfl, Nat.le_of_ble_eq_true rfl⟩) (preV_pi hK hGG.pin) rfl rfl hl.1 rfl (lv_room (Nat.le_of_ble_eq_true rfl)) dX6_well_5 ⟨Nat.le_of_ble_eq_true rfl, Nat.le_of_ble_eq_true rfl⟩) (fun r9 hr9 => ?_)
  subst hr9
  by_cases hq5 : 0 ≤ p ∧ p < ((((v 20).toNat) : Nat) : Int)
  · obtain ⟨y5, hy5, hpan5⟩ := (show ∃ y, g p.toNat = some y ∧ PanelAt D cs M H y (pv v p 0) (pv v p 1) (pv v p 2) (pv v p 3) (pv v p 4) from hgy p.toNat (by omega))
    rw [cF_pos hq5, hy5]
    refine W.eq (g2 := F0 m 8 ls [.ref y5]) rfl ?_
    have hpp : 0 ≤ p ∧ p < v 20 := by omega
    obtain ⟨hvk, hvn, hvf, hvo, hvw⟩ := vL_p hvL hpp
    have hnb := isPr_bd hvn
    have hpb := per_bd (k := pv v p 0) hvn
    have hfb := fOK_bd hvk hvn hvf
    obtain ⟨_, r0, row0, hPn, _, _, _⟩ := id hpan5
    refine lv_astore_n (lv' := [(3, .ref y5), (0, .ref (ad 0)), (1, .int (iI p)), (2, .int (iI i))]) hx hb dX6_well_8 rfl hl (by decide) rfl (fun ls hl => ?_)
    refine lv_aload_n hx hb dX6_well_9 rfl (lv_at hl 0 rfl) ?_
    refine lv_ifnull hx hb dX6_well_10 ?_
    refine lv_aload_n hx hb dX6_well_13 rfl (lv_at hl 0 rfl) ?_
    refine lv_iload_n hx hb dX6_well_14 rfl (lv_at hl 3 rfl) ?_
    refine vp_callSi (W.runV (As := [.int (iI i)]) (rest := []) ⟨hx, hb, hml, hown, hts⟩ (c_X1_hasWell l D cs y5 (pv v p 0) (pv v p 1) (pv v p 2) (pv v p 3) (pv v p 4) i (by omega)) (cwV 1 hts (gV tb_467 tb_468 tb_469 tb_5 tb_470) rfl rfl rfl (by decide +kernel) ⟨Nat.le_of_ble_eq_true rfl, Nat.le_of_ble_eq_true rfl⟩) (preV_pan hK hpan5) rfl rfl hl.1 rfl (lv_room (Nat.le_of_ble_eq_true rfl)) dX6_well_15 ⟨Nat.le_of_ble_eq_true rfl, Nat.le_of_ble_eq_true rfl⟩) (fun r9 hr9 => ?_)
    rcases hr9 with ⟨rfl, hb15⟩ | ⟨rfl, hb15⟩
    · refine rv_if_ne (tgt := 23) hx hb dX6_well_18 (by decide) (by decide) (fun _ => ?_) (fun q => absurd q (by decide))
      refine lv_aload_n hx hb dX6_well_23 rfl (lv_at hl 0 rfl) ?_
      refine lv_iload_n hx hb dX6_well_24 rfl (lv_at hl 3 rfl) ?_
      refine vp_callSi (W.runV (As := [.int (iI i)]) (rest := []) ⟨hx, hb, hml, hown, hts⟩ (c_X1_wellDepth l D cs y5 (pv v p 0) (pv v p 1) (pv v p 2) (pv v p 3) (pv v p 4) i (by omega)) (cwV 1 hts (gV tb_471 tb_425 tb_426 tb_5 tb_427) rfl rfl rfl (by decide +kernel) ⟨Nat.le_of_ble_eq_true rfl, Nat.le_of_ble_eq_true rfl⟩) (preV_pan hK hpan5) rfl rfl hl.1 rfl (lv_room (Nat.le_of_ble_eq_true rfl)) dX6_well_25 ⟨Nat.le_of_ble_eq_true rfl, Nat.le_of_ble_eq_true rfl⟩) (fun r9 hr9 => ?_)
      obtain ⟨rfl, hx25_0⟩ := hr9
      subst hQ
      exact W.iret hx hb hr (fun t9 ht9 hW9 => ⟨⟨_, _, rfl, rfl, ⟨by rw [aWell, cif_pos ⟨hpp, hb15⟩], by rw [ht9]; exact hP, by rw [hAe]; exact hD⟩⟩, by rw [hAe]; exact hS.F ht9⟩) (by rw [hAe]; exact hS.2.2) dX6_well_28
    · refine rv_if_ne (tgt := 23) hx hb dX6_well_18 (by decide) (by decide) (fun q => absurd q (by decide)) (fun _ => ?_)
      refine rv_iconst hx hb dX6_well_21 ?_
      subst hQ
      exact W.iret hx hb hr (fun t9 ht9 hW9 => ⟨⟨_, _, rfl, rfl, ⟨by rw [aWell, cif_neg (fun q => by first | exact hb15 q.2 | (have := q.1; omega))], by rw [ht9]; exact hP, by rw [hAe]; exact hD⟩⟩, by rw [hAe]; exact hS.F ht9⟩) (by rw [hAe]; exact hS.2.2) dX6_well_22
  · rw [cF_neg hq5]
    refine W.eq (g2 := F0 m 8 ls [.null]) rfl ?_
    refine lv_astore_nN (lv' := [(3, .null), (0, .ref (ad 0)), (1, .int (iI p)), (2, .int (iI i))]) hx hb dX6_well_8 rfl hl (by decide) rfl (fun ls hl => ?_)
    refine lv_aload_nN hx hb dX6_well_9 rfl (lv_at hl 0 rfl) ?_
    refine lv_ifnullN (tgt := 21) hx hb dX6_well_10 (by decide) ?_
    refine rv_iconst hx hb dX6_well_21 ?_
    subst hQ
    exact W.iret hx hb hr (fun t9 ht9 hW9 => ⟨⟨_, _, rfl, rfl, ⟨by rw [aWell, cif_neg (fun q => by first | exact hb15 q.2 | (have := q.1; omega))], by rw [ht9]; exact hP, by rw [hAe]; exact hD⟩⟩, by rw [hAe]; exact hS.F ht9⟩) (by rw [hAe]; exact hS.2.2) dX6_well_22

abbrev rm_X6_counts : Room := { frames := 4, cells := 0, slots := 0, locals := 90 }
set_option maxHeartbeats 8000000 in
set_option maxRecDepth 100000 in
/-- counts -/
theorem c_X6_counts (l : Launch) (D : va_G) (cs : Nat → ClassId) (ad : Nat → Nat) (sz : Nat) (len : Int) (pl : Nat) (rlen : Int) (rpc : Int) (run_ : Int) (rbo : Int) (rcw : Int) (rt : Value) (tx : Nat → Int) (gp : Nat → Option Nat) (nu : Nat → Int) (kept : Int) (gq : Nat → Option Nat) (swl : Int) (sun : Int) (sbo : Int) (scw : Int) (bo : Int) (cu : Int) (lo : Int) (wh : Int) (dps : Nat → Int) (alk : Nat → Int) (bof : Nat → Int) (us : Nat → Int) (bl : Nat → Int) (lg : Nat → Int) (M : Nat → Prop) (v : Nat → Int) (bf : Nat → Int) (p : Int) (sh : Int) (d : Int) (hM : ∀ q, inAd ad 0 14 q → M q) (hkp : 0 ≤ kept ∧ kept ≤ 6) (hlen : 0 ≤ len ∧ len ≤ 200) (hp0 : -2147483648 ≤ p ∧ p < 2147483648) (hsh0 : -2147483648 ≤ sh ∧ sh < 2147483648) (hd0 : -2147483648 ≤ d ∧ d < 2147483648) : Met l yX6_counts (Cond.code yX6_counts cX6_counts 5 (some .int) :: TB) rm_X6_counts (va_Pc [.ref (ad 0), .int (iI p), .int (iI sh), .int (iI d)] (MPre D cs sz (xW cs ad len pl rlen rpc run_ rbo rcw rt tx gp nu kept gq swl sun sbo scw bo cu lo wh dps alk bof us bl lg) (fun U H => XI D cs M pl v kept gq bf U H))) (va_Qi (fun (r u : Int32) => r = u) (fun r t => (r = iI (aCounts v p sh d)) ∧ va_P D classes (xW cs ad len pl rlen rpc run_ rbo rcw rt tx gp nu kept gq swl sun sbo scw bo cu lo wh dps alk bof us bl lg) t.heap ∧ va_D (va_A (xW cs ad len pl rlen rpc run_ rbo rcw rt tx gp nu kept gq swl sun sbo scw bo cu lo wh dps alk bof us bl lg) sz) (xW cs ad len pl rlen rpc run_ rbo rcw rt tx gp nu kept gq swl sun sbo scw bo cu lo wh dps alk bof us bl lg)) (va_A (xW cs ad len pl rlen rpc run_ rbo rcw rt tx gp nu kept gq swl sun sbo scw bo cu lo wh dps alk bof us bl lg) sz)) 0 0 (va_A (xW cs ad len pl rlen rpc run_ rbo rcw rt tx gp nu kept gq swl sun sbo scw bo cu lo wh dps alk bof us bl lg) sz) := by
  refine enter (cc := cX6_counts) (maxL := 5) (ret := (some .int)) (by decide) (Nat.le_of_ble_eq_true rfl) ?_
  intro pg ev s m below meth c Q ls hx hb hml hown hts hr hlocks hnm ⟨hsz, hP, hD0, hK, hX0⟩ hl hQ
  have ht : ∀ w ∈ TB, w.before _ s = true := fun w h => hts w (List.mem_cons_of_mem _ h)
  subst hsz
  have hD := hD0.self (sz := s.heap.size)
  obtain ⟨A, hAe⟩ : ∃ A, va_A (xW cs ad len pl rlen rpc run_ rbo rcw rt tx gp nu kept gq swl sun sbo scw bo cu lo wh dps alk bof us bl lg) s.heap.size = A := ⟨_, rfl⟩
  rw [hAe] at hD
  have hA : ∀ q : Nat, s.heap.size ≤ q → A q := fun q h => by rw [← hAe]; exact Or.inr h
  obtain ⟨H, hH⟩ : ∃ H, H = s.heap := ⟨_, rfl⟩
  obtain ⟨locs, hlocs⟩ : ∃ locs : List Loc, locs = [] := ⟨_, rfl⟩
  have hS : va_S A s.heap H locs := by rw [hH, hlocs]; exact va_S.rf
  rw [← hH] at hP
  suffices hgo : W pg l ev rm_X6_counts s m [.ref (ad 0), .int (iI p), .int (iI sh), .int (iI d)].toArray below meth c H locs 0 0 Q (F0 m 0 ls []) by rw [hH, hlocs] at hgo; exact hgo
  have hl : lv_has ls 5 [(0, .ref (ad 0)), (1, .int (iI p)), (2, .int (iI sh)), (3, .int (iI d))] := hl
  have hXI := XI.inS hX0 (fun q z => hM q (Mw_xW q z)) hAe (show va_S A s.heap H locs from hS)
  have hvL := hX0.1.2.1.1
  obtain ⟨hv20, hv21, hv22, hv23, hvp⟩ := id hvL
  obtain ⟨arr, g, hG0⟩ := hX0.1.2.1.g
  have hGG := hG0.inS (fun q z => hM q (Mw_xW q z)) hAe hS
  obtain ⟨_, hPl, hna, hnr, hgy⟩ := id hGG
  refine lv_aload_n hx hb dX6_counts_0 rfl (lv_at hl 0 rfl) ?_
  refine va_get (D := D) (ci := 5) (v := .ref pl) (C := RX6) (T := TX6) (N := 6) hx hb ht inTB_X6 hown hK hP 0 rfl rfl 5 (by decide) (ht _ tb_204) (fun _ h9 => h9) rfl dX6_counts_1 ?_
  refine lv_iload_n hx hb dX6_counts_4 rfl (lv_at hl 1 rfl) ?_
  refine va_csq (W.runV (As := [.int (iI p)]) (rest := []) ⟨hx, hb, hml, hown, hts⟩ (c_X3_panelAt l D cs pl arr ((v 20).toNat) g (v 21) (v 22) (v 23) p (by omega) (by omega)) (cwV 1 hts (gV tb_314 tb_315 tb_316 tb_7 tb_317) rfl rfl rfl (by decide +kernel) ⟨Nat.le_of_ble_eq_true rfl, Nat.le_of_ble_eq_true rfl⟩) (preV_pi hK hGG.pin) rfl rfl hl.1 rfl (lv_room (Nat.le_of_ble_eq_true rfl)) dX6_counts_5 ⟨Nat.le_of_ble_eq_true rfl, Nat.le_of_ble_eq_true rfl⟩) (fun r9 hr9 => ?_)
  subst hr9
  by_cases hq5 : 0 ≤ p ∧ p < ((((v 20).toNat) : Nat) : Int)
  · obtain ⟨y5, hy5, hpan5⟩ := (show ∃ y, g p.toNat = some y ∧ PanelAt D cs M H y (pv v p 0) (pv v p 1) (pv v p 2) (pv v p 3) (pv v p 4) from hgy p.toNat (by omega))
    rw [cF_pos hq5, hy5]
    refine W.eq (g2 := F0 m 8 ls [.ref y5]) rfl ?_
    have hpp : 0 ≤ p ∧ p < v 20 := by omega
    obtain ⟨hvk, hvn, hvf, hvo, hvw⟩ := vL_p hvL hpp
    have hnb := isPr_bd hvn
    have hpb := per_bd (k := pv v p 0) hvn
    have hfb := fOK_bd hvk hvn hvf
    obtain ⟨_, r0, row0, hPn, _, _, _⟩ := id hpan5
    refine lv_astore (lv' := [(4, .ref y5), (0, .ref (ad 0)), (1, .int (iI p)), (2, .int (iI sh)), (3, .int (iI d))]) hx hb dX6_counts_8 hl (by decide) rfl (fun ls hl => ?_)
    refine lv_aload hx hb dX6_counts_10 (lv_at hl 0 rfl) ?_
    refine lv_ifnull hx hb dX6_counts_12 ?_
    refine lv_iload_n hx hb dX6_counts_15 rfl (lv_at hl 3 rfl) ?_
    refine rv_if_lt (tgt := 37) hx hb dX6_counts_16 (by decide) (by omega) (fun h16 => ?_) (fun h16 => ?_)
    · refine rv_iconst hx hb dX6_counts_37 ?_
      subst hQ
      exact W.iret hx hb hr (fun t9 ht9 hW9 => ⟨⟨_, _, rfl, rfl, ⟨by rw [aCounts, cif_neg (fun q => by first | exact hb31 q.2.2 | (have := q.1; have := q.2.1; omega))], by rw [ht9]; exact hP, by rw [hAe]; exact hD⟩⟩, by rw [hAe]; exact hS.F ht9⟩) (by rw [hAe]; exact hS.2.2) dX6_counts_38
    · refine lv_iload_n hx hb dX6_counts_19 rfl (lv_at hl 3 rfl) ?_
      refine lv_aload hx hb dX6_counts_20 (lv_at hl 0 rfl) ?_
      refine va_get (D := D) (ci := 0) (v := .int (iI (per (pv v p 0) (pv v p 1)))) (C := RX1) (T := TX1) (N := 7) hx hb ht inTB_X1 hown hK hPn 0 rfl rfl 5 (by decide) (ht _ tb_155) (fun _ h9 => h9) rfl dX6_counts_22 ?_
      refine rv_icmp_ge (tgt := 37) hx hb dX6_counts_25 (by decide) (by omega) (fun h25 => ?_) (fun h25 => ?_)
      · refine rv_iconst hx hb dX6_counts_37 ?_
        subst hQ
        exact W.iret hx hb hr (fun t9 ht9 hW9 => ⟨⟨_, _, rfl, rfl, ⟨by rw [aCounts, cif_neg (fun q => by first | exact hb31 q.2.2 | (have := q.1; have := q.2.1; omega))], by rw [ht9]; exact hP, by rw [hAe]; exact hD⟩⟩, by rw [hAe]; exact hS.F ht9⟩) (by rw [hAe]; exact hS.2.2) dX6_counts_38
      · refine lv_aload hx hb dX6_counts_28 (lv_at hl 0 rfl) ?_
        refine lv_iload_n hx hb dX6_counts_30 rfl (lv_at hl 4 rfl) ?_
        refine vp_callSi (W.runV (As := [.int (iI d)]) (rest := []) ⟨hx, hb, hml, hown, hts⟩ (c_X1_isRest l D cs y5 (pv v p 0) (pv v p 1) (pv v p 2) (pv v p 3) (pv v p 4) d (by omega)) (cwV 1 hts (gV tb_476 tb_477 tb_478 tb_5 tb_479) rfl rfl rfl (by decide +kernel) ⟨Nat.le_of_ble_eq_true rfl, Nat.le_of_ble_eq_true rfl⟩) (preV_pan hK hpan5) rfl rfl hl.1 rfl (lv_room (Nat.le_of_ble_eq_true rfl)) dX6_counts_31 ⟨Nat.le_of_ble_eq_true rfl, Nat.le_of_ble_eq_true rfl⟩) (fun r9 hr9 => ?_)
        rcases hr9 with ⟨rfl, hb31⟩ | ⟨rfl, hb31⟩
        · refine rv_if_ne (tgt := 39) hx hb dX6_counts_34 (by decide) (by decide) (fun _ => ?_) (fun q => absurd q (by decide))
          refine lv_aload hx hb dX6_counts_39 (lv_at hl 0 rfl) ?_
          refine lv_iload_n hx hb dX6_counts_41 rfl (lv_at hl 3 rfl) ?_
          refine lv_iload_n hx hb dX6_counts_42 rfl (lv_at hl 4 rfl) ?_
          refine vp_callSi (W.runV (As := [.int (iI sh), .int (iI d)]) (rest := []) ⟨hx, hb, hml, hown, hts⟩ (c_X1_countOf l D cs y5 (pv v p 0) (pv v p 1) (pv v p 2) (pv v p 3) (pv v p 4) sh d (by omega) (by omega)) (cwV 2 hts (gV tb_480 tb_481 tb_482 tb_5 tb_483) rfl rfl rfl (by decide +kernel) ⟨Nat.le_of_ble_eq_true rfl, Nat.le_of_ble_eq_true rfl⟩) (preV_pan hK hpan5) rfl rfl hl.1 rfl (lv_room (Nat.le_of_ble_eq_true rfl)) dX6_counts_43 ⟨Nat.le_of_ble_eq_true rfl, Nat.le_of_ble_eq_true rfl⟩) (fun r9 hr9 => ?_)
          subst hr9
          subst hQ
          exact W.iret hx hb hr (fun t9 ht9 hW9 => ⟨⟨_, _, rfl, rfl, ⟨by rw [aCounts, cif_pos ⟨hpp, by omega, hb31⟩], by rw [ht9]; exact hP, by rw [hAe]; exact hD⟩⟩, by rw [hAe]; exact hS.F ht9⟩) (by rw [hAe]; exact hS.2.2) dX6_counts_46
        · refine rv_if_ne (tgt := 39) hx hb dX6_counts_34 (by decide) (by decide) (fun q => absurd q (by decide)) (fun _ => ?_)
          refine rv_iconst hx hb dX6_counts_37 ?_
          subst hQ
          exact W.iret hx hb hr (fun t9 ht9 hW9 => ⟨⟨_, _, rfl, rfl, ⟨by rw [aCounts, cif_neg (fun q => by first | exact hb31 q.2.2 | (have := q.1; have := q.2.1; omega))], by rw [ht9]; exact hP, by rw [hAe]; exact hD⟩⟩, by rw [hAe]; exact hS.F ht9⟩) (by rw [hAe]; exact hS.2.2) dX6_counts_38
  · rw [cF_neg hq5]
    refine W.eq (g2 := F0 m 8 ls [.null]) rfl ?_
    refine lv_astoreN (lv' := [(4, .null), (0, .ref (ad 0)), (1, .int (iI p)), (2, .int (iI sh)), (3, .int (iI d))]) hx hb dX6_counts_8 hl (by decide) rfl (fun ls hl => ?_)
    refine lv_aloadN hx hb dX6_counts_10 (lv_at hl 0 rfl) ?_
    refine lv_ifnullN (tgt := 37) hx hb dX6_counts_12 (by decide) ?_
    refine rv_iconst hx hb dX6_counts_37 ?_
    subst hQ
    exact W.iret hx hb hr (fun t9 ht9 hW9 => ⟨⟨_, _, rfl, rfl, ⟨by rw [aCounts, cif_neg (fun q => by first | exact hb31 q.2.2 | (have := q.1; have := q.2.1; omega))], by rw [ht9]; exact hP, by rw [hAe]; exact hD⟩⟩, by rw [hAe]; exact hS.F ht9⟩) (by rw [hAe]; exact hS.2.2) dX6_counts_38

abbrev rm_X6_plane : Room := { frames := 3, cells := 0, slots := 0, locals := 66 }
set_option maxHeartbeats 8000000 in
set_option maxRecDepth 100000 in
/-- plane -/
theorem c_X6_plane (l : Launch) (D : va_G) (cs : Nat → ClassId) (ad : Nat → Nat) (sz : Nat) (len : Int) (pl : Nat) (rlen : Int) (rpc : Int) (run_ : Int) (rbo : Int) (rcw : Int) (rt : Value) (tx : Nat → Int) (gp : Nat → Option Nat) (nu : Nat → Int) (kept : Int) (gq : Nat → Option Nat) (swl : Int) (sun : Int) (sbo : Int) (scw : Int) (bo : Int) (cu : Int) (lo : Int) (wh : Int) (dps : Nat → Int) (alk : Nat → Int) (bof : Nat → Int) (us : Nat → Int) (bl : Nat → Int) (lg : Nat → Int) (M : Nat → Prop) (v : Nat → Int) (bf : Nat → Int) (p : Int) (x : Int) (y : Int) (hM : ∀ q, inAd ad 0 14 q → M q) (hkp : 0 ≤ kept ∧ kept ≤ 6) (hlen : 0 ≤ len ∧ len ≤ 200) (hp0 : -2147483648 ≤ p ∧ p < 2147483648) (hx0 : -2147483648 ≤ x ∧ x < 2147483648) (hy0 : -2147483648 ≤ y ∧ y < 2147483648) : Met l yX6_plane (Cond.code yX6_plane cX6_plane 5 (some .int) :: TB) rm_X6_plane (va_Pc [.ref (ad 0), .int (iI p), .int (iI x), .int (iI y)] (MPre D cs sz (xW cs ad len pl rlen rpc run_ rbo rcw rt tx gp nu kept gq swl sun sbo scw bo cu lo wh dps alk bof us bl lg) (fun U H => XI D cs M pl v kept gq bf U H))) (va_Qi (fun (r u : Int32) => r = u) (fun r t => (r = iI (aPlane v p x y)) ∧ va_P D classes (xW cs ad len pl rlen rpc run_ rbo rcw rt tx gp nu kept gq swl sun sbo scw bo cu lo wh dps alk bof us bl lg) t.heap ∧ va_D (va_A (xW cs ad len pl rlen rpc run_ rbo rcw rt tx gp nu kept gq swl sun sbo scw bo cu lo wh dps alk bof us bl lg) sz) (xW cs ad len pl rlen rpc run_ rbo rcw rt tx gp nu kept gq swl sun sbo scw bo cu lo wh dps alk bof us bl lg)) (va_A (xW cs ad len pl rlen rpc run_ rbo rcw rt tx gp nu kept gq swl sun sbo scw bo cu lo wh dps alk bof us bl lg) sz)) 0 0 (va_A (xW cs ad len pl rlen rpc run_ rbo rcw rt tx gp nu kept gq swl sun sbo scw bo cu lo wh dps alk bof us bl lg) sz) := by
  refine enter (cc := cX6_plane) (maxL := 5) (ret := (some .int)) (by decide) (Nat.le_of_ble_eq_true rfl) ?_
  intro pg ev s m below meth c Q ls hx hb hml hown hts hr hlocks hnm ⟨hsz, hP, hD0, hK, hX0⟩ hl hQ
  have ht : ∀ w ∈ TB, w.before _ s = true := fun w h => hts w (List.mem_cons_of_mem _ h)
  subst hsz
  have hD := hD0.self (sz := s.heap.size)
  obtain ⟨A, hAe⟩ : ∃ A, va_A (xW cs ad len pl rlen rpc run_ rbo rcw rt tx gp nu kept gq swl sun sbo scw bo cu lo wh dps alk bof us bl lg) s.heap.size = A := ⟨_, rfl⟩
  rw [hAe] at hD
  have hA : ∀ q : Nat, s.heap.size ≤ q → A q := fun q h => by rw [← hAe]; exact Or.inr h
  obtain ⟨H, hH⟩ : ∃ H, H = s.heap := ⟨_, rfl⟩
  obtain ⟨locs, hlocs⟩ : ∃ locs : List Loc, locs = [] := ⟨_, rfl⟩
  have hS : va_S A s.heap H locs := by rw [hH, hlocs]; exact va_S.rf
  rw [← hH] at hP
  suffices hgo : W pg l ev rm_X6_plane s m [.ref (ad 0), .int (iI p), .int (iI x), .int (iI y)].toArray below meth c H locs 0 0 Q (F0 m 0 ls []) by rw [hH, hlocs] at hgo; exact hgo
  have hl : lv_has ls 5 [(0, .ref (ad 0)), (1, .int (iI p)), (2, .int (iI x)), (3, .int (iI y))] := hl
  have hXI := XI.inS hX0 (fun q z => hM q (Mw_xW q z)) hAe (show va_S A s.heap H locs from hS)
  have hvL := hX0.1.2.1.1
  obtain ⟨hv20, hv21, hv22, hv23, hvp⟩ := id hvL
  obtain ⟨arr, g, hG0⟩ := hX0.1.2.1.g
  have hGG := hG0.inS (fun q z => hM q (Mw_xW q z)) hAe hS
  obtain ⟨_, hPl, hna, hnr, hgy⟩ := id hGG
  refine lv_aload_n hx hb dX6_plane_0 rfl (lv_at hl 0 rfl) ?_
  refine va_get (D := D) (ci := 5) (v := .ref pl) (C := RX6) (T := TX6) (N := 6) hx hb ht inTB_X6 hown hK hP 0 rfl rfl 5 (by decide) (ht _ tb_204) (fun _ h9 => h9) rfl dX6_plane_1 ?_
  refine lv_iload_n hx hb dX6_plane_4 rfl (lv_at hl 1 rfl) ?_
  refine va_csq (W.runV (As := [.int (iI p)]) (rest := []) ⟨hx, hb, hml, hown, hts⟩ (c_X3_panelAt l D cs pl arr ((v 20).toNat) g (v 21) (v 22) (v 23) p (by omega) (by omega)) (cwV 1 hts (gV tb_314 tb_315 tb_316 tb_7 tb_317) rfl rfl rfl (by decide +kernel) ⟨Nat.le_of_ble_eq_true rfl, Nat.le_of_ble_eq_true rfl⟩) (preV_pi hK hGG.pin) rfl rfl hl.1 rfl (lv_room (Nat.le_of_ble_eq_true rfl)) dX6_plane_5 ⟨Nat.le_of_ble_eq_true rfl, Nat.le_of_ble_eq_true rfl⟩) (fun r9 hr9 => ?_)
  subst hr9
  by_cases hq5 : 0 ≤ p ∧ p < ((((v 20).toNat) : Nat) : Int)
  · obtain ⟨y5, hy5, hpan5⟩ := (show ∃ y, g p.toNat = some y ∧ PanelAt D cs M H y (pv v p 0) (pv v p 1) (pv v p 2) (pv v p 3) (pv v p 4) from hgy p.toNat (by omega))
    rw [cF_pos hq5, hy5]
    refine W.eq (g2 := F0 m 8 ls [.ref y5]) rfl ?_
    have hpp : 0 ≤ p ∧ p < v 20 := by omega
    obtain ⟨hvk, hvn, hvf, hvo, hvw⟩ := vL_p hvL hpp
    have hnb := isPr_bd hvn
    have hpb := per_bd (k := pv v p 0) hvn
    have hfb := fOK_bd hvk hvn hvf
    obtain ⟨_, r0, row0, hPn, _, _, _⟩ := id hpan5
    refine lv_astore (lv' := [(4, .ref y5), (0, .ref (ad 0)), (1, .int (iI p)), (2, .int (iI x)), (3, .int (iI y))]) hx hb dX6_plane_8 hl (by decide) rfl (fun ls hl => ?_)
    refine lv_aload hx hb dX6_plane_10 (lv_at hl 0 rfl) ?_
    refine lv_ifnull hx hb dX6_plane_12 ?_
    refine lv_aload hx hb dX6_plane_15 (lv_at hl 0 rfl) ?_
    refine lv_iload_n hx hb dX6_plane_17 rfl (lv_at hl 3 rfl) ?_
    refine vp_callSi (W.runV (As := [.int (iI x)]) (rest := []) ⟨hx, hb, hml, hown, hts⟩ (c_X1_isRest l D cs y5 (pv v p 0) (pv v p 1) (pv v p 2) (pv v p 3) (pv v p 4) x (by omega)) (cwV 1 hts (gV tb_476 tb_477 tb_478 tb_5 tb_479) rfl rfl rfl (by decide +kernel) ⟨Nat.le_of_ble_eq_true rfl, Nat.le_of_ble_eq_true rfl⟩) (preV_pan hK hpan5) rfl rfl hl.1 rfl (lv_room (Nat.le_of_ble_eq_true rfl)) dX6_plane_18 ⟨Nat.le_of_ble_eq_true rfl, Nat.le_of_ble_eq_true rfl⟩) (fun r9 hr9 => ?_)
    rcases hr9 with ⟨rfl, hb18⟩ | ⟨rfl, hb18⟩
    · refine rv_if_eq (tgt := 33) hx hb dX6_plane_21 (by decide) (by decide) (fun q => absurd q (by decide)) (fun _ => ?_)
      refine lv_aload hx hb dX6_plane_24 (lv_at hl 0 rfl) ?_
      refine lv_iload_n hx hb dX6_plane_26 rfl (lv_at hl 4 rfl) ?_
      refine vp_callSi (W.runV (As := [.int (iI y)]) (rest := []) ⟨hx, hb, hml, hown, hts⟩ (c_X1_isRest l D cs y5 (pv v p 0) (pv v p 1) (pv v p 2) (pv v p 3) (pv v p 4) y (by omega)) (cwV 1 hts (gV tb_476 tb_477 tb_478 tb_5 tb_479) rfl rfl rfl (by decide +kernel) ⟨Nat.le_of_ble_eq_true rfl, Nat.le_of_ble_eq_true rfl⟩) (preV_pan hK hpan5) rfl rfl hl.1 rfl (lv_room (Nat.le_of_ble_eq_true rfl)) dX6_plane_27 ⟨Nat.le_of_ble_eq_true rfl, Nat.le_of_ble_eq_true rfl⟩) (fun r9 hr9 => ?_)
      rcases hr9 with ⟨rfl, hb27⟩ | ⟨rfl, hb27⟩
      · refine rv_if_ne (tgt := 35) hx hb dX6_plane_30 (by decide) (by decide) (fun _ => ?_) (fun q => absurd q (by decide))
        refine lv_aload hx hb dX6_plane_35 (lv_at hl 0 rfl) ?_
        refine lv_iload_n hx hb dX6_plane_37 rfl (lv_at hl 3 rfl) ?_
        refine lv_iload_n hx hb dX6_plane_38 rfl (lv_at hl 4 rfl) ?_
        refine vp_callSi (W.runV (As := [.int (iI x), .int (iI y)]) (rest := []) ⟨hx, hb, hml, hown, hts⟩ (c_X1_planeDepth l D cs y5 (pv v p 0) (pv v p 1) (pv v p 2) (pv v p 3) (pv v p 4) x y (by omega) (by omega)) (cwV 2 hts (gV tb_488 tb_489 tb_490 tb_5 tb_491) rfl rfl rfl (by decide +kernel) ⟨Nat.le_of_ble_eq_true rfl, Nat.le_of_ble_eq_true rfl⟩) (preV_pan hK hpan5) rfl rfl hl.1 rfl (lv_room (Nat.le_of_ble_eq_true rfl)) dX6_plane_39 ⟨Nat.le_of_ble_eq_true rfl, Nat.le_of_ble_eq_true rfl⟩) (fun r9 hr9 => ?_)
        obtain ⟨rfl, hx39_0⟩ := hr9
        subst hQ
        exact W.iret hx hb hr (fun t9 ht9 hW9 => ⟨⟨_, _, rfl, rfl, ⟨by rw [aPlane, cif_pos ⟨hpp, hb18, hb27⟩], by rw [ht9]; exact hP, by rw [hAe]; exact hD⟩⟩, by rw [hAe]; exact hS.F ht9⟩) (by rw [hAe]; exact hS.2.2) dX6_plane_42
      · refine rv_if_ne (tgt := 35) hx hb dX6_plane_30 (by decide) (by decide) (fun q => absurd q (by decide)) (fun _ => ?_)
        refine rv_iconst hx hb dX6_plane_33 ?_
        subst hQ
        exact W.iret hx hb hr (fun t9 ht9 hW9 => ⟨⟨_, _, rfl, rfl, ⟨by rw [aPlane, cif_neg (fun q => by first | exact hb18 q.2.1 | exact hb27 q.2.2 | (have := q.1; omega))], by rw [ht9]; exact hP, by rw [hAe]; exact hD⟩⟩, by rw [hAe]; exact hS.F ht9⟩) (by rw [hAe]; exact hS.2.2) dX6_plane_34
    · refine rv_if_eq (tgt := 33) hx hb dX6_plane_21 (by decide) (by decide) (fun _ => ?_) (fun q => absurd q (by decide))
      refine rv_iconst hx hb dX6_plane_33 ?_
      subst hQ
      exact W.iret hx hb hr (fun t9 ht9 hW9 => ⟨⟨_, _, rfl, rfl, ⟨by rw [aPlane, cif_neg (fun q => by first | exact hb18 q.2.1 | exact hb27 q.2.2 | (have := q.1; omega))], by rw [ht9]; exact hP, by rw [hAe]; exact hD⟩⟩, by rw [hAe]; exact hS.F ht9⟩) (by rw [hAe]; exact hS.2.2) dX6_plane_34
  · rw [cF_neg hq5]
    refine W.eq (g2 := F0 m 8 ls [.null]) rfl ?_
    refine lv_astoreN (lv' := [(4, .null), (0, .ref (ad 0)), (1, .int (iI p)), (2, .int (iI x)), (3, .int (iI y))]) hx hb dX6_plane_8 hl (by decide) rfl (fun ls hl => ?_)
    refine lv_aloadN hx hb dX6_plane_10 (lv_at hl 0 rfl) ?_
    refine lv_ifnullN (tgt := 33) hx hb dX6_plane_12 (by decide) ?_
    refine rv_iconst hx hb dX6_plane_33 ?_
    subst hQ
    exact W.iret hx hb hr (fun t9 ht9 hW9 => ⟨⟨_, _, rfl, rfl, ⟨by rw [aPlane, cif_neg (fun q => by first | exact hb18 q.2.1 | exact hb27 q.2.2 | (have := q.1; omega))], by rw [ht9]; exact hP, by rw [hAe]; exact hD⟩⟩, by rw [hAe]; exact hS.F ht9⟩) (by rw [hAe]; exact hS.2.2) dX6_plane_34

abbrev rm_X6_planes : Room := { frames := 4, cells := 0, slots := 0, locals := 90 }
set_option maxHeartbeats 8000000 in
set_option maxRecDepth 100000 in
/-- planes -/
theorem c_X6_planes (l : Launch) (D : va_G) (cs : Nat → ClassId) (ad : Nat → Nat) (sz : Nat) (len : Int) (pl : Nat) (rlen : Int) (rpc : Int) (run_ : Int) (rbo : Int) (rcw : Int) (rt : Value) (tx : Nat → Int) (gp : Nat → Option Nat) (nu : Nat → Int) (kept : Int) (gq : Nat → Option Nat) (swl : Int) (sun : Int) (sbo : Int) (scw : Int) (bo : Int) (cu : Int) (lo : Int) (wh : Int) (dps : Nat → Int) (alk : Nat → Int) (bof : Nat → Int) (us : Nat → Int) (bl : Nat → Int) (lg : Nat → Int) (M : Nat → Prop) (v : Nat → Int) (bf : Nat → Int) (p : Int) (d : Int) (hM : ∀ q, inAd ad 0 14 q → M q) (hkp : 0 ≤ kept ∧ kept ≤ 6) (hlen : 0 ≤ len ∧ len ≤ 200) (hp0 : -2147483648 ≤ p ∧ p < 2147483648) (hd0 : -2147483648 ≤ d ∧ d < 2147483648) : Met l yX6_planes (Cond.code yX6_planes cX6_planes 4 (some .int) :: TB) rm_X6_planes (va_Pc [.ref (ad 0), .int (iI p), .int (iI d)] (MPre D cs sz (xW cs ad len pl rlen rpc run_ rbo rcw rt tx gp nu kept gq swl sun sbo scw bo cu lo wh dps alk bof us bl lg) (fun U H => XI D cs M pl v kept gq bf U H))) (va_Qi (fun (r u : Int32) => r = u) (fun r t => (r = iI (aPlanes v p d)) ∧ va_P D classes (xW cs ad len pl rlen rpc run_ rbo rcw rt tx gp nu kept gq swl sun sbo scw bo cu lo wh dps alk bof us bl lg) t.heap ∧ va_D (va_A (xW cs ad len pl rlen rpc run_ rbo rcw rt tx gp nu kept gq swl sun sbo scw bo cu lo wh dps alk bof us bl lg) sz) (xW cs ad len pl rlen rpc run_ rbo rcw rt tx gp nu kept gq swl sun sbo scw bo cu lo wh dps alk bof us bl lg)) (va_A (xW cs ad len pl rlen rpc run_ rbo rcw rt tx gp nu kept gq swl sun sbo scw bo cu lo wh dps alk bof us bl lg) sz)) 0 0 (va_A (xW cs ad len pl rlen rpc run_ rbo rcw rt tx gp nu kept gq swl sun sbo scw bo cu lo wh dps alk bof us bl lg) sz) := by
  refine enter (cc := cX6_planes) (maxL := 4) (ret := (some .int)) (by decide) (Nat.le_of_ble_eq_true rfl) ?_
  intro pg ev s m below meth c Q ls hx hb hml hown hts hr hlocks hnm ⟨hsz, hP, hD0, hK, hX0⟩ hl hQ
  have ht : ∀ w ∈ TB, w.before _ s = true := fun w h => hts w (List.mem_cons_of_mem _ h)
  subst hsz
  have hD := hD0.self (sz := s.heap.size)
  obtain ⟨A, hAe⟩ : ∃ A, va_A (xW cs ad len pl rlen rpc run_ rbo rcw rt tx gp nu kept gq swl sun sbo scw bo cu lo wh dps alk bof us bl lg) s.heap.size = A := ⟨_, rfl⟩
  rw [hAe] at hD
  have hA : ∀ q : Nat, s.heap.size ≤ q → A q := fun q h => by rw [← hAe]; exact Or.inr h
  obtain ⟨H, hH⟩ : ∃ H, H = s.heap := ⟨_, rfl⟩
  obtain ⟨locs, hlocs⟩ : ∃ locs : List Loc, locs = [] := ⟨_, rfl⟩
  have hS : va_S A s.heap H locs := by rw [hH, hlocs]; exact va_S.rf
  rw [← hH] at hP
  suffices hgo : W pg l ev rm_X6_planes s m [.ref (ad 0), .int (iI p), .int (iI d)].toArray below meth c H locs 0 0 Q (F0 m 0 ls []) by rw [hH, hlocs] at hgo; exact hgo
  have hl : lv_has ls 4 [(0, .ref (ad 0)), (1, .int (iI p)), (2, .int (iI d))] := hl
  have hXI := XI.inS hX0 (fun q z => hM q (Mw_xW q z)) hAe (show va_S A s.heap H locs from hS)
  have hvL := hX0.1.2.1.1
  obtain ⟨hv20, hv21, hv22, hv23, hvp⟩ := id hvL
  obtain ⟨arr, g, hG0⟩ := hX0.1.2.1.g
  have hGG := hG0.inS (fun q z => hM q (Mw_xW q z)) hAe hS
  obtain ⟨_, hPl, hna, hnr, hgy⟩ := id hGG
  refine lv_aload_n hx hb dX6_planes_0 rfl (lv_at hl 0 rfl) ?_
  refine va_get (D := D) (ci := 5) (v := .ref pl) (C := RX6) (T := TX6) (N := 6) hx hb ht inTB_X6 hown hK hP 0 rfl rfl 5 (by decide) (ht _ tb_204) (fun _ h9 => h9) rfl dX6_planes_1 ?_
  refine lv_iload_n hx hb dX6_planes_4 rfl (lv_at hl 1 rfl) ?_
  refine va_csq (W.runV (As := [.int (iI p)]) (rest := []) ⟨hx, hb, hml, hown, hts⟩ (c_X3_panelAt l D cs pl arr ((v 20).toNat) g (v 21) (v 22) (v 23) p (by omega) (by omega)) (cwV 1 hts (gV tb_314 tb_315 tb_316 tb_7 tb_317) rfl rfl rfl (by decide +kernel) ⟨Nat.le_of_ble_eq_true rfl, Nat.le_of_ble_eq_true rfl⟩) (preV_pi hK hGG.pin) rfl rfl hl.1 rfl (lv_room (Nat.le_of_ble_eq_true rfl)) dX6_planes_5 ⟨Nat.le_of_ble_eq_true rfl, Nat.le_of_ble_eq_true rfl⟩) (fun r9 hr9 => ?_)
  subst hr9
  by_cases hq5 : 0 ≤ p ∧ p < ((((v 20).toNat) : Nat) : Int)
  · obtain ⟨y5, hy5, hpan5⟩ := (show ∃ y, g p.toNat = some y ∧ PanelAt D cs M H y (pv v p 0) (pv v p 1) (pv v p 2) (pv v p 3) (pv v p 4) from hgy p.toNat (by omega))
    rw [cF_pos hq5, hy5]
    refine W.eq (g2 := F0 m 8 ls [.ref y5]) rfl ?_
    have hpp : 0 ≤ p ∧ p < v 20 := by omega
    obtain ⟨hvk, hvn, hvf, hvo, hvw⟩ := vL_p hvL hpp
    have hnb := isPr_bd hvn
    have hpb := per_bd (k := pv v p 0) hvn
    have hfb := fOK_bd hvk hvn hvf
    obtain ⟨_, r0, row0, hPn, _, _, _⟩ := id hpan5
    refine lv_astore_n (lv' := [(3, .ref y5), (0, .ref (ad 0)), (1, .int (iI p)), (2, .int (iI d))]) hx hb dX6_planes_8 rfl hl (by decide) rfl (fun ls hl => ?_)
    refine lv_aload_n hx hb dX6_planes_9 rfl (lv_at hl 0 rfl) ?_
    refine lv_ifnull hx hb dX6_planes_10 ?_
    refine lv_aload_n hx hb dX6_planes_13 rfl (lv_at hl 0 rfl) ?_
    refine lv_iload_n hx hb dX6_planes_14 rfl (lv_at hl 3 rfl) ?_
    refine vp_callSi (W.runV (As := [.int (iI d)]) (rest := []) ⟨hx, hb, hml, hown, hts⟩ (c_X1_isRest l D cs y5 (pv v p 0) (pv v p 1) (pv v p 2) (pv v p 3) (pv v p 4) d (by omega)) (cwV 1 hts (gV tb_476 tb_477 tb_478 tb_5 tb_479) rfl rfl rfl (by decide +kernel) ⟨Nat.le_of_ble_eq_true rfl, Nat.le_of_ble_eq_true rfl⟩) (preV_pan hK hpan5) rfl rfl hl.1 rfl (lv_room (Nat.le_of_ble_eq_true rfl)) dX6_planes_15 ⟨Nat.le_of_ble_eq_true rfl, Nat.le_of_ble_eq_true rfl⟩) (fun r9 hr9 => ?_)
    rcases hr9 with ⟨rfl, hb15⟩ | ⟨rfl, hb15⟩
    · refine rv_if_ne (tgt := 23) hx hb dX6_planes_18 (by decide) (by decide) (fun _ => ?_) (fun q => absurd q (by decide))
      refine lv_aload_n hx hb dX6_planes_23 rfl (lv_at hl 0 rfl) ?_
      refine lv_iload_n hx hb dX6_planes_24 rfl (lv_at hl 3 rfl) ?_
      refine vp_callSi (W.runV (As := [.int (iI d)]) (rest := []) ⟨hx, hb, hml, hown, hts⟩ (c_X1_planePlaces l D cs y5 (pv v p 0) (pv v p 1) (pv v p 2) (pv v p 3) (pv v p 4) d (by omega)) (cwV 1 hts (gV tb_496 tb_497 tb_498 tb_5 tb_499) rfl rfl rfl (by decide +kernel) ⟨Nat.le_of_ble_eq_true rfl, Nat.le_of_ble_eq_true rfl⟩) (preV_pan hK hpan5) rfl rfl hl.1 rfl (lv_room (Nat.le_of_ble_eq_true rfl)) dX6_planes_25 ⟨Nat.le_of_ble_eq_true rfl, Nat.le_of_ble_eq_true rfl⟩) (fun r9 hr9 => ?_)
      subst hr9
      subst hQ
      exact W.iret hx hb hr (fun t9 ht9 hW9 => ⟨⟨_, _, rfl, rfl, ⟨by rw [aPlanes, cif_pos ⟨hpp, hb15⟩, pp_eq hvn], by rw [ht9]; exact hP, by rw [hAe]; exact hD⟩⟩, by rw [hAe]; exact hS.F ht9⟩) (by rw [hAe]; exact hS.2.2) dX6_planes_28
    · refine rv_if_ne (tgt := 23) hx hb dX6_planes_18 (by decide) (by decide) (fun q => absurd q (by decide)) (fun _ => ?_)
      refine rv_iconst hx hb dX6_planes_21 ?_
      subst hQ
      exact W.iret hx hb hr (fun t9 ht9 hW9 => ⟨⟨_, _, rfl, rfl, ⟨by rw [aPlanes, cif_neg (fun q => by first | exact hb15 q.2 | (have := q.1; omega))], by rw [ht9]; exact hP, by rw [hAe]; exact hD⟩⟩, by rw [hAe]; exact hS.F ht9⟩) (by rw [hAe]; exact hS.2.2) dX6_planes_22
  · rw [cF_neg hq5]
    refine W.eq (g2 := F0 m 8 ls [.null]) rfl ?_
    refine lv_astore_nN (lv' := [(3, .null), (0, .ref (ad 0)), (1, .int (iI p)), (2, .int (iI d))]) hx hb dX6_planes_8 rfl hl (by decide) rfl (fun ls hl => ?_)
    refine lv_aload_nN hx hb dX6_planes_9 rfl (lv_at hl 0 rfl) ?_
    refine lv_ifnullN (tgt := 21) hx hb dX6_planes_10 (by decide) ?_
    refine rv_iconst hx hb dX6_planes_21 ?_
    subst hQ
    exact W.iret hx hb hr (fun t9 ht9 hW9 => ⟨⟨_, _, rfl, rfl, ⟨by rw [aPlanes, cif_neg (fun q => by first | exact hb15 q.2 | (have := q.1; omega))], by rw [ht9]; exact hP, by rw [hAe]; exact hD⟩⟩, by rw [hAe]; exact hS.F ht9⟩) (by rw [hAe]; exact hS.2.2) dX6_planes_22

abbrev rm_X6_count : Room := { frames := 1, cells := 0, slots := 0, locals := 24 }
set_option maxHeartbeats 8000000 in
set_option maxRecDepth 100000 in
/-- count -/
theorem c_X6_count (l : Launch) (D : va_G) (cs : Nat → ClassId) (ad : Nat → Nat) (sz : Nat) (len : Int) (pl : Nat) (rlen : Int) (rpc : Int) (run_ : Int) (rbo : Int) (rcw : Int) (rt : Value) (tx : Nat → Int) (gp : Nat → Option Nat) (nu : Nat → Int) (kept : Int) (gq : Nat → Option Nat) (swl : Int) (sun : Int) (sbo : Int) (scw : Int) (bo : Int) (cu : Int) (lo : Int) (wh : Int) (dps : Nat → Int) (alk : Nat → Int) (bof : Nat → Int) (us : Nat → Int) (bl : Nat → Int) (lg : Nat → Int) (M : Nat → Prop) (v : Nat → Int) (bf : Nat → Int) (what : Int) (hM : ∀ q, inAd ad 0 14 q → M q) (hkp : 0 ≤ kept ∧ kept ≤ 6) (hlen : 0 ≤ len ∧ len ≤ 200) (hw : -2147483648 ≤ what ∧ what < 2147483648) : Met l yX6_count (Cond.code yX6_count cX6_count 2 (some .int) :: TB) rm_X6_count (va_Pc [.ref (ad 0), .int (iI what)] (MPre D cs sz (xW cs ad len pl rlen rpc run_ rbo rcw rt tx gp nu kept gq swl sun sbo scw bo cu lo wh dps alk bof us bl lg) (fun U H => XI D cs M pl v kept gq bf U H))) (va_Qi (fun (r u : Int32) => r = u) (fun r t => (r = iI (aCount v kept len what)) ∧ va_P D classes (xW cs ad len pl rlen rpc run_ rbo rcw rt tx gp nu kept gq swl sun sbo scw bo cu lo wh dps alk bof us bl lg) t.heap ∧ va_D (va_A (xW cs ad len pl rlen rpc run_ rbo rcw rt tx gp nu kept gq swl sun sbo scw bo cu lo wh dps alk bof us bl lg) sz) (xW cs ad len pl rlen rpc run_ rbo rcw rt tx gp nu kept gq swl sun sbo scw bo cu lo wh dps alk bof us bl lg)) (va_A (xW cs ad len pl rlen rpc run_ rbo rcw rt tx gp nu kept gq swl sun sbo scw bo cu lo wh dps alk bof us bl lg) sz)) 0 0 (va_A (xW cs ad len pl rlen rpc run_ rbo rcw rt tx gp nu kept gq swl sun sbo scw bo cu lo wh dps alk bof us bl lg) sz) := by
  refine enter (cc := cX6_count) (maxL := 2) (ret := (some .int)) (by decide) (Nat.le_of_ble_eq_true rfl) ?_
  intro pg ev s m below meth c Q ls hx hb hml hown hts hr hlocks hnm ⟨hsz, hP, hD0, hK, hX0⟩ hl hQ
  have ht : ∀ w ∈ TB, w.before _ s = true := fun w h => hts w (List.mem_cons_of_mem _ h)
  subst hsz
  have hD := hD0.self (sz := s.heap.size)
  obtain ⟨A, hAe⟩ : ∃ A, va_A (xW cs ad len pl rlen rpc run_ rbo rcw rt tx gp nu kept gq swl sun sbo scw bo cu lo wh dps alk bof us bl lg) s.heap.size = A := ⟨_, rfl⟩
  rw [hAe] at hD
  have hA : ∀ q : Nat, s.heap.size ≤ q → A q := fun q h => by rw [← hAe]; exact Or.inr h
  obtain ⟨H, hH⟩ : ∃ H, H = s.heap := ⟨_, rfl⟩
  obtain ⟨locs, hlocs⟩ : ∃ locs : List Loc, locs = [] := ⟨_, rfl⟩
  have hS : va_S A s.heap H locs := by rw [hH, hlocs]; exact va_S.rf
  rw [← hH] at hP
  suffices hgo : W pg l ev rm_X6_count s m [.ref (ad 0), .int (iI what)].toArray below meth c H locs 0 0 Q (F0 m 0 ls []) by rw [hH, hlocs] at hgo; exact hgo
  have hl : lv_has ls 2 [(0, .ref (ad 0)), (1, .int (iI what))] := hl
  have hXI := XI.inS hX0 (fun q z => hM q (Mw_xW q z)) hAe (show va_S A s.heap H locs from hS)
  have hvL := hX0.1.2.1.1
  obtain ⟨hv20, hv21, hv22, hv23, hvp⟩ := id hvL
  obtain ⟨arr, g, hG0⟩ := hX0.1.2.1.g
  have hGG := hG0.inS (fun q z => hM q (Mw_xW q z)) hAe hS
  obtain ⟨_, hPl, hna, hnr, hgy⟩ := id hGG
  refine lv_iload_n hx hb dX6_count_0 rfl (lv_at hl 1 rfl) ?_
  by_cases hc0 : what = 0
  · refine rv_top (y := 0) hc0 ?_
    refine lv_tableIn (tgt := 44) hx hb dX6_count_1 (by decide) (by decide) rfl (by decide) ?_
    refine lv_aload_n hx hb dX6_count_44 rfl (lv_at hl 0 rfl) ?_
    refine va_get (D := D) (ci := 5) (v := .ref pl) (C := RX6) (T := TX6) (N := 6) hx hb ht inTB_X6 hown hK hP 0 rfl rfl 5 (by decide) (ht _ tb_204) (fun _ h9 => h9) rfl dX6_count_45 ?_
    refine va_get (D := D) (ci := 2) (v := .ref arr) (C := RX3) (T := TX3) (N := 4) hx hb ht inTB_X3 hown hK hPl 0 rfl rfl 0 (by decide) (ht _ tb_180) (fun _ h9 => h9) rfl dX6_count_48 ?_
    refine rv_alen hx hb hK hPl 1 2 rfl rfl dX6_count_51 ?_
    subst hQ
    exact W.iret hx hb hr (fun t9 ht9 hW9 => ⟨⟨_, _, rfl, rfl, ⟨by rw [aCount, cif_pos hc0, Int.toNat_of_nonneg hv20.1], by rw [ht9]; exact hP, by rw [hAe]; exact hD⟩⟩, by rw [hAe]; exact hS.F ht9⟩) (by rw [hAe]; exact hS.2.2) dX6_count_52
  by_cases hc1 : what = 1
  · refine rv_top (y := 1) hc1 ?_
    refine lv_tableIn (tgt := 53) hx hb dX6_count_1 (by decide) (by decide) rfl (by decide) ?_
    refine lv_aload_n hx hb dX6_count_53 rfl (lv_at hl 0 rfl) ?_
    refine va_get (D := D) (ci := 5) (v := .ref pl) (C := RX6) (T := TX6) (N := 6) hx hb ht inTB_X6 hown hK hP 0 rfl rfl 5 (by decide) (ht _ tb_204) (fun _ h9 => h9) rfl dX6_count_54 ?_
    refine va_get (D := D) (ci := 2) (v := .int (iI (v 21))) (C := RX3) (T := TX3) (N := 4) hx hb ht inTB_X3 hown hK hPl 0 rfl rfl 1 (by decide) (ht _ tb_183) (fun _ h9 => h9) rfl dX6_count_57 ?_
    subst hQ
    exact W.iret hx hb hr (fun t9 ht9 hW9 => ⟨⟨_, _, rfl, rfl, ⟨by rw [aCount, cif_neg (by omega), cif_pos hc1], by rw [ht9]; exact hP, by rw [hAe]; exact hD⟩⟩, by rw [hAe]; exact hS.F ht9⟩) (by rw [hAe]; exact hS.2.2) dX6_count_60
  by_cases hc2 : what = 2
  · refine rv_top (y := 2) hc2 ?_
    refine lv_tableIn (tgt := 61) hx hb dX6_count_1 (by decide) (by decide) rfl (by decide) ?_
    refine lv_aload_n hx hb dX6_count_61 rfl (lv_at hl 0 rfl) ?_
    refine va_get (D := D) (ci := 5) (v := .ref pl) (C := RX6) (T := TX6) (N := 6) hx hb ht inTB_X6 hown hK hP 0 rfl rfl 5 (by decide) (ht _ tb_204) (fun _ h9 => h9) rfl dX6_count_62 ?_
    refine va_get (D := D) (ci := 2) (v := .int (iI (v 22))) (C := RX3) (T := TX3) (N := 4) hx hb ht inTB_X3 hown hK hPl 0 rfl rfl 2 (by decide) (ht _ tb_186) (fun _ h9 => h9) rfl dX6_count_65 ?_
    subst hQ
    exact W.iret hx hb hr (fun t9 ht9 hW9 => ⟨⟨_, _, rfl, rfl, ⟨by rw [aCount, cif_neg (by omega), cif_neg (by omega), cif_pos hc2], by rw [ht9]; exact hP, by rw [hAe]; exact hD⟩⟩, by rw [hAe]; exact hS.F ht9⟩) (by rw [hAe]; exact hS.2.2) dX6_count_68
  by_cases hc3 : what = 3
  · refine rv_top (y := 3) hc3 ?_
    refine lv_tableIn (tgt := 69) hx hb dX6_count_1 (by decide) (by decide) rfl (by decide) ?_
    refine lv_aload_n hx hb dX6_count_69 rfl (lv_at hl 0 rfl) ?_
    refine va_get (D := D) (ci := 5) (v := .ref pl) (C := RX6) (T := TX6) (N := 6) hx hb ht inTB_X6 hown hK hP 0 rfl rfl 5 (by decide) (ht _ tb_204) (fun _ h9 => h9) rfl dX6_count_70 ?_
    refine va_get (D := D) (ci := 2) (v := .int (iI (v 23))) (C := RX3) (T := TX3) (N := 4) hx hb ht inTB_X3 hown hK hPl 0 rfl rfl 3 (by decide) (ht _ tb_189) (fun _ h9 => h9) rfl dX6_count_73 ?_
    subst hQ
    exact W.iret hx hb hr (fun t9 ht9 hW9 => ⟨⟨_, _, rfl, rfl, ⟨by rw [aCount, cif_neg (by omega), cif_neg (by omega), cif_neg (by omega), cif_pos hc3], by rw [ht9]; exact hP, by rw [hAe]; exact hD⟩⟩, by rw [hAe]; exact hS.F ht9⟩) (by rw [hAe]; exact hS.2.2) dX6_count_76
  by_cases hc4 : what = 4
  · refine rv_top (y := 4) hc4 ?_
    refine lv_tableIn (tgt := 77) hx hb dX6_count_1 (by decide) (by decide) rfl (by decide) ?_
    refine lv_aload_n hx hb dX6_count_77 rfl (lv_at hl 0 rfl) ?_
    refine va_get (D := D) (ci := 5) (v := .ref (ad 5)) (C := RX6) (T := TX6) (N := 6) hx hb ht inTB_X6 hown hK hP 0 rfl rfl 2 (by decide) (ht _ tb_201) (fun _ h9 => h9) rfl dX6_count_78 ?_
    refine va_get (D := D) (ci := 1) (v := .int (iI kept)) (C := RX2) (T := TX2) (N := 2) hx hb ht inTB_X2 hown hK hP 5 rfl rfl 1 (by decide) (ht _ tb_65) (fun _ h9 => h9) rfl dX6_count_81 ?_
    subst hQ
    exact W.iret hx hb hr (fun t9 ht9 hW9 => ⟨⟨_, _, rfl, rfl, ⟨by rw [aCount, cif_neg (by omega), cif_neg (by omega), cif_neg (by omega), cif_neg (by omega), cif_pos hc4], by rw [ht9]; exact hP, by rw [hAe]; exact hD⟩⟩, by rw [hAe]; exact hS.F ht9⟩) (by rw [hAe]; exact hS.2.2) dX6_count_84
  by_cases hc5 : what = 5
  · refine rv_top (y := 5) hc5 ?_
    refine lv_tableIn (tgt := 85) hx hb dX6_count_1 (by decide) (by decide) rfl (by decide) ?_
    refine lv_aload_n hx hb dX6_count_85 rfl (lv_at hl 0 rfl) ?_
    refine va_get (D := D) (ci := 5) (v := .int (iI len)) (C := RX6) (T := TX6) (N := 6) hx hb ht inTB_X6 hown hK hP 0 rfl rfl 4 (by decide) (ht _ tb_203) (fun _ h9 => h9) rfl dX6_count_86 ?_
    subst hQ
    exact W.iret hx hb hr (fun t9 ht9 hW9 => ⟨⟨_, _, rfl, rfl, ⟨by rw [aCount, cif_neg (by omega), cif_neg (by omega), cif_neg (by omega), cif_neg (by omega), cif_neg (by omega), cif_pos hc5], by rw [ht9]; exact hP, by rw [hAe]; exact hD⟩⟩, by rw [hAe]; exact hS.F ht9⟩) (by rw [hAe]; exact hS.2.2) dX6_count_89
  by_cases hc6 : what = 6
  · refine rv_top (y := 6) hc6 ?_
    refine lv_tableIn (tgt := 90) hx hb dX6_count_1 (by decide) (by decide) rfl (by decide) ?_
    refine lv_aload_n hx hb dX6_count_90 rfl (lv_at hl 0 rfl) ?_
    refine va_get (D := D) (ci := 5) (v := .ref pl) (C := RX6) (T := TX6) (N := 6) hx hb ht inTB_X6 hown hK hP 0 rfl rfl 5 (by decide) (ht _ tb_204) (fun _ h9 => h9) rfl dX6_count_91 ?_
    refine rv_iconst hx hb dX6_count_94 ?_
    refine vp_callSi (W.runV (As := [.int (iI 4)]) (rest := []) ⟨hx, hb, hml, hown, hts⟩ (c_X3_wellsBefore l D cs pl v 4 (by decide)) (cwV 1 hts (gV tb_551 tb_552 tb_553 tb_7 tb_554) rfl rfl rfl (by decide +kernel) ⟨Nat.le_of_ble_eq_true rfl, Nat.le_of_ble_eq_true rfl⟩) (preV_pl hK hXI.1.2.1) rfl rfl hl.1 rfl (lv_room (Nat.le_of_ble_eq_true rfl)) dX6_count_95 ⟨Nat.le_of_ble_eq_true rfl, Nat.le_of_ble_eq_true rfl⟩) (fun r9 hr9 => ?_)
    subst hr9
    subst hQ
    exact W.iret hx hb hr (fun t9 ht9 hW9 => ⟨⟨_, _, rfl, rfl, ⟨by rw [aCount, cif_neg (by omega), cif_neg (by omega), cif_neg (by omega), cif_neg (by omega), cif_neg (by omega), cif_neg (by omega), cif_pos hc6, show (mnI 4 (v 20)).toNat = (v 20).toNat by unfold mnI; split <;> omega], by rw [ht9]; exact hP, by rw [hAe]; exact hD⟩⟩, by rw [hAe]; exact hS.F ht9⟩) (by rw [hAe]; exact hS.2.2) dX6_count_98
  refine lv_tableOut (tgt := 99) hx hb dX6_count_1 (by rw [iI_toInt (by omega)]; omega) (by decide) ?_
  refine rv_iconst hx hb dX6_count_99 ?_
  subst hQ
  exact W.iret hx hb hr (fun t9 ht9 hW9 => ⟨⟨_, _, rfl, rfl, ⟨by rw [aCount, cif_neg (by omega), cif_neg (by omega), cif_neg (by omega), cif_neg (by omega), cif_neg (by omega), cif_neg (by omega), cif_neg (by omega)], by rw [ht9]; exact hP, by rw [hAe]; exact hD⟩⟩, by rw [hAe]; exact hS.F ht9⟩) (by rw [hAe]; exact hS.2.2) dX6_count_100

abbrev rm_X6_cut : Room := { frames := 5, cells := 0, slots := 0, locals := 114 }
set_option maxHeartbeats 8000000 in
set_option maxRecDepth 100000 in
/-- cut -/
theorem c_X6_cut (l : Launch) (D : va_G) (cs : Nat → ClassId) (ad : Nat → Nat) (sz : Nat) (len : Int) (pl : Nat) (rlen : Int) (rpc : Int) (run_ : Int) (rbo : Int) (rcw : Int) (rt : Value) (tx : Nat → Int) (gp : Nat → Option Nat) (nu : Nat → Int) (kept : Int) (gq : Nat → Option Nat) (swl : Int) (sun : Int) (sbo : Int) (scw : Int) (bo : Int) (cu : Int) (lo : Int) (wh : Int) (dps : Nat → Int) (alk : Nat → Int) (bof : Nat → Int) (us : Nat → Int) (bl : Nat → Int) (lg : Nat → Int) (M : Nat → Prop) (v : Nat → Int) (bf : Nat → Int) (what : Int) (hM : ∀ q, inAd ad 0 14 q → M q) (hkp : 0 ≤ kept ∧ kept ≤ 6) (hlen : 0 ≤ len ∧ len ≤ 200) (hw : -2147483648 ≤ what ∧ what < 2147483648) : Met l yX6_cut (Cond.code yX6_cut cX6_cut 2 (some .int) :: TB) rm_X6_cut (va_Pc [.ref (ad 0), .int (iI what)] (MPre D cs sz (xW cs ad len pl rlen rpc run_ rbo rcw rt tx gp nu kept gq swl sun sbo scw bo cu lo wh dps alk bof us bl lg) (fun U H => XI D cs M pl v kept gq bf U H))) (va_Qi (fun (r u : Int32) => r = u) (fun r t => ∃ (swl2 : Int) (sun2 : Int) (sbo2 : Int) (scw2 : Int) (bo2 : Int) (cu2 : Int) (lo2 : Int) (wh2 : Int) (dps2 : Nat → Int) (alk2 : Nat → Int) (bof2 : Nat → Int) (us2 : Nat → Int) (bl2 : Nat → Int) (lg2 : Nat → Int), (r = iI (aCut v what)) ∧ va_P D classes (xW cs ad len pl rlen rpc run_ rbo rcw rt tx gp nu kept gq swl2 sun2 sbo2 scw2 bo2 cu2 lo2 wh2 dps2 alk2 bof2 us2 bl2 lg2) t.heap ∧ va_D (va_A (xW cs ad len pl rlen rpc run_ rbo rcw rt tx gp nu kept gq swl sun sbo scw bo cu lo wh dps alk bof us bl lg) sz) (xW cs ad len pl rlen rpc run_ rbo rcw rt tx gp nu kept gq swl2 sun2 sbo2 scw2 bo2 cu2 lo2 wh2 dps2 alk2 bof2 us2 bl2 lg2)) (va_A (xW cs ad len pl rlen rpc run_ rbo rcw rt tx gp nu kept gq swl sun sbo scw bo cu lo wh dps alk bof us bl lg) sz)) 0 0 (va_A (xW cs ad len pl rlen rpc run_ rbo rcw rt tx gp nu kept gq swl sun sbo scw bo cu lo wh dps alk bof us bl lg) sz) := by
  refine enter (cc := cX6_cut) (maxL := 2) (ret := (some .int)) (by decide) (Nat.le_of_ble_eq_true rfl) ?_
  intro pg ev s m below meth c Q ls hx hb hml hown hts hr hlocks hnm ⟨hsz, hP, hD0, hK, hX0⟩ hl hQ
  have ht : ∀ w ∈ TB, w.before _ s = true := fun w h => hts w (List.mem_cons_of_mem _ h)
  subst hsz
  have hD := hD0.self (sz := s.heap.size)
  obtain ⟨A, hAe⟩ : ∃ A, va_A (xW cs ad len pl rlen rpc run_ rbo rcw rt tx gp nu kept gq swl sun sbo scw bo cu lo wh dps alk bof us bl lg) s.heap.size = A := ⟨_, rfl⟩
  rw [hAe] at hD
  have hA : ∀ q : Nat, s.heap.size ≤ q → A q := fun q h => by rw [← hAe]; exact Or.inr h
  obtain ⟨H, hH⟩ : ∃ H, H = s.heap := ⟨_, rfl⟩
  obtain ⟨locs, hlocs⟩ : ∃ locs : List Loc, locs = [] := ⟨_, rfl⟩
  have hS : va_S A s.heap H locs := by rw [hH, hlocs]; exact va_S.rf
  rw [← hH] at hP
  suffices hgo : W pg l ev rm_X6_cut s m [.ref (ad 0), .int (iI what)].toArray below meth c H locs 0 0 Q (F0 m 0 ls []) by rw [hH, hlocs] at hgo; exact hgo
  have hl : lv_has ls 2 [(0, .ref (ad 0)), (1, .int (iI what))] := hl
  have hXI := XI.inS hX0 (fun q z => hM q (Mw_xW q z)) hAe (show va_S A s.heap H locs from hS)
  have hvL := hX0.1.2.1.1
  obtain ⟨hv20, hv21, hv22, hv23, hvp⟩ := id hvL
  obtain ⟨arr, g, hG0⟩ := hX0.1.2.1.g
  refine lv_iload_n hx hb dX6_cut_0 rfl (lv_at hl 1 rfl) ?_
  refine rv_if_lt (tgt := 9) hx hb dX6_cut_1 (by decide) (by omega) (fun h1 => ?_) (fun h1 => ?_)
  · refine rv_iconst hx hb dX6_cut_9 ?_
    subst hQ
    exact W.iret hx hb hr (fun t9 ht9 hW9 => ⟨⟨_, _, rfl, rfl, ⟨swl, sun, sbo, scw, bo, cu, lo, wh, dps, alk, bof, us, bl, lg, by rw [aCut, cif_neg (by omega)], by rw [ht9]; exact hP, by rw [hAe]; exact hD⟩⟩, by rw [hAe]; exact hS.F ht9⟩) (by rw [hAe]; exact hS.2.2) dX6_cut_10
  · refine lv_iload_n hx hb dX6_cut_4 rfl (lv_at hl 1 rfl) ?_
    refine rv_iconst hx hb dX6_cut_5 ?_
    refine rv_icmp_le (tgt := 11) hx hb dX6_cut_6 (by decide) (by omega) (fun h6 => ?_) (fun h6 => ?_)
    · refine lv_aload_n hx hb dX6_cut_11 rfl (lv_at hl 0 rfl) ?_
      refine va_get (D := D) (ci := 5) (v := .ref (ad 7)) (C := RX6) (T := TX6) (N := 6) hx hb ht inTB_X6 hown hK hP 0 rfl rfl 3 (by decide) (ht _ tb_202) (fun _ h9 => h9) rfl dX6_cut_12 ?_
      refine lv_aload_n hx hb dX6_cut_15 rfl (lv_at hl 0 rfl) ?_
      refine va_get (D := D) (ci := 5) (v := .ref pl) (C := RX6) (T := TX6) (N := 6) hx hb ht inTB_X6 hown hK hP 0 rfl rfl 5 (by decide) (ht _ tb_204) (fun _ h9 => h9) rfl dX6_cut_16 ?_
      have hFc := va_free (wc := (sW cs ad swl sun sbo scw bo cu lo wh dps alk bof us bl lg)) hD hS hA [7, 8, 9, 10, 11, 12, 13] rfl
      have hPc := hP.sub (ws' := (sW cs ad swl sun sbo scw bo cu lo wh dps alk bof us bl lg)) [7, 8, 9, 10, 11, 12, 13] rfl
      have hDc := hD.sub (ws' := (sW cs ad swl sun sbo scw bo cu lo wh dps alk bof us bl lg)) [7, 8, 9, 10, 11, 12, 13] (by decide) rfl
      refine va_callv (va_runV (As := [.ref pl]) (rest := []) ⟨hx, hb, hml, hown, hts⟩ (c_X5_cutAll l D cs ad H.size swl sun sbo scw bo cu lo wh dps alk bof us bl lg M pl v (fun q z => hM q (z.mono (by decide) (by decide))) hvL) (cwV 1 hts (gV tb_505 tb_506 tb_507 tb_4 tb_508) rfl rfl rfl (by decide +kernel) ⟨Nat.le_of_ble_eq_true rfl, Nat.le_of_ble_eq_true rfl⟩) (preV_M (X := fun U H => PlanAt D cs M H pl v) Stb_H hK (va_recv hK hPc (ci := 4) (q0 := 0) rfl rfl) hPc hDc hXI.1.2.1) rfl rfl hl.1 rfl (lv_room (Nat.le_of_ble_eq_true rfl)) dX6_cut_19 ⟨Nat.le_of_ble_eq_true rfl, Nat.le_of_ble_eq_true rfl⟩) hS (fun q _ h => hFc q h) hFc (fun u9 t9 H9 locs ht9 hvm9 hw9 hB9 hz9 hk9 hS => ?_)
      obtain ⟨swl2_19, sun2_19, sbo2_19, scw2_19, bo2_19, cu2_19, lo2_19, wh2_19, dps2_19, alk2_19, bof2_19, us2_19, bl2_19, lg2_19, hf19_0, hP1, hD1⟩ := hB9
      rw [ht9] at hP1
      obtain ⟨hPj, hDj⟩ := va_join (wr := [_, _, _, _, _, _, _]) hP hD [7, 8, 9, 10, 11, 12, 13] [0, 1, 2, 3, 4, 5, 6] rfl rfl (by decide) (by decide) hk9 hFc hP1 hD1
      generalize H9 = H at *
      have hP : va_P D classes (xW cs ad len pl rlen rpc run_ rbo rcw rt tx gp nu kept gq swl2_19 sun2_19 sbo2_19 scw2_19 bo2_19 cu2_19 lo2_19 wh2_19 dps2_19 alk2_19 bof2_19 us2_19 bl2_19 lg2_19) H := hPj.sub [0, 1, 2, 3, 4, 5, 6, 7, 8, 9, 10, 11, 12, 13] rfl
      have hD : va_D A (xW cs ad len pl rlen rpc run_ rbo rcw rt tx gp nu kept gq swl2_19 sun2_19 sbo2_19 scw2_19 bo2_19 cu2_19 lo2_19 wh2_19 dps2_19 alk2_19 bof2_19 us2_19 bl2_19 lg2_19) := hDj.sub [0, 1, 2, 3, 4, 5, 6, 7, 8, 9, 10, 11, 12, 13] (by decide) rfl
      obtain ⟨_, hs1, hs2, hs3, hs4, hs5, hs6, hs7, hs8, hs9, hs10⟩ := id hf19_0
      obtain ⟨⟨q0, q1, q2, q3, q4⟩, q5⟩ := fC_ok hvL
      have hl160 := lo_160 v
      have hXI := XI.inS hX0 (fun q z => hM q (Mw_xW q z)) hAe hS
      have hGG := hG0.inS (fun q z => hM q (Mw_xW q z)) hAe hS
      obtain ⟨_, hPl, hna, hnr, hgy⟩ := id hGG
      refine lv_iload_n hx hb dX6_cut_22 rfl (lv_at hl 1 rfl) ?_
      by_cases hc0 : what = 0
      · refine rv_top (y := 0) hc0 ?_
        refine lv_tableIn (tgt := 52) hx hb dX6_cut_23 (by decide) (by decide) rfl (by decide) ?_
        refine lv_aload_n hx hb dX6_cut_52 rfl (lv_at hl 0 rfl) ?_
        refine va_get (D := D) (ci := 5) (v := .ref (ad 7)) (C := RX6) (T := TX6) (N := 6) hx hb ht inTB_X6 hown hK hP 0 rfl rfl 3 (by decide) (ht _ tb_202) (fun _ h9 => h9) rfl dX6_cut_53 ?_
        refine va_get (D := D) (ci := 4) (v := .int (iI bo2_19)) (C := RX5) (T := TX5) (N := 14) hx hb ht inTB_X5 hown hK hP 7 rfl rfl 10 (by decide) (ht _ tb_90) (fun _ h9 => h9) rfl dX6_cut_56 ?_
        subst hQ
        exact W.iret hx hb hr (fun t9 ht9 hW9 => ⟨⟨_, _, rfl, rfl, ⟨swl2_19, sun2_19, sbo2_19, scw2_19, bo2_19, cu2_19, lo2_19, wh2_19, dps2_19, alk2_19, bof2_19, us2_19, bl2_19, lg2_19, by rw [aCut, cif_pos (by omega), cif_pos hc0, hs4], by rw [ht9]; exact hP, by rw [hAe]; exact hD⟩⟩, by rw [hAe]; exact hS.F ht9⟩) (by rw [hAe]; exact hS.2.2) dX6_cut_59
      by_cases hc1 : what = 1
      · refine rv_top (y := 1) hc1 ?_
        refine lv_tableIn (tgt := 60) hx hb dX6_cut_23 (by decide) (by decide) rfl (by decide) ?_
        refine lv_aload_n hx hb dX6_cut_60 rfl (lv_at hl 0 rfl) ?_
        refine va_get (D := D) (ci := 5) (v := .ref (ad 7)) (C := RX6) (T := TX6) (N := 6) hx hb ht inTB_X6 hown hK hP 0 rfl rfl 3 (by decide) (ht _ tb_202) (fun _ h9 => h9) rfl dX6_cut_61 ?_
        refine va_get (D := D) (ci := 4) (v := .int (iI cu2_19)) (C := RX5) (T := TX5) (N := 14) hx hb ht inTB_X5 hown hK hP 7 rfl rfl 11 (by decide) (ht _ tb_92) (fun _ h9 => h9) rfl dX6_cut_64 ?_
        subst hQ
        exact W.iret hx hb hr (fun t9 ht9 hW9 => ⟨⟨_, _, rfl, rfl, ⟨swl2_19, sun2_19, sbo2_19, scw2_19, bo2_19, cu2_19, lo2_19, wh2_19, dps2_19, alk2_19, bof2_19, us2_19, bl2_19, lg2_19, by rw [aCut, cif_pos (by omega), cif_neg (by omega), cif_pos hc1, hs5], by rw [ht9]; exact hP, by rw [hAe]; exact hD⟩⟩, by rw [hAe]; exact hS.F ht9⟩) (by rw [hAe]; exact hS.2.2) dX6_cut_67
      by_cases hc2 : what = 2
      · refine rv_top (y := 2) hc2 ?_
        refine lv_tableIn (tgt := 68) hx hb dX6_cut_23 (by decide) (by decide) rfl (by decide) ?_
        refine lv_aload_n hx hb dX6_cut_68 rfl (lv_at hl 0 rfl) ?_
        refine va_get (D := D) (ci := 5) (v := .ref (ad 7)) (C := RX6) (T := TX6) (N := 6) hx hb ht inTB_X6 hown hK hP 0 rfl rfl 3 (by decide) (ht _ tb_202) (fun _ h9 => h9) rfl dX6_cut_69 ?_
        refine va_get (D := D) (ci := 4) (v := .int (iI lo2_19)) (C := RX5) (T := TX5) (N := 14) hx hb ht inTB_X5 hown hK hP 7 rfl rfl 12 (by decide) (ht _ tb_94) (fun _ h9 => h9) rfl dX6_cut_72 ?_
        subst hQ
        exact W.iret hx hb hr (fun t9 ht9 hW9 => ⟨⟨_, _, rfl, rfl, ⟨swl2_19, sun2_19, sbo2_19, scw2_19, bo2_19, cu2_19, lo2_19, wh2_19, dps2_19, alk2_19, bof2_19, us2_19, bl2_19, lg2_19, by rw [aCut, cif_pos (by omega), cif_neg (by omega), cif_neg (by omega), cif_pos hc2, hs7], by rw [ht9]; exact hP, by rw [hAe]; exact hD⟩⟩, by rw [hAe]; exact hS.F ht9⟩) (by rw [hAe]; exact hS.2.2) dX6_cut_75
      by_cases hc3 : what = 3
      · refine rv_top (y := 3) hc3 ?_
        refine lv_tableIn (tgt := 76) hx hb dX6_cut_23 (by decide) (by decide) rfl (by decide) ?_
        refine lv_aload_n hx hb dX6_cut_76 rfl (lv_at hl 0 rfl) ?_
        refine va_get (D := D) (ci := 5) (v := .ref (ad 7)) (C := RX6) (T := TX6) (N := 6) hx hb ht inTB_X6 hown hK hP 0 rfl rfl 3 (by decide) (ht _ tb_202) (fun _ h9 => h9) rfl dX6_cut_77 ?_
        refine va_get (D := D) (ci := 4) (v := .int (iI wh2_19)) (C := RX5) (T := TX5) (N := 14) hx hb ht inTB_X5 hown hK hP 7 rfl rfl 13 (by decide) (ht _ tb_96) (fun _ h9 => h9) rfl dX6_cut_80 ?_
        refine lv_aload_n hx hb dX6_cut_83 rfl (lv_at hl 0 rfl) ?_
        refine va_get (D := D) (ci := 5) (v := .ref pl) (C := RX6) (T := TX6) (N := 6) hx hb ht inTB_X6 hown hK hP 0 rfl rfl 5 (by decide) (ht _ tb_204) (fun _ h9 => h9) rfl dX6_cut_84 ?_
        refine va_get (D := D) (ci := 2) (v := .int (iI (v 22))) (C := RX3) (T := TX3) (N := 4) hx hb ht inTB_X3 hown hK hPl 0 rfl rfl 2 (by decide) (ht _ tb_186) (fun _ h9 => h9) rfl dX6_cut_87 ?_
        refine vp_callSi (W.runS (As := [.int (iI wh2_19), .int (iI (v 22))]) (rest := []) ⟨hx, hb, hml, hown, hts⟩ (c_X0_roundedUp l wh2_19 (v 22) (by omega) (by omega)) (va_cwS 2 hts (gS tb_536 tb_537 tb_6 tb_538) rfl rfl rfl (by decide +kernel) ⟨Nat.le_of_ble_eq_true rfl, Nat.le_of_ble_eq_true rfl⟩) preS0 rfl rfl hl.1 rfl (lv_room (Nat.le_of_ble_eq_true rfl)) dX6_cut_90 ⟨Nat.le_of_ble_eq_true rfl, Nat.le_of_ble_eq_true rfl⟩) (fun r9 hr9 => ?_)
        subst hr9
        subst hQ
        exact W.iret hx hb hr (fun t9 ht9 hW9 => ⟨⟨_, _, rfl, rfl, ⟨swl2_19, sun2_19, sbo2_19, scw2_19, bo2_19, cu2_19, lo2_19, wh2_19, dps2_19, alk2_19, bof2_19, us2_19, bl2_19, lg2_19, by rw [aCut, cif_pos (by omega), cif_neg (by omega), cif_neg (by omega), cif_neg (by omega), cif_pos hc3, hs6], by rw [ht9]; exact hP, by rw [hAe]; exact hD⟩⟩, by rw [hAe]; exact hS.F ht9⟩) (by rw [hAe]; exact hS.2.2) dX6_cut_93
      refine lv_tableOut (tgt := 94) hx hb dX6_cut_23 (by rw [iI_toInt (by omega)]; omega) (by decide) ?_
      refine lv_aload_n hx hb dX6_cut_94 rfl (lv_at hl 0 rfl) ?_
      refine va_get (D := D) (ci := 5) (v := .ref (ad 7)) (C := RX6) (T := TX6) (N := 6) hx hb ht inTB_X6 hown hK hP 0 rfl rfl 3 (by decide) (ht _ tb_202) (fun _ h9 => h9) rfl dX6_cut_95 ?_
      refine va_get (D := D) (ci := 4) (v := .int (iI bo2_19)) (C := RX5) (T := TX5) (N := 14) hx hb ht inTB_X5 hown hK hP 7 rfl rfl 10 (by decide) (ht _ tb_90) (fun _ h9 => h9) rfl dX6_cut_98 ?_
      refine lv_aload_n hx hb dX6_cut_101 rfl (lv_at hl 0 rfl) ?_
      refine va_get (D := D) (ci := 5) (v := .ref pl) (C := RX6) (T := TX6) (N := 6) hx hb ht inTB_X6 hown hK hP 0 rfl rfl 5 (by decide) (ht _ tb_204) (fun _ h9 => h9) rfl dX6_cut_102 ?_
      refine va_get (D := D) (ci := 2) (v := .int (iI (v 22))) (C := RX3) (T := TX3) (N := 4) hx hb ht inTB_X3 hown hK hPl 0 rfl rfl 2 (by decide) (ht _ tb_186) (fun _ h9 => h9) rfl dX6_cut_105 ?_
      refine rv_imul hx hb dX6_cut_108 ?_
      refine lv_aload_n hx hb dX6_cut_109 rfl (lv_at hl 0 rfl) ?_
      refine va_get (D := D) (ci := 5) (v := .ref (ad 7)) (C := RX6) (T := TX6) (N := 6) hx hb ht inTB_X6 hown hK hP 0 rfl rfl 3 (by decide) (ht _ tb_202) (fun _ h9 => h9) rfl dX6_cut_110 ?_
      refine va_get (D := D) (ci := 4) (v := .int (iI wh2_19)) (C := RX5) (T := TX5) (N := 14) hx hb ht inTB_X5 hown hK hP 7 rfl rfl 13 (by decide) (ht _ tb_96) (fun _ h9 => h9) rfl dX6_cut_113 ?_
      refine rv_isub hx hb dX6_cut_116 ?_
      subst hQ
      exact W.iret hx hb hr (fun t9 ht9 hW9 => ⟨⟨_, _, rfl, rfl, ⟨swl2_19, sun2_19, sbo2_19, scw2_19, bo2_19, cu2_19, lo2_19, wh2_19, dps2_19, alk2_19, bof2_19, us2_19, bl2_19, lg2_19, by rw [aCut, cif_pos (by omega), cif_neg (by omega), cif_neg (by omega), cif_neg (by omega), cif_neg (by omega), hs4, hs6], by rw [ht9]; exact hP, by rw [hAe]; exact hD⟩⟩, by rw [hAe]; exact hS.F ht9⟩) (by rw [hAe]; exact hS.2.2) dX6_cut_117
    · refine rv_iconst hx hb dX6_cut_9 ?_
      subst hQ
      exact W.iret hx hb hr (fun t9 ht9 hW9 => ⟨⟨_, _, rfl, rfl, ⟨swl, sun, sbo, scw, bo, cu, lo, wh, dps, alk, bof, us, bl, lg, by rw [aCut, cif_neg (by omega)], by rw [ht9]; exact hP, by rw [hAe]; exact hD⟩⟩, by rw [hAe]; exact hS.F ht9⟩) (by rw [hAe]; exact hS.2.2) dX6_cut_10

abbrev rm_X6_board : Room := { frames := 5, cells := 0, slots := 0, locals := 114 }
set_option maxHeartbeats 8000000 in
set_option maxRecDepth 100000 in
/-- board -/
theorem c_X6_board (l : Launch) (D : va_G) (cs : Nat → ClassId) (ad : Nat → Nat) (sz : Nat) (len : Int) (pl : Nat) (rlen : Int) (rpc : Int) (run_ : Int) (rbo : Int) (rcw : Int) (rt : Value) (tx : Nat → Int) (gp : Nat → Option Nat) (nu : Nat → Int) (kept : Int) (gq : Nat → Option Nat) (swl : Int) (sun : Int) (sbo : Int) (scw : Int) (bo : Int) (cu : Int) (lo : Int) (wh : Int) (dps : Nat → Int) (alk : Nat → Int) (bof : Nat → Int) (us : Nat → Int) (bl : Nat → Int) (lg : Nat → Int) (M : Nat → Prop) (v : Nat → Int) (bf : Nat → Int) (b : Int) (what : Int) (hM : ∀ q, inAd ad 0 14 q → M q) (hkp : 0 ≤ kept ∧ kept ≤ 6) (hlen : 0 ≤ len ∧ len ≤ 200) (hb0 : -2147483648 ≤ b ∧ b < 2147483648) (hw : -2147483648 ≤ what ∧ what < 2147483648) : Met l yX6_board (Cond.code yX6_board cX6_board 3 (some .int) :: TB) rm_X6_board (va_Pc [.ref (ad 0), .int (iI b), .int (iI what)] (MPre D cs sz (xW cs ad len pl rlen rpc run_ rbo rcw rt tx gp nu kept gq swl sun sbo scw bo cu lo wh dps alk bof us bl lg) (fun U H => XI D cs M pl v kept gq bf U H))) (va_Qi (fun (r u : Int32) => r = u) (fun r t => ∃ (swl2 : Int) (sun2 : Int) (sbo2 : Int) (scw2 : Int) (bo2 : Int) (cu2 : Int) (lo2 : Int) (wh2 : Int) (dps2 : Nat → Int) (alk2 : Nat → Int) (bof2 : Nat → Int) (us2 : Nat → Int) (bl2 : Nat → Int) (lg2 : Nat → Int), (r = iI (aBoard v b what)) ∧ va_P D classes (xW cs ad len pl rlen rpc run_ rbo rcw rt tx gp nu kept gq swl2 sun2 sbo2 scw2 bo2 cu2 lo2 wh2 dps2 alk2 bof2 us2 bl2 lg2) t.heap ∧ va_D (va_A (xW cs ad len pl rlen rpc run_ rbo rcw rt tx gp nu kept gq swl sun sbo scw bo cu lo wh dps alk bof us bl lg) sz) (xW cs ad len pl rlen rpc run_ rbo rcw rt tx gp nu kept gq swl2 sun2 sbo2 scw2 bo2 cu2 lo2 wh2 dps2 alk2 bof2 us2 bl2 lg2)) (va_A (xW cs ad len pl rlen rpc run_ rbo rcw rt tx gp nu kept gq swl sun sbo scw bo cu lo wh dps alk bof us bl lg) sz)) 0 0 (va_A (xW cs ad len pl rlen rpc run_ rbo rcw rt tx gp nu kept gq swl sun sbo scw bo cu lo wh dps alk bof us bl lg) sz) := by
  refine enter (cc := cX6_board) (maxL := 3) (ret := (some .int)) (by decide) (Nat.le_of_ble_eq_true rfl) ?_
  intro pg ev s m below meth c Q ls hx hb hml hown hts hr hlocks hnm ⟨hsz, hP, hD0, hK, hX0⟩ hl hQ
  have ht : ∀ w ∈ TB, w.before _ s = true := fun w h => hts w (List.mem_cons_of_mem _ h)
  subst hsz
  have hD := hD0.self (sz := s.heap.size)
  obtain ⟨A, hAe⟩ : ∃ A, va_A (xW cs ad len pl rlen rpc run_ rbo rcw rt tx gp nu kept gq swl sun sbo scw bo cu lo wh dps alk bof us bl lg) s.heap.size = A := ⟨_, rfl⟩
  rw [hAe] at hD
  have hA : ∀ q : Nat, s.heap.size ≤ q → A q := fun q h => by rw [← hAe]; exact Or.inr h
  obtain ⟨H, hH⟩ : ∃ H, H = s.heap := ⟨_, rfl⟩
  obtain ⟨locs, hlocs⟩ : ∃ locs : List Loc, locs = [] := ⟨_, rfl⟩
  have hS : va_S A s.heap H locs := by rw [hH, hlocs]; exact va_S.rf
  rw [← hH] at hP
  suffices hgo : W pg l ev rm_X6_board s m [.ref (ad 0), .int (iI b), .int (iI what)].toArray below meth c H locs 0 0 Q (F0 m 0 ls []) by rw [hH, hlocs] at hgo; exact hgo
  have hl : lv_has ls 3 [(0, .ref (ad 0)), (1, .int (iI b)), (2, .int (iI what))] := hl
  have hXI := XI.inS hX0 (fun q z => hM q (Mw_xW q z)) hAe (show va_S A s.heap H locs from hS)
  have hvL := hX0.1.2.1.1
  obtain ⟨hv20, hv21, hv22, hv23, hvp⟩ := id hvL
  obtain ⟨arr, g, hG0⟩ := hX0.1.2.1.g
  refine lv_iload_n hx hb dX6_board_0 rfl (lv_at hl 1 rfl) ?_
  refine rv_if_lt (tgt := 13) hx hb dX6_board_1 (by decide) (by omega) (fun h1 => ?_) (fun h1 => ?_)
  · refine rv_iconst hx hb dX6_board_13 ?_
    subst hQ
    exact W.iret hx hb hr (fun t9 ht9 hW9 => ⟨⟨_, _, rfl, rfl, ⟨swl, sun, sbo, scw, bo, cu, lo, wh, dps, alk, bof, us, bl, lg, by rw [aBoard, cif_neg (fun q => by have := q.1; have := q.2; omega)], by rw [ht9]; exact hP, by rw [hAe]; exact hD⟩⟩, by rw [hAe]; exact hS.F ht9⟩) (by rw [hAe]; exact hS.2.2) dX6_board_14
  · refine lv_iload_n hx hb dX6_board_4 rfl (lv_at hl 2 rfl) ?_
    refine rv_if_lt (tgt := 13) hx hb dX6_board_5 (by decide) (by omega) (fun h5 => ?_) (fun h5 => ?_)
    · refine rv_iconst hx hb dX6_board_13 ?_
      subst hQ
      exact W.iret hx hb hr (fun t9 ht9 hW9 => ⟨⟨_, _, rfl, rfl, ⟨swl, sun, sbo, scw, bo, cu, lo, wh, dps, alk, bof, us, bl, lg, by rw [aBoard, cif_neg (fun q => by have := q.1; have := q.2; omega)], by rw [ht9]; exact hP, by rw [hAe]; exact hD⟩⟩, by rw [hAe]; exact hS.F ht9⟩) (by rw [hAe]; exact hS.2.2) dX6_board_14
    · refine lv_iload_n hx hb dX6_board_8 rfl (lv_at hl 2 rfl) ?_
      refine rv_iconst hx hb dX6_board_9 ?_
      refine rv_icmp_le (tgt := 15) hx hb dX6_board_10 (by decide) (by omega) (fun h10 => ?_) (fun h10 => ?_)
      · refine lv_aload_n hx hb dX6_board_15 rfl (lv_at hl 0 rfl) ?_
        refine va_get (D := D) (ci := 5) (v := .ref (ad 7)) (C := RX6) (T := TX6) (N := 6) hx hb ht inTB_X6 hown hK hP 0 rfl rfl 3 (by decide) (ht _ tb_202) (fun _ h9 => h9) rfl dX6_board_16 ?_
        refine lv_aload_n hx hb dX6_board_19 rfl (lv_at hl 0 rfl) ?_
        refine va_get (D := D) (ci := 5) (v := .ref pl) (C := RX6) (T := TX6) (N := 6) hx hb ht inTB_X6 hown hK hP 0 rfl rfl 5 (by decide) (ht _ tb_204) (fun _ h9 => h9) rfl dX6_board_20 ?_
        have hFc := va_free (wc := (sW cs ad swl sun sbo scw bo cu lo wh dps alk bof us bl lg)) hD hS hA [7, 8, 9, 10, 11, 12, 13] rfl
        have hPc := hP.sub (ws' := (sW cs ad swl sun sbo scw bo cu lo wh dps alk bof us bl lg)) [7, 8, 9, 10, 11, 12, 13] rfl
        have hDc := hD.sub (ws' := (sW cs ad swl sun sbo scw bo cu lo wh dps alk bof us bl lg)) [7, 8, 9, 10, 11, 12, 13] (by decide) rfl
        refine va_callv (va_runV (As := [.ref pl]) (rest := []) ⟨hx, hb, hml, hown, hts⟩ (c_X5_cutAll l D cs ad H.size swl sun sbo scw bo cu lo wh dps alk bof us bl lg M pl v (fun q z => hM q (z.mono (by decide) (by decide))) hvL) (cwV 1 hts (gV tb_505 tb_506 tb_507 tb_4 tb_508) rfl rfl rfl (by decide +kernel) ⟨Nat.le_of_ble_eq_true rfl, Nat.le_of_ble_eq_true rfl⟩) (preV_M (X := fun U H => PlanAt D cs M H pl v) Stb_H hK (va_recv hK hPc (ci := 4) (q0 := 0) rfl rfl) hPc hDc hXI.1.2.1) rfl rfl hl.1 rfl (lv_room (Nat.le_of_ble_eq_true rfl)) dX6_board_23 ⟨Nat.le_of_ble_eq_true rfl, Nat.le_of_ble_eq_true rfl⟩) hS (fun q _ h => hFc q h) hFc (fun u9 t9 H9 locs ht9 hvm9 hw9 hB9 hz9 hk9 hS => ?_)
        obtain ⟨swl2_23, sun2_23, sbo2_23, scw2_23, bo2_23, cu2_23, lo2_23, wh2_23, dps2_23, alk2_23, bof2_23, us2_23, bl2_23, lg2_23, hf23_0, hP1, hD1⟩ := hB9
        rw [ht9] at hP1
        obtain ⟨hPj, hDj⟩ := va_join (wr := [_, _, _, _, _, _, _]) hP hD [7, 8, 9, 10, 11, 12, 13] [0, 1, 2, 3, 4, 5, 6] rfl rfl (by decide) (by decide) hk9 hFc hP1 hD1
        generalize H9 = H at *
        have hP : va_P D classes (xW cs ad len pl rlen rpc run_ rbo rcw rt tx gp nu kept gq swl2_23 sun2_23 sbo2_23 scw2_23 bo2_23 cu2_23 lo2_23 wh2_23 dps2_23 alk2_23 bof2_23 us2_23 bl2_23 lg2_23) H := hPj.sub [0, 1, 2, 3, 4, 5, 6, 7, 8, 9, 10, 11, 12, 13] rfl
        have hD : va_D A (xW cs ad len pl rlen rpc run_ rbo rcw rt tx gp nu kept gq swl2_23 sun2_23 sbo2_23 scw2_23 bo2_23 cu2_23 lo2_23 wh2_23 dps2_23 alk2_23 bof2_23 us2_23 bl2_23 lg2_23) := hDj.sub [0, 1, 2, 3, 4, 5, 6, 7, 8, 9, 10, 11, 12, 13] (by decide) rfl
        obtain ⟨_, hs1, hs2, hs3, hs4, hs5, hs6, hs7, hs8, hs9, hs10⟩ := id hf23_0
        obtain ⟨⟨q0, q1, q2, q3, q4⟩, q5⟩ := fC_ok hvL
        have hl160 := lo_160 v
        have hXI := XI.inS hX0 (fun q z => hM q (Mw_xW q z)) hAe hS
        have hGG := hG0.inS (fun q z => hM q (Mw_xW q z)) hAe hS
        obtain ⟨_, hPl, hna, hnr, hgy⟩ := id hGG
        refine lv_iload_n hx hb dX6_board_26 rfl (lv_at hl 1 rfl) ?_
        refine lv_aload_n hx hb dX6_board_27 rfl (lv_at hl 0 rfl) ?_
        refine va_get (D := D) (ci := 5) (v := .ref (ad 7)) (C := RX6) (T := TX6) (N := 6) hx hb ht inTB_X6 hown hK hP 0 rfl rfl 3 (by decide) (ht _ tb_202) (fun _ h9 => h9) rfl dX6_board_28 ?_
        refine va_get (D := D) (ci := 4) (v := .int (iI bo2_23)) (C := RX5) (T := TX5) (N := 14) hx hb ht inTB_X5 hown hK hP 7 rfl rfl 10 (by decide) (ht _ tb_90) (fun _ h9 => h9) rfl dX6_board_31 ?_
        refine rv_icmp_ge (tgt := 44) hx hb dX6_board_34 (by decide) (by omega) (fun h34 => ?_) (fun h34 => ?_)
        · refine rv_iconst hx hb dX6_board_44 ?_
          subst hQ
          exact W.iret hx hb hr (fun t9 ht9 hW9 => ⟨⟨_, _, rfl, rfl, ⟨swl2_23, sun2_23, sbo2_23, scw2_23, bo2_23, cu2_23, lo2_23, wh2_23, dps2_23, alk2_23, bof2_23, us2_23, bl2_23, lg2_23, by rw [aBoard, cif_neg (fun q => by have := q.1; have := q.2; omega)], by rw [ht9]; exact hP, by rw [hAe]; exact hD⟩⟩, by rw [hAe]; exact hS.F ht9⟩) (by rw [hAe]; exact hS.2.2) dX6_board_45
        · refine lv_iload_n hx hb dX6_board_37 rfl (lv_at hl 1 rfl) ?_
          refine rv_sipush hx hb dX6_board_38 (by decide) ?_
          refine rv_icmp_lt (tgt := 46) hx hb dX6_board_41 (by decide) (by omega) (fun h41 => ?_) (fun h41 => False.elim (by omega))
          refine lv_iload_n hx hb dX6_board_46 rfl (lv_at hl 2 rfl) ?_
          by_cases hc0 : what = 0
          · refine rv_top (y := 0) hc0 ?_
            refine lv_lookup (tgt := 72) hx hb dX6_board_47 (by decide) rfl (by decide) ?_
            refine lv_aload_n hx hb dX6_board_72 rfl (lv_at hl 0 rfl) ?_
            refine va_get (D := D) (ci := 5) (v := .ref (ad 7)) (C := RX6) (T := TX6) (N := 6) hx hb ht inTB_X6 hown hK hP 0 rfl rfl 3 (by decide) (ht _ tb_202) (fun _ h9 => h9) rfl dX6_board_73 ?_
            refine va_get (D := D) (ci := 4) (v := .ref (ad 12)) (C := RX5) (T := TX5) (N := 14) hx hb ht inTB_X5 hown hK hP 7 rfl rfl 4 (by decide) (ht _ tb_82) (fun _ h9 => h9) rfl dX6_board_76 ?_
            refine lv_iload_n hx hb dX6_board_79 rfl (lv_at hl 1 rfl) ?_
            refine rv_iald hx hb hK hP 12 0 rfl rfl b.toNat (by omega) (by omega) dX6_board_80 ?_
            subst hQ
            exact W.iret hx hb hr (fun t9 ht9 hW9 => ⟨⟨_, _, rfl, rfl, ⟨swl2_23, sun2_23, sbo2_23, scw2_23, bo2_23, cu2_23, lo2_23, wh2_23, dps2_23, alk2_23, bof2_23, us2_23, bl2_23, lg2_23, by rw [aBoard, cif_pos ⟨by omega, by omega⟩, cif_pos hc0, (hs8 b.toNat (by omega)).2.1], by rw [ht9]; exact hP, by rw [hAe]; exact hD⟩⟩, by rw [hAe]; exact hS.F ht9⟩) (by rw [hAe]; exact hS.2.2) dX6_board_81
          by_cases hc1 : what = 1
          · refine rv_top (y := 1) hc1 ?_
            refine lv_lookup (tgt := 82) hx hb dX6_board_47 (by decide) rfl (by decide) ?_
            refine lv_aload_n hx hb dX6_board_82 rfl (lv_at hl 0 rfl) ?_
            refine va_get (D := D) (ci := 5) (v := .ref (ad 7)) (C := RX6) (T := TX6) (N := 6) hx hb ht inTB_X6 hown hK hP 0 rfl rfl 3 (by decide) (ht _ tb_202) (fun _ h9 => h9) rfl dX6_board_83 ?_
            refine lv_iload_n hx hb dX6_board_86 rfl (lv_at hl 1 rfl) ?_
            refine vp_callSi (W.runV (As := [.int (iI b)]) (rest := []) ⟨hx, hb, hml, hown, hts⟩ (c_X5_leftOf l D cs ad swl2_23 sun2_23 sbo2_23 scw2_23 bo2_23 cu2_23 lo2_23 wh2_23 dps2_23 alk2_23 bof2_23 us2_23 bl2_23 lg2_23 b (by omega) (by omega)) (cwV 1 hts (gV tb_543 tb_544 tb_545 tb_4 tb_546) rfl rfl rfl (by decide +kernel) ⟨Nat.le_of_ble_eq_true rfl, Nat.le_of_ble_eq_true rfl⟩) (preV_sw hK (hP.sub [7, 8, 9, 10, 11, 12, 13] rfl)) rfl rfl hl.1 rfl (lv_room (Nat.le_of_ble_eq_true rfl)) dX6_board_87 ⟨Nat.le_of_ble_eq_true rfl, Nat.le_of_ble_eq_true rfl⟩) (fun r9 hr9 => ?_)
            subst hr9
            subst hQ
            exact W.iret hx hb hr (fun t9 ht9 hW9 => ⟨⟨_, _, rfl, rfl, ⟨swl2_23, sun2_23, sbo2_23, scw2_23, bo2_23, cu2_23, lo2_23, wh2_23, dps2_23, alk2_23, bof2_23, us2_23, bl2_23, lg2_23, by rw [cif_pos (show 0 ≤ b ∧ b < bo2_23 by omega), aBoard, cif_pos ⟨by omega, by omega⟩, cif_neg (by omega), cif_pos hc1, (hs8 b.toNat (by omega)).1, hs2], by rw [ht9]; exact hP, by rw [hAe]; exact hD⟩⟩, by rw [hAe]; exact hS.F ht9⟩) (by rw [hAe]; exact hS.2.2) dX6_board_90
          refine lv_lookup (tgt := 91) (off := 44) hx hb dX6_board_47 (by decide) (by rw [iI_toInt (by omega)]; show Op.lookupswitch.offset [(0, 25), (1, 35)] 44 _ = 44; rw [Op.lookupswitch.offset_cons, if_neg (by omega), Op.lookupswitch.offset_cons, if_neg (by omega)]; rfl) (by decide) ?_
          refine lv_aload_n hx hb dX6_board_91 rfl (lv_at hl 0 rfl) ?_
          refine va_get (D := D) (ci := 5) (v := .ref (ad 7)) (C := RX6) (T := TX6) (N := 6) hx hb ht inTB_X6 hown hK hP 0 rfl rfl 3 (by decide) (ht _ tb_202) (fun _ h9 => h9) rfl dX6_board_92 ?_
          refine va_get (D := D) (ci := 4) (v := .ref (ad 13)) (C := RX5) (T := TX5) (N := 14) hx hb ht inTB_X5 hown hK hP 7 rfl rfl 5 (by decide) (ht _ tb_84) (fun _ h9 => h9) rfl dX6_board_95 ?_
          refine lv_iload_n hx hb dX6_board_98 rfl (lv_at hl 1 rfl) ?_
          refine rv_iald hx hb hK hP 13 0 rfl rfl b.toNat (by omega) (by omega) dX6_board_99 ?_
          subst hQ
          exact W.iret hx hb hr (fun t9 ht9 hW9 => ⟨⟨_, _, rfl, rfl, ⟨swl2_23, sun2_23, sbo2_23, scw2_23, bo2_23, cu2_23, lo2_23, wh2_23, dps2_23, alk2_23, bof2_23, us2_23, bl2_23, lg2_23, by rw [aBoard, cif_pos ⟨by omega, by omega⟩, cif_neg (by omega), cif_neg (by omega), (hs8 b.toNat (by omega)).2.2], by rw [ht9]; exact hP, by rw [hAe]; exact hD⟩⟩, by rw [hAe]; exact hS.F ht9⟩) (by rw [hAe]; exact hS.2.2) dX6_board_100
      · refine rv_iconst hx hb dX6_board_13 ?_
        subst hQ
        exact W.iret hx hb hr (fun t9 ht9 hW9 => ⟨⟨_, _, rfl, rfl, ⟨swl, sun, sbo, scw, bo, cu, lo, wh, dps, alk, bof, us, bl, lg, by rw [aBoard, cif_neg (fun q => by have := q.1; have := q.2; omega)], by rw [ht9]; exact hP, by rw [hAe]; exact hD⟩⟩, by rw [hAe]; exact hS.F ht9⟩) (by rw [hAe]; exact hS.2.2) dX6_board_14

abbrev rm_X6_where : Room := { frames := 5, cells := 0, slots := 0, locals := 114 }
set_option maxHeartbeats 8000000 in
set_option maxRecDepth 100000 in
/-- where -/
theorem c_X6_where (l : Launch) (D : va_G) (cs : Nat → ClassId) (ad : Nat → Nat) (sz : Nat) (len : Int) (pl : Nat) (rlen : Int) (rpc : Int) (run_ : Int) (rbo : Int) (rcw : Int) (rt : Value) (tx : Nat → Int) (gp : Nat → Option Nat) (nu : Nat → Int) (kept : Int) (gq : Nat → Option Nat) (swl : Int) (sun : Int) (sbo : Int) (scw : Int) (bo : Int) (cu : Int) (lo : Int) (wh : Int) (dps : Nat → Int) (alk : Nat → Int) (bof : Nat → Int) (us : Nat → Int) (bl : Nat → Int) (lg : Nat → Int) (M : Nat → Prop) (v : Nat → Int) (bf : Nat → Int) (p : Int) (i : Int) (hM : ∀ q, inAd ad 0 14 q → M q) (hkp : 0 ≤ kept ∧ kept ≤ 6) (hlen : 0 ≤ len ∧ len ≤ 200) (hp0 : -2147483648 ≤ p ∧ p < 2147483648) (hi : -2147483648 ≤ i ∧ i < 2147483648) : Met l yX6_where (Cond.code yX6_where cX6_where 4 (some .int) :: TB) rm_X6_where (va_Pc [.ref (ad 0), .int (iI p), .int (iI i)] (MPre D cs sz (xW cs ad len pl rlen rpc run_ rbo rcw rt tx gp nu kept gq swl sun sbo scw bo cu lo wh dps alk bof us bl lg) (fun U H => XI D cs M pl v kept gq bf U H))) (va_Qi (fun (r u : Int32) => r = u) (fun r t => ∃ (swl2 : Int) (sun2 : Int) (sbo2 : Int) (scw2 : Int) (bo2 : Int) (cu2 : Int) (lo2 : Int) (wh2 : Int) (dps2 : Nat → Int) (alk2 : Nat → Int) (bof2 : Nat → Int) (us2 : Nat → Int) (bl2 : Nat → Int) (lg2 : Nat → Int), (r = iI (aWhere v p i)) ∧ va_P D classes (xW cs ad len pl rlen rpc run_ rbo rcw rt tx gp nu kept gq swl2 sun2 sbo2 scw2 bo2 cu2 lo2 wh2 dps2 alk2 bof2 us2 bl2 lg2) t.heap ∧ va_D (va_A (xW cs ad len pl rlen rpc run_ rbo rcw rt tx gp nu kept gq swl sun sbo scw bo cu lo wh dps alk bof us bl lg) sz) (xW cs ad len pl rlen rpc run_ rbo rcw rt tx gp nu kept gq swl2 sun2 sbo2 scw2 bo2 cu2 lo2 wh2 dps2 alk2 bof2 us2 bl2 lg2)) (va_A (xW cs ad len pl rlen rpc run_ rbo rcw rt tx gp nu kept gq swl sun sbo scw bo cu lo wh dps alk bof us bl lg) sz)) 0 0 (va_A (xW cs ad len pl rlen rpc run_ rbo rcw rt tx gp nu kept gq swl sun sbo scw bo cu lo wh dps alk bof us bl lg) sz) := by
  refine enter (cc := cX6_where) (maxL := 4) (ret := (some .int)) (by decide) (Nat.le_of_ble_eq_true rfl) ?_
  intro pg ev s m below meth c Q ls hx hb hml hown hts hr hlocks hnm ⟨hsz, hP, hD0, hK, hX0⟩ hl hQ
  have ht : ∀ w ∈ TB, w.before _ s = true := fun w h => hts w (List.mem_cons_of_mem _ h)
  subst hsz
  have hD := hD0.self (sz := s.heap.size)
  obtain ⟨A, hAe⟩ : ∃ A, va_A (xW cs ad len pl rlen rpc run_ rbo rcw rt tx gp nu kept gq swl sun sbo scw bo cu lo wh dps alk bof us bl lg) s.heap.size = A := ⟨_, rfl⟩
  rw [hAe] at hD
  have hA : ∀ q : Nat, s.heap.size ≤ q → A q := fun q h => by rw [← hAe]; exact Or.inr h
  obtain ⟨H, hH⟩ : ∃ H, H = s.heap := ⟨_, rfl⟩
  obtain ⟨locs, hlocs⟩ : ∃ locs : List Loc, locs = [] := ⟨_, rfl⟩
  have hS : va_S A s.heap H locs := by rw [hH, hlocs]; exact va_S.rf
  rw [← hH] at hP
  suffices hgo : W pg l ev rm_X6_where s m [.ref (ad 0), .int (iI p), .int (iI i)].toArray below meth c H locs 0 0 Q (F0 m 0 ls []) by rw [hH, hlocs] at hgo; exact hgo
  have hl : lv_has ls 4 [(0, .ref (ad 0)), (1, .int (iI p)), (2, .int (iI i))] := hl
  have hXI := XI.inS hX0 (fun q z => hM q (Mw_xW q z)) hAe (show va_S A s.heap H locs from hS)
  have hvL := hX0.1.2.1.1
  obtain ⟨hv20, hv21, hv22, hv23, hvp⟩ := id hvL
  obtain ⟨arr, g, hG0⟩ := hX0.1.2.1.g
  have hGG := hG0.inS (fun q z => hM q (Mw_xW q z)) hAe hS
  obtain ⟨_, hPl, hna, hnr, hgy⟩ := id hGG
  refine lv_aload_n hx hb dX6_where_0 rfl (lv_at hl 0 rfl) ?_
  refine va_get (D := D) (ci := 5) (v := .ref pl) (C := RX6) (T := TX6) (N := 6) hx hb ht inTB_X6 hown hK hP 0 rfl rfl 5 (by decide) (ht _ tb_204) (fun _ h9 => h9) rfl dX6_where_1 ?_
  refine lv_iload_n hx hb dX6_where_4 rfl (lv_at hl 1 rfl) ?_
  refine va_csq (W.runV (As := [.int (iI p)]) (rest := []) ⟨hx, hb, hml, hown, hts⟩ (c_X3_panelAt l D cs pl arr ((v 20).toNat) g (v 21) (v 22) (v 23) p (by omega) (by omega)) (cwV 1 hts (gV tb_314 tb_315 tb_316 tb_7 tb_317) rfl rfl rfl (by decide +kernel) ⟨Nat.le_of_ble_eq_true rfl, Nat.le_of_ble_eq_true rfl⟩) (preV_pi hK hGG.pin) rfl rfl hl.1 rfl (lv_room (Nat.le_of_ble_eq_true rfl)) dX6_where_5 ⟨Nat.le_of_ble_eq_true rfl, Nat.le_of_ble_eq_true rfl⟩) (fun r9 hr9 => ?_)
  subst hr9
  by_cases hq5 : 0 ≤ p ∧ p < ((((v 20).toNat) : Nat) : Int)
  · obtain ⟨y5, hy5, hpan5⟩ := (show ∃ y, g p.toNat = some y ∧ PanelAt D cs M H y (pv v p 0) (pv v p 1) (pv v p 2) (pv v p 3) (pv v p 4) from hgy p.toNat (by omega))
    rw [cF_pos hq5, hy5]
    refine W.eq (g2 := F0 m 8 ls [.ref y5]) rfl ?_
    have hpp : 0 ≤ p ∧ p < v 20 := by omega
    obtain ⟨hvk, hvn, hvf, hvo, hvw⟩ := vL_p hvL hpp
    have hnb := isPr_bd hvn
    have hpb := per_bd (k := pv v p 0) hvn
    have hfb := fOK_bd hvk hvn hvf
    obtain ⟨_, r0, row0, hPn, _, _, _⟩ := id hpan5
    refine lv_astore_n (lv' := [(3, .ref y5), (0, .ref (ad 0)), (1, .int (iI p)), (2, .int (iI i))]) hx hb dX6_where_8 rfl hl (by decide) rfl (fun ls hl => ?_)
    refine lv_aload_n hx hb dX6_where_9 rfl (lv_at hl 0 rfl) ?_
    refine lv_ifnull hx hb dX6_where_10 ?_
    refine lv_aload_n hx hb dX6_where_13 rfl (lv_at hl 0 rfl) ?_
    refine lv_iload_n hx hb dX6_where_14 rfl (lv_at hl 3 rfl) ?_
    refine vp_callSi (W.runV (As := [.int (iI i)]) (rest := []) ⟨hx, hb, hml, hown, hts⟩ (c_X1_hasWell l D cs y5 (pv v p 0) (pv v p 1) (pv v p 2) (pv v p 3) (pv v p 4) i (by omega)) (cwV 1 hts (gV tb_467 tb_468 tb_469 tb_5 tb_470) rfl rfl rfl (by decide +kernel) ⟨Nat.le_of_ble_eq_true rfl, Nat.le_of_ble_eq_true rfl⟩) (preV_pan hK hpan5) rfl rfl hl.1 rfl (lv_room (Nat.le_of_ble_eq_true rfl)) dX6_where_15 ⟨Nat.le_of_ble_eq_true rfl, Nat.le_of_ble_eq_true rfl⟩) (fun r9 hr9 => ?_)
    rcases hr9 with ⟨rfl, hb15⟩ | ⟨rfl, hb15⟩
    · refine rv_if_ne (tgt := 23) hx hb dX6_where_18 (by decide) (by decide) (fun _ => ?_) (fun q => absurd q (by decide))
      refine lv_aload_n hx hb dX6_where_23 rfl (lv_at hl 1 rfl) ?_
      refine va_get (D := D) (ci := 5) (v := .ref (ad 7)) (C := RX6) (T := TX6) (N := 6) hx hb ht inTB_X6 hown hK hP 0 rfl rfl 3 (by decide) (ht _ tb_202) (fun _ h9 => h9) rfl dX6_where_24 ?_
      refine lv_aload_n hx hb dX6_where_27 rfl (lv_at hl 1 rfl) ?_
      refine va_get (D := D) (ci := 5) (v := .ref pl) (C := RX6) (T := TX6) (N := 6) hx hb ht inTB_X6 hown hK hP 0 rfl rfl 5 (by decide) (ht _ tb_204) (fun _ h9 => h9) rfl dX6_where_28 ?_
      have hFc := va_free (wc := (sW cs ad swl sun sbo scw bo cu lo wh dps alk bof us bl lg)) hD hS hA [7, 8, 9, 10, 11, 12, 13] rfl
      have hPc := hP.sub (ws' := (sW cs ad swl sun sbo scw bo cu lo wh dps alk bof us bl lg)) [7, 8, 9, 10, 11, 12, 13] rfl
      have hDc := hD.sub (ws' := (sW cs ad swl sun sbo scw bo cu lo wh dps alk bof us bl lg)) [7, 8, 9, 10, 11, 12, 13] (by decide) rfl
      refine va_callv (va_runV (As := [.ref pl]) (rest := []) ⟨hx, hb, hml, hown, hts⟩ (c_X5_cutAll l D cs ad H.size swl sun sbo scw bo cu lo wh dps alk bof us bl lg M pl v (fun q z => hM q (z.mono (by decide) (by decide))) hvL) (cwV 1 hts (gV tb_505 tb_506 tb_507 tb_4 tb_508) rfl rfl rfl (by decide +kernel) ⟨Nat.le_of_ble_eq_true rfl, Nat.le_of_ble_eq_true rfl⟩) (preV_M (X := fun U H => PlanAt D cs M H pl v) Stb_H hK (va_recv hK hPc (ci := 4) (q0 := 0) rfl rfl) hPc hDc hXI.1.2.1) rfl rfl hl.1 rfl (lv_room (Nat.le_of_ble_eq_true rfl)) dX6_where_31 ⟨Nat.le_of_ble_eq_true rfl, Nat.le_of_ble_eq_true rfl⟩) hS (fun q _ h => hFc q h) hFc (fun u9 t9 H9 locs ht9 hvm9 hw9 hB9 hz9 hk9 hS => ?_)
      obtain ⟨swl2_31, sun2_31, sbo2_31, scw2_31, bo2_31, cu2_31, lo2_31, wh2_31, dps2_31, alk2_31, bof2_31, us2_31, bl2_31, lg2_31, hf31_0, hP1, hD1⟩ := hB9
      rw [ht9] at hP1
      obtain ⟨hPj, hDj⟩ := va_join (wr := [_, _, _, _, _, _, _]) hP hD [7, 8, 9, 10, 11, 12, 13] [0, 1, 2, 3, 4, 5, 6] rfl rfl (by decide) (by decide) hk9 hFc hP1 hD1
      generalize H9 = H at *
      have hP : va_P D classes (xW cs ad len pl rlen rpc run_ rbo rcw rt tx gp nu kept gq swl2_31 sun2_31 sbo2_31 scw2_31 bo2_31 cu2_31 lo2_31 wh2_31 dps2_31 alk2_31 bof2_31 us2_31 bl2_31 lg2_31) H := hPj.sub [0, 1, 2, 3, 4, 5, 6, 7, 8, 9, 10, 11, 12, 13] rfl
      have hD : va_D A (xW cs ad len pl rlen rpc run_ rbo rcw rt tx gp nu kept gq swl2_31 sun2_31 sbo2_31 scw2_31 bo2_31 cu2_31 lo2_31 wh2_31 dps2_31 alk2_31 bof2_31 us2_31 bl2_31 lg2_31) := hDj.sub [0, 1, 2, 3, 4, 5, 6, 7, 8, 9, 10, 11, 12, 13] (by decide) rfl
      obtain ⟨_, hs1, hs2, hs3, hs4, hs5, hs6, hs7, hs8, hs9, hs10⟩ := id hf31_0
      obtain ⟨⟨q0, q1, q2, q3, q4⟩, q5⟩ := fC_ok hvL
      have hl160 := lo_160 v
      have hXI := XI.inS hX0 (fun q z => hM q (Mw_xW q z)) hAe hS
      have hGG := hG0.inS (fun q z => hM q (Mw_xW q z)) hAe hS
      obtain ⟨_, hPl, hna, hnr, hgy⟩ := id hGG
      refine lv_aload_n hx hb dX6_where_34 rfl (lv_at hl 1 rfl) ?_
      refine va_get (D := D) (ci := 5) (v := .ref (ad 7)) (C := RX6) (T := TX6) (N := 6) hx hb ht inTB_X6 hown hK hP 0 rfl rfl 3 (by decide) (ht _ tb_202) (fun _ h9 => h9) rfl dX6_where_35 ?_
      refine lv_aload_n hx hb dX6_where_38 rfl (lv_at hl 1 rfl) ?_
      refine va_get (D := D) (ci := 5) (v := .ref pl) (C := RX6) (T := TX6) (N := 6) hx hb ht inTB_X6 hown hK hP 0 rfl rfl 5 (by decide) (ht _ tb_204) (fun _ h9 => h9) rfl dX6_where_39 ?_
      refine lv_iload_n hx hb dX6_where_42 rfl (lv_at hl 2 rfl) ?_
      refine vp_callSi (W.runV (As := [.int (iI p)]) (rest := [.ref (ad 7)]) ⟨hx, hb, hml, hown, hts⟩ (c_X3_wellsBefore l D cs pl v p (by omega)) (cwV 1 hts (gV tb_551 tb_552 tb_553 tb_7 tb_554) rfl rfl rfl (by decide +kernel) ⟨Nat.le_of_ble_eq_true rfl, Nat.le_of_ble_eq_true rfl⟩) (preV_pl hK hXI.1.2.1) rfl rfl hl.1 rfl (lv_room (Nat.le_of_ble_eq_true rfl)) dX6_where_43 ⟨Nat.le_of_ble_eq_true rfl, Nat.le_of_ble_eq_true rfl⟩) (fun r9 hr9 => ?_)
      subst hr9
      refine lv_iload_n hx hb dX6_where_46 rfl (lv_at hl 3 rfl) ?_
      refine rv_iadd hx hb dX6_where_47 ?_
      have hwl : wsum v (mnI p (v 20)).toNat + i = (ix v (40 * p.toNat + i.toNat) : Int) := by rw [show (mnI p (v 20)).toNat = p.toNat by unfold mnI; split <;> omega, ix_in (by omega) (show pv v p 4 ≤ 40 by omega) i.toNat (show ((i.toNat : Nat) : Int) ≤ pv v p 4 by omega)]; have hz := ix_w hvL p.toNat (by omega); omega
      refine vp_callSi (W.runV (As := [.int (iI (wsum v (mnI p (v 20)).toNat + i))]) (rest := []) ⟨hx, hb, hml, hown, hts⟩ (c_X5_boardOfWell l D cs ad swl2_31 sun2_31 sbo2_31 scw2_31 bo2_31 cu2_31 lo2_31 wh2_31 dps2_31 alk2_31 bof2_31 us2_31 bl2_31 lg2_31 v (wsum v (mnI p (v 20)).toNat + i) (40 * p.toNat + i.toNat) hf31_0 (by omega) ((exW_at (by omega)).mpr ⟨by omega, (show ((i.toNat : Nat) : Int) < pv v p 4 by omega)⟩) hwl) (cwV 1 hts (gV tb_555 tb_556 tb_557 tb_4 tb_558) rfl rfl rfl (by decide +kernel) ⟨Nat.le_of_ble_eq_true rfl, Nat.le_of_ble_eq_true rfl⟩) (preV_sw hK (hP.sub [7, 8, 9, 10, 11, 12, 13] rfl)) rfl rfl hl.1 rfl (lv_room (Nat.le_of_ble_eq_true rfl)) dX6_where_48 ⟨Nat.le_of_ble_eq_true rfl, Nat.le_of_ble_eq_true rfl⟩) (fun r9 hr9 => ?_)
      subst hr9
      subst hQ
      exact W.iret hx hb hr (fun t9 ht9 hW9 => ⟨⟨_, _, rfl, rfl, ⟨swl2_31, sun2_31, sbo2_31, scw2_31, bo2_31, cu2_31, lo2_31, wh2_31, dps2_31, alk2_31, bof2_31, us2_31, bl2_31, lg2_31, by rw [aWhere, cif_pos ⟨hpp, hb15⟩, show (40 * p + i).toNat = (40 * p.toNat + i.toNat) by omega], by rw [ht9]; exact hP, by rw [hAe]; exact hD⟩⟩, by rw [hAe]; exact hS.F ht9⟩) (by rw [hAe]; exact hS.2.2) dX6_where_51
    · refine rv_if_ne (tgt := 23) hx hb dX6_where_18 (by decide) (by decide) (fun q => absurd q (by decide)) (fun _ => ?_)
      refine rv_iconst hx hb dX6_where_21 ?_
      subst hQ
      exact W.iret hx hb hr (fun t9 ht9 hW9 => ⟨⟨_, _, rfl, rfl, ⟨swl, sun, sbo, scw, bo, cu, lo, wh, dps, alk, bof, us, bl, lg, by rw [aWhere, cif_neg (fun q => by first | exact hb15 q.2 | (have := q.1; omega))], by rw [ht9]; exact hP, by rw [hAe]; exact hD⟩⟩, by rw [hAe]; exact hS.F ht9⟩) (by rw [hAe]; exact hS.2.2) dX6_where_22
  · rw [cF_neg hq5]
    refine W.eq (g2 := F0 m 8 ls [.null]) rfl ?_
    refine lv_astore_nN (lv' := [(3, .null), (0, .ref (ad 0)), (1, .int (iI p)), (2, .int (iI i))]) hx hb dX6_where_8 rfl hl (by decide) rfl (fun ls hl => ?_)
    refine lv_aload_nN hx hb dX6_where_9 rfl (lv_at hl 0 rfl) ?_
    refine lv_ifnullN (tgt := 21) hx hb dX6_where_10 (by decide) ?_
    refine rv_iconst hx hb dX6_where_21 ?_
    subst hQ
    exact W.iret hx hb hr (fun t9 ht9 hW9 => ⟨⟨_, _, rfl, rfl, ⟨swl, sun, sbo, scw, bo, cu, lo, wh, dps, alk, bof, us, bl, lg, by rw [aWhere, cif_neg (fun q => by first | exact hb15 q.2 | (have := q.1; omega))], by rw [ht9]; exact hP, by rw [hAe]; exact hD⟩⟩, by rw [hAe]; exact hS.F ht9⟩) (by rw [hAe]; exact hS.2.2) dX6_where_22

abbrev rm_X6_best : Room := { frames := 4, cells := 0, slots := 0, locals := 93 }
set_option maxHeartbeats 8000000 in
set_option maxRecDepth 100000 in
/-- best -/
theorem c_X6_best (l : Launch) (D : va_G) (cs : Nat → ClassId) (ad : Nat → Nat) (sz : Nat) (len : Int) (pl : Nat) (rlen : Int) (rpc : Int) (run_ : Int) (rbo : Int) (rcw : Int) (rt : Value) (tx : Nat → Int) (gp : Nat → Option Nat) (nu : Nat → Int) (kept : Int) (gq : Nat → Option Nat) (swl : Int) (sun : Int) (sbo : Int) (scw : Int) (bo : Int) (cu : Int) (lo : Int) (wh : Int) (dps : Nat → Int) (alk : Nat → Int) (bof : Nat → Int) (us : Nat → Int) (bl : Nat → Int) (lg : Nat → Int) (M : Nat → Prop) (v : Nat → Int) (bf : Nat → Int) (p : Int) (what : Int) (hM : ∀ q, inAd ad 0 14 q → M q) (hkp : 0 ≤ kept ∧ kept ≤ 6) (hlen : 0 ≤ len ∧ len ≤ 200) (hp0 : -2147483648 ≤ p ∧ p < 2147483648) (hw : -2147483648 ≤ what ∧ what < 2147483648) : Met l yX6_best (Cond.code yX6_best cX6_best 9 (some .int) :: TB) rm_X6_best (va_Pc [.ref (ad 0), .int (iI p), .int (iI what)] (MPre D cs sz (xW cs ad len pl rlen rpc run_ rbo rcw rt tx gp nu kept gq swl sun sbo scw bo cu lo wh dps alk bof us bl lg) (fun U H => XI D cs M pl v kept gq bf U H))) (va_Qi (fun (r u : Int32) => r = u) (fun r t => ∃ (swl2 : Int) (sun2 : Int) (sbo2 : Int) (scw2 : Int) (bo2 : Int) (cu2 : Int) (lo2 : Int) (wh2 : Int) (dps2 : Nat → Int) (alk2 : Nat → Int) (bof2 : Nat → Int) (us2 : Nat → Int) (bl2 : Nat → Int) (lg2 : Nat → Int), (r = iI (aBest v p what)) ∧ va_P D classes (xW cs ad len pl rlen rpc run_ rbo rcw rt tx gp nu kept gq swl2 sun2 sbo2 scw2 bo2 cu2 lo2 wh2 dps2 alk2 bof2 us2 bl2 lg2) t.heap ∧ va_D (va_A (xW cs ad len pl rlen rpc run_ rbo rcw rt tx gp nu kept gq swl sun sbo scw bo cu lo wh dps alk bof us bl lg) sz) (xW cs ad len pl rlen rpc run_ rbo rcw rt tx gp nu kept gq swl2 sun2 sbo2 scw2 bo2 cu2 lo2 wh2 dps2 alk2 bof2 us2 bl2 lg2)) (va_A (xW cs ad len pl rlen rpc run_ rbo rcw rt tx gp nu kept gq swl sun sbo scw bo cu lo wh dps alk bof us bl lg) sz)) 0 0 (va_A (xW cs ad len pl rlen rpc run_ rbo rcw rt tx gp nu kept gq swl sun sbo scw bo cu lo wh dps alk bof us bl lg) sz) := by
  refine enter (cc := cX6_best) (maxL := 9) (ret := (some .int)) (by decide) (Nat.le_of_ble_eq_true rfl) ?_
  intro pg ev s m below meth c Q ls hx hb hml hown hts hr hlocks hnm ⟨hsz, hP, hD0, hK, hX0⟩ hl hQ
  have ht : ∀ w ∈ TB, w.before _ s = true := fun w h => hts w (List.mem_cons_of_mem _ h)
  subst hsz
  have hD := hD0.self (sz := s.heap.size)
  obtain ⟨A, hAe⟩ : ∃ A, va_A (xW cs ad len pl rlen rpc run_ rbo rcw rt tx gp nu kept gq swl sun sbo scw bo cu lo wh dps alk bof us bl lg) s.heap.size = A := ⟨_, rfl⟩
  rw [hAe] at hD
  have hA : ∀ q : Nat, s.heap.size ≤ q → A q := fun q h => by rw [← hAe]; exact Or.inr h
  obtain ⟨H, hH⟩ : ∃ H, H = s.heap := ⟨_, rfl⟩
  obtain ⟨locs, hlocs⟩ : ∃ locs : List Loc, locs = [] := ⟨_, rfl⟩
  have hS : va_S A s.heap H locs := by rw [hH, hlocs]; exact va_S.rf
  rw [← hH] at hP
  suffices hgo : W pg l ev rm_X6_best s m [.ref (ad 0), .int (iI p), .int (iI what)].toArray below meth c H locs 0 0 Q (F0 m 0 ls []) by rw [hH, hlocs] at hgo; exact hgo
  have hl : lv_has ls 9 [(0, .ref (ad 0)), (1, .int (iI p)), (2, .int (iI what))] := hl
  have hXI := XI.inS hX0 (fun q z => hM q (Mw_xW q z)) hAe (show va_S A s.heap H locs from hS)
  have hvL := hX0.1.2.1.1
  obtain ⟨hv20, hv21, hv22, hv23, hvp⟩ := id hvL
  obtain ⟨arr, g, hG0⟩ := hX0.1.2.1.g
  have hGG := hG0.inS (fun q z => hM q (Mw_xW q z)) hAe hS
  obtain ⟨_, hPl, hna, hnr, hgy⟩ := id hGG
  refine lv_aload_n hx hb dX6_best_0 rfl (lv_at hl 0 rfl) ?_
  refine va_get (D := D) (ci := 5) (v := .ref pl) (C := RX6) (T := TX6) (N := 6) hx hb ht inTB_X6 hown hK hP 0 rfl rfl 5 (by decide) (ht _ tb_204) (fun _ h9 => h9) rfl dX6_best_1 ?_
  refine lv_iload_n hx hb dX6_best_4 rfl (lv_at hl 1 rfl) ?_
  refine va_csq (W.runV (As := [.int (iI p)]) (rest := []) ⟨hx, hb, hml, hown, hts⟩ (c_X3_panelAt l D cs pl arr ((v 20).toNat) g (v 21) (v 22) (v 23) p (by omega) (by omega)) (cwV 1 hts (gV tb_314 tb_315 tb_316 tb_7 tb_317) rfl rfl rfl (by decide +kernel) ⟨Nat.le_of_ble_eq_true rfl, Nat.le_of_ble_eq_true rfl⟩) (preV_pi hK hGG.pin) rfl rfl hl.1 rfl (lv_room (Nat.le_of_ble_eq_true rfl)) dX6_best_5 ⟨Nat.le_of_ble_eq_true rfl, Nat.le_of_ble_eq_true rfl⟩) (fun r9 hr9 => ?_)
  subst hr9
  by_cases hq5 : 0 ≤ p ∧ p < ((((v 20).toNat) : Nat) : Int)
  · obtain ⟨y5, hy5, hpan5⟩ := (show ∃ y, g p.toNat = some y ∧ PanelAt D cs M H y (pv v p 0) (pv v p 1) (pv v p 2) (pv v p 3) (pv v p 4) from hgy p.toNat (by omega))
    rw [cF_pos hq5, hy5]
    refine W.eq (g2 := F0 m 8 ls [.ref y5]) rfl ?_
    have hpp : 0 ≤ p ∧ p < v 20 := by omega
    obtain ⟨hvk, hvn, hvf, hvo, hvw⟩ := vL_p hvL hpp
    have hnb := isPr_bd hvn
    have hpb := per_bd (k := pv v p 0) hvn
    have hfb := fOK_bd hvk hvn hvf
    obtain ⟨_, r0, row0, hPn, _, _, _⟩ := id hpan5
    refine lv_astore_n (lv' := [(3, .ref y5), (0, .ref (ad 0)), (1, .int (iI p)), (2, .int (iI what))]) hx hb dX6_best_8 rfl hl (by decide) rfl (fun ls hl => ?_)
    refine lv_aload_n hx hb dX6_best_9 rfl (lv_at hl 0 rfl) ?_
    refine lv_ifnull hx hb dX6_best_10 ?_
    refine lv_iload_n hx hb dX6_best_13 rfl (lv_at hl 3 rfl) ?_
    refine rv_if_lt (tgt := 22) hx hb dX6_best_14 (by decide) (by omega) (fun h14 => ?_) (fun h14 => ?_)
    · refine rv_iconst hx hb dX6_best_22 ?_
      subst hQ
      exact W.iret hx hb hr (fun t9 ht9 hW9 => ⟨⟨_, _, rfl, rfl, ⟨swl, sun, sbo, scw, bo, cu, lo, wh, dps, alk, bof, us, bl, lg, by rw [aBest, cif_neg (fun q => by have := q.1; have := q.2; omega)], by rw [ht9]; exact hP, by rw [hAe]; exact hD⟩⟩, by rw [hAe]; exact hS.F ht9⟩) (by rw [hAe]; exact hS.2.2) dX6_best_23
    · refine lv_iload_n hx hb dX6_best_17 rfl (lv_at hl 3 rfl) ?_
      refine rv_iconst hx hb dX6_best_18 ?_
      refine rv_icmp_le (tgt := 24) hx hb dX6_best_19 (by decide) (by omega) (fun h19 => ?_) (fun h19 => ?_)
      · refine rv_iconst hx hb dX6_best_24 ?_
        refine lv_istore (lv' := [(4, .int (iI 0)), (3, .ref y5), (0, .ref (ad 0)), (1, .int (iI p)), (2, .int (iI what))]) hx hb dX6_best_25 hl (by decide) rfl (fun ls hl => ?_)
        refine rv_iconst hx hb dX6_best_27 ?_
        refine lv_istore (lv' := [(5, .int (iI 0)), (4, .int (iI 0)), (3, .ref y5), (0, .ref (ad 0)), (1, .int (iI p)), (2, .int (iI what))]) hx hb dX6_best_28 hl (by decide) rfl (fun ls hl => ?_)
        refine rv_iconst hx hb dX6_best_30 ?_
        refine lv_istore (lv' := [(6, .int (iI 0)), (5, .int (iI 0)), (4, .int (iI 0)), (3, .ref y5), (0, .ref (ad 0)), (1, .int (iI p)), (2, .int (iI what))]) hx hb dX6_best_31 hl (by decide) rfl (fun ls hl => ?_)
        refine rv_iconst hx hb dX6_best_33 ?_
        refine lv_istore (lv' := [(7, .int (iI 0)), (6, .int (iI 0)), (5, .int (iI 0)), (4, .int (iI 0)), (3, .ref y5), (0, .ref (ad 0)), (1, .int (iI p)), (2, .int (iI what))]) hx hb dX6_best_34 hl (by decide) rfl (fun ls hl => ?_)
        refine rv_iconst hx hb dX6_best_36 ?_
        refine lv_istore (lv' := [(8, .int (iI 0)), (7, .int (iI 0)), (6, .int (iI 0)), (5, .int (iI 0)), (4, .int (iI 0)), (3, .ref y5), (0, .ref (ad 0)), (1, .int (iI p)), (2, .int (iI what))]) hx hb dX6_best_37 hl (by decide) rfl (fun ls hl => ?_)
        have hpan0 : PanelAt D cs M s.heap y5 (pv v p 0) (pv v p 1) (pv v p 2) (pv v p 3) (pv v p 4) := by rw [← hH]; exact hpan5
        have loop39 : ∀ (fuel39 : Nat) (k : Nat) (a1 : Int) (a2 : Int) (a3 : Int) (a4 : Int) (Z0 : Int) (Z1 : Int) (Z2 : Int) (Z3 : Int) (Z4 : Int) (Z5 : Int) (Z6 : Int) (Z7 : Int) (Z8 : Nat → Int) (Z9 : Nat → Int) (Z10 : Nat → Int) (Z11 : Nat → Int) (Z12 : Nat → Int) (Z13 : Nat → Int), ((k : Int) ≤ pv v p 1) → ((0 ≤ a1 ∧ a1 ≤ 1000) ∧ (-10000 ≤ a2 ∧ a2 ≤ 10000) ∧ (-10000 ≤ a3 ∧ a3 ≤ 10000) ∧ (-10000 ≤ a4 ∧ a4 ≤ 10000)) → (1 ≤ k → (a1, a2, a3, a4) = bst v p k) → (pv v p 1 - (k : Int)).toNat < fuel39 → ∀ (x8 : Int), x8 = (k : Int) → ∀ (H : Heap) (locs : List Loc), va_P D classes (xW cs ad len pl rlen rpc run_ rbo rcw rt tx gp nu kept gq Z0 Z1 Z2 Z3 Z4 Z5 Z6 Z7 Z8 Z9 Z10 Z11 Z12 Z13) H → va_D A (xW cs ad len pl rlen rpc run_ rbo rcw rt tx gp nu kept gq Z0 Z1 Z2 Z3 Z4 Z5 Z6 Z7 Z8 Z9 Z10 Z11 Z12 Z13) → va_S A s.heap H locs → ∀ ls : Array Slot, lv_has ls 9 [(0, .ref (ad 0)), (1, .int (iI p)), (2, .int (iI what)), (3, .ref y5), (4, .int (iI a1)), (5, .int (iI a2)), (6, .int (iI a3)), (7, .int (iI a4)), (8, .int (iI x8))] → W pg l ev rm_X6_best s m [.ref (ad 0), .int (iI p), .int (iI what)].toArray below meth c H locs 0 0 Q (F0 m 39 ls []) := by
          intro fuel39
          induction fuel39 with
          | zero => intro k a1 a2 a3 a4 Z0 Z1 Z2 Z3 Z4 Z5 Z6 Z7 Z8 Z9 Z10 Z11 Z12 Z13 hk hab hq hfuel39; exact absurd hfuel39 (Nat.not_lt_zero _)
          | succ fuel39 ih39 =>
            intro k a1 a2 a3 a4 Z0 Z1 Z2 Z3 Z4 Z5 Z6 Z7 Z8 Z9 Z10 Z11 Z12 Z13 hk hab hq hfuel39 x8 ex8 H locs hP hD hS ls hl
            subst ex8
            refine lv_iload hx hb dX6_best_39 (lv_at hl 8 rfl) ?_
            obtain ⟨_, r0, row0, hPn, _, _, _⟩ := PanelAt.inS hpan0 (fun q z => hM q (Mw_xW q z)) hAe hS
            refine lv_aload_n hx hb dX6_best_41 rfl (lv_at hl 3 rfl) ?_
            refine va_get (D := D) (ci := 0) (v := .int (iI (pv v p 1))) (C := RX1) (T := TX1) (N := 7) hx hb ht inTB_X1 hown hK hPn 0 rfl rfl 1 (by decide) (ht _ tb_144) (fun _ h9 => h9) rfl dX6_best_42 ?_
            refine rv_icmp_ge (tgt := 120) hx hb dX6_best_45 (by decide) (by omega) (fun h45 => ?_) (fun h45 => ?_)
            · refine lv_iload_n hx hb dX6_best_120 rfl (lv_at hl 2 rfl) ?_
              refine rv_if_ne (tgt := 129) hx hb dX6_best_121 (by decide) (by omega) (fun h121 => ?_) (fun h121 => ?_)
              · refine lv_iload hx hb dX6_best_129 (lv_at hl 6 rfl) ?_
                subst hQ
                exact W.iret hx hb hr (fun t9 ht9 hW9 => ⟨⟨_, _, rfl, rfl, ⟨Z0, Z1, Z2, Z3, Z4, Z5, Z6, Z7, Z8, Z9, Z10, Z11, Z12, Z13, by rw [aBest, cif_pos ⟨hpp, by omega⟩, show (pv v p 1).toNat = k by omega, ← hq (by omega)]; first | rw [cif_pos (by omega)] | rw [cif_neg (by omega)], by rw [ht9]; exact hP, by rw [hAe]; exact hD⟩⟩, by rw [hAe]; exact hS.F ht9⟩) (by rw [hAe]; exact hS.2.2) dX6_best_131
              · refine lv_iload hx hb dX6_best_124 (lv_at hl 4 rfl) ?_
                refine lv_goto (tgt := 131) hx hb dX6_best_126 (by decide) ?_
                subst hQ
                exact W.iret hx hb hr (fun t9 ht9 hW9 => ⟨⟨_, _, rfl, rfl, ⟨Z0, Z1, Z2, Z3, Z4, Z5, Z6, Z7, Z8, Z9, Z10, Z11, Z12, Z13, by rw [aBest, cif_pos ⟨hpp, by omega⟩, show (pv v p 1).toNat = k by omega, ← hq (by omega)]; first | rw [cif_pos (by omega)] | rw [cif_neg (by omega)], by rw [ht9]; exact hP, by rw [hAe]; exact hD⟩⟩, by rw [hAe]; exact hS.F ht9⟩) (by rw [hAe]; exact hS.2.2) dX6_best_131
            · have hXI := XI.inS hX0 (fun q z => hM q (Mw_xW q z)) hAe hS
              have hvV := vL_off hvL hpp (x := (k : Int)) (by omega)
              refine lv_aload_n hx hb dX6_best_48 rfl (lv_at hl 0 rfl) ?_
              refine va_get (D := D) (ci := 5) (v := .ref (ad 7)) (C := RX6) (T := TX6) (N := 6) hx hb ht inTB_X6 hown hK hP 0 rfl rfl 3 (by decide) (ht _ tb_202) (fun _ h9 => h9) rfl dX6_best_49 ?_
              refine lv_aload_n hx hb dX6_best_52 rfl (lv_at hl 0 rfl) ?_
              refine va_get (D := D) (ci := 5) (v := .ref pl) (C := RX6) (T := TX6) (N := 6) hx hb ht inTB_X6 hown hK hP 0 rfl rfl 5 (by decide) (ht _ tb_204) (fun _ h9 => h9) rfl dX6_best_53 ?_
              refine lv_iload_n hx hb dX6_best_56 rfl (lv_at hl 1 rfl) ?_
              refine lv_iload hx hb dX6_best_57 (lv_at hl 8 rfl) ?_
              have hFc := va_free (wc := (sW cs ad Z0 Z1 Z2 Z3 Z4 Z5 Z6 Z7 Z8 Z9 Z10 Z11 Z12 Z13)) hD hS hA [7, 8, 9, 10, 11, 12, 13] rfl
              have hPc := hP.sub (ws' := (sW cs ad Z0 Z1 Z2 Z3 Z4 Z5 Z6 Z7 Z8 Z9 Z10 Z11 Z12 Z13)) [7, 8, 9, 10, 11, 12, 13] rfl
              have hDc := hD.sub (ws' := (sW cs ad Z0 Z1 Z2 Z3 Z4 Z5 Z6 Z7 Z8 Z9 Z10 Z11 Z12 Z13)) [7, 8, 9, 10, 11, 12, 13] (by decide) rfl
              refine va_callv (va_runV (As := [.ref pl, .int (iI p), .int (iI (k : Int))]) (rest := []) ⟨hx, hb, hml, hown, hts⟩ (c_X5_cutAllMoved l D cs ad H.size Z0 Z1 Z2 Z3 Z4 Z5 Z6 Z7 Z8 Z9 Z10 Z11 Z12 Z13 M pl v p (k : Int) (offV v p (k : Int)) (fun q z => hM q (z.mono (by decide) (by decide))) (by omega) hvV (fun j hj => offV_ne (by omega)) (fun q _ => offV_3 hpp.1 q)) (cwV 3 hts (gV tb_563 tb_510 tb_511 tb_4 tb_512) rfl rfl rfl (by decide +kernel) ⟨Nat.le_of_ble_eq_true rfl, Nat.le_of_ble_eq_true rfl⟩) (preV_M (X := fun U H => PlanAt D cs M H pl v) Stb_H hK (va_recv hK hPc (ci := 4) (q0 := 0) rfl rfl) hPc hDc hXI.1.2.1) rfl rfl hl.1 rfl (lv_room (Nat.le_of_ble_eq_true rfl)) dX6_best_59 ⟨Nat.le_of_ble_eq_true rfl, Nat.le_of_ble_eq_true rfl⟩) hS (fun q _ h => hFc q h) hFc (fun u9 t9 H9 locs ht9 hvm9 hw9 hB9 hz9 hk9 hS => ?_)
              obtain ⟨swl2_59, sun2_59, sbo2_59, scw2_59, bo2_59, cu2_59, lo2_59, wh2_59, dps2_59, alk2_59, bof2_59, us2_59, bl2_59, lg2_59, hf59_0, hP1, hD1⟩ := hB9
              rw [ht9] at hP1
              obtain ⟨hPj, hDj⟩ := va_join (wr := [_, _, _, _, _, _, _]) hP hD [7, 8, 9, 10, 11, 12, 13] [0, 1, 2, 3, 4, 5, 6] rfl rfl (by decide) (by decide) hk9 hFc hP1 hD1
              generalize H9 = H at *
              have hP : va_P D classes (xW cs ad len pl rlen rpc run_ rbo rcw rt tx gp nu kept gq swl2_59 sun2_59 sbo2_59 scw2_59 bo2_59 cu2_59 lo2_59 wh2_59 dps2_59 alk2_59 bof2_59 us2_59 bl2_59 lg2_59) H := hPj.sub [0, 1, 2, 3, 4, 5, 6, 7, 8, 9, 10, 11, 12, 13] rfl
              have hD : va_D A (xW cs ad len pl rlen rpc run_ rbo rcw rt tx gp nu kept gq swl2_59 sun2_59 sbo2_59 scw2_59 bo2_59 cu2_59 lo2_59 wh2_59 dps2_59 alk2_59 bof2_59 us2_59 bl2_59 lg2_59) := hDj.sub [0, 1, 2, 3, 4, 5, 6, 7, 8, 9, 10, 11, 12, 13] (by decide) rfl
              obtain ⟨_, hs1, hs2, hs3, hs4, hs5, hs6, hs7, hs8, hs9, hs10⟩ := id hf59_0
              obtain ⟨⟨q0, q1, q2, q3, q4⟩, q5⟩ := fC_ok hvV
              have hl160 := lo_160 (offV v p (k : Int))
              have hlb := leftS_bd hvV
              have hqq := fun z => bst_bd hvL hpp k z
              refine lv_iload hx hb dX6_best_62 (lv_at hl 8 rfl) ?_
              refine rv_if_eq (tgt := 83) hx hb dX6_best_64 (by decide) (by omega) (fun h64 => ?_) (fun h64 => ?_)
              · refine lv_iload hx hb dX6_best_83 (lv_at hl 8 rfl) ?_
                refine lv_istore (lv' := [(4, .int (iI (k : Int))), (0, .ref (ad 0)), (1, .int (iI p)), (2, .int (iI what)), (3, .ref y5), (5, .int (iI a2)), (6, .int (iI a3)), (7, .int (iI a4)), (8, .int (iI (k : Int)))]) hx hb dX6_best_85 hl (by decide) rfl (fun ls hl => ?_)
                refine lv_aload_n hx hb dX6_best_87 rfl (lv_at hl 1 rfl) ?_
                refine va_get (D := D) (ci := 5) (v := .ref (ad 7)) (C := RX6) (T := TX6) (N := 6) hx hb ht inTB_X6 hown hK hP 0 rfl rfl 3 (by decide) (ht _ tb_202) (fun _ h9 => h9) rfl dX6_best_88 ?_
                refine va_get (D := D) (ci := 4) (v := .int (iI lo2_59)) (C := RX5) (T := TX5) (N := 14) hx hb ht inTB_X5 hown hK hP 7 rfl rfl 12 (by decide) (ht _ tb_94) (fun _ h9 => h9) rfl dX6_best_91 ?_
                refine lv_istore (lv' := [(5, .int (iI lo2_59)), (4, .int (iI (k : Int))), (0, .ref (ad 0)), (1, .int (iI p)), (2, .int (iI what)), (3, .ref y5), (6, .int (iI a3)), (7, .int (iI a4)), (8, .int (iI (k : Int)))]) hx hb dX6_best_94 hl (by decide) rfl (fun ls hl => ?_)
                refine lv_aload_n hx hb dX6_best_96 rfl (lv_at hl 2 rfl) ?_
                refine va_get (D := D) (ci := 5) (v := .ref (ad 7)) (C := RX6) (T := TX6) (N := 6) hx hb ht inTB_X6 hown hK hP 0 rfl rfl 3 (by decide) (ht _ tb_202) (fun _ h9 => h9) rfl dX6_best_97 ?_
                refine va_get (D := D) (ci := 4) (v := .int (iI bo2_59)) (C := RX5) (T := TX5) (N := 14) hx hb ht inTB_X5 hown hK hP 7 rfl rfl 10 (by decide) (ht _ tb_90) (fun _ h9 => h9) rfl dX6_best_100 ?_
                refine lv_istore (lv' := [(6, .int (iI bo2_59)), (5, .int (iI lo2_59)), (4, .int (iI (k : Int))), (0, .ref (ad 0)), (1, .int (iI p)), (2, .int (iI what)), (3, .ref y5), (7, .int (iI a4)), (8, .int (iI (k : Int)))]) hx hb dX6_best_103 hl (by decide) rfl (fun ls hl => ?_)
                refine lv_aload_n hx hb dX6_best_105 rfl (lv_at hl 3 rfl) ?_
                refine va_get (D := D) (ci := 5) (v := .ref (ad 7)) (C := RX6) (T := TX6) (N := 6) hx hb ht inTB_X6 hown hK hP 0 rfl rfl 3 (by decide) (ht _ tb_202) (fun _ h9 => h9) rfl dX6_best_106 ?_
                refine vp_callSi (W.runV (As := []) (rest := []) ⟨hx, hb, hml, hown, hts⟩ (c_X5_leftOfLast l D cs ad swl2_59 sun2_59 sbo2_59 scw2_59 bo2_59 cu2_59 lo2_59 wh2_59 dps2_59 alk2_59 bof2_59 us2_59 bl2_59 lg2_59 (offV v p (k : Int)) hf59_0) (cwV 0 hts (gV tb_573 tb_569 tb_570 tb_4 tb_571) rfl rfl rfl (by decide +kernel) ⟨Nat.le_of_ble_eq_true rfl, Nat.le_of_ble_eq_true rfl⟩) (preV_sw hK (hP.sub [7, 8, 9, 10, 11, 12, 13] rfl)) rfl rfl hl.1 rfl (lv_room (Nat.le_of_ble_eq_true rfl)) dX6_best_109 ⟨Nat.le_of_ble_eq_true rfl, Nat.le_of_ble_eq_true rfl⟩) (fun r9 hr9 => ?_)
                obtain ⟨rfl, hx109_0⟩ := hr9
                refine lv_istore (lv' := [(7, .int (iI (leftS (offV v p (k : Int))))), (6, .int (iI bo2_59)), (5, .int (iI lo2_59)), (4, .int (iI (k : Int))), (0, .ref (ad 0)), (1, .int (iI p)), (2, .int (iI what)), (3, .ref y5), (8, .int (iI (k : Int)))]) hx hb dX6_best_112 hl (by decide) rfl (fun ls hl => ?_)
                refine rv_iinc (k := 8) (lv' := [(8, .int (iI ((k : Int) + 1))), (7, .int (iI (leftS (offV v p (k : Int))))), (6, .int (iI bo2_59)), (5, .int (iI lo2_59)), (4, .int (iI (k : Int))), (0, .ref (ad 0)), (1, .int (iI p)), (2, .int (iI what)), (3, .ref y5)]) hx hb dX6_best_114 hl rfl (by decide) rfl (fun ls hl => ?_)
                refine lv_goto (tgt := 39) hx hb dX6_best_117 (by decide) ?_
                have hbs : ((k : Int), lo2_59, bo2_59, leftS (offV v p (k : Int))) = bst v p (k + 1) := by have hk0 : k = 0 := (by omega); subst hk0; rw [hs7, hs4]; exact bst_1.symm
                exact ih39 (k + 1) (k : Int) lo2_59 bo2_59 (leftS (offV v p (k : Int))) swl2_59 sun2_59 sbo2_59 scw2_59 bo2_59 cu2_59 lo2_59 wh2_59 dps2_59 alk2_59 bof2_59 us2_59 bl2_59 lg2_59 (by omega) (by omega) (fun _ => hbs) (by omega) _ (by omega) H locs hP hD hS ls (lv_sub hl [5, 6, 7, 8, 4, 3, 2, 1, 0] rfl)
              · refine lv_aload_n hx hb dX6_best_67 rfl (lv_at hl 0 rfl) ?_
                refine va_get (D := D) (ci := 5) (v := .ref (ad 7)) (C := RX6) (T := TX6) (N := 6) hx hb ht inTB_X6 hown hK hP 0 rfl rfl 3 (by decide) (ht _ tb_202) (fun _ h9 => h9) rfl dX6_best_68 ?_
                refine lv_iload hx hb dX6_best_71 (lv_at hl 5 rfl) ?_
                refine lv_iload hx hb dX6_best_73 (lv_at hl 6 rfl) ?_
                refine lv_iload hx hb dX6_best_75 (lv_at hl 7 rfl) ?_
                refine vp_callSi (W.runV (As := [.int (iI a2), .int (iI a3), .int (iI a4)]) (rest := []) ⟨hx, hb, hml, hown, hts⟩ (c_X5_isBetterThan l D cs ad swl2_59 sun2_59 sbo2_59 scw2_59 bo2_59 cu2_59 lo2_59 wh2_59 dps2_59 alk2_59 bof2_59 us2_59 bl2_59 lg2_59 (offV v p (k : Int)) a2 a3 a4 hf59_0 (by omega) (by omega) (by omega)) (cwV 3 hts (gV tb_564 tb_565 tb_566 tb_4 tb_567) rfl rfl rfl (by decide +kernel) ⟨Nat.le_of_ble_eq_true rfl, Nat.le_of_ble_eq_true rfl⟩) (preV_sw hK (hP.sub [7, 8, 9, 10, 11, 12, 13] rfl)) rfl rfl hl.1 rfl (lv_room (Nat.le_of_ble_eq_true rfl)) dX6_best_77 ⟨Nat.le_of_ble_eq_true rfl, Nat.le_of_ble_eq_true rfl⟩) (fun r9 hr9 => ?_)
                rcases hr9 with ⟨rfl, hb77⟩ | ⟨rfl, hb77⟩
                · refine rv_if_eq (tgt := 114) hx hb dX6_best_80 (by decide) (by decide) (fun q => absurd q (by decide)) (fun _ => ?_)
                  refine lv_iload hx hb dX6_best_83 (lv_at hl 8 rfl) ?_
                  refine lv_istore (lv' := [(4, .int (iI (k : Int))), (0, .ref (ad 0)), (1, .int (iI p)), (2, .int (iI what)), (3, .ref y5), (5, .int (iI a2)), (6, .int (iI a3)), (7, .int (iI a4)), (8, .int (iI (k : Int)))]) hx hb dX6_best_85 hl (by decide) rfl (fun ls hl => ?_)
                  refine lv_aload_n hx hb dX6_best_87 rfl (lv_at hl 1 rfl) ?_
                  refine va_get (D := D) (ci := 5) (v := .ref (ad 7)) (C := RX6) (T := TX6) (N := 6) hx hb ht inTB_X6 hown hK hP 0 rfl rfl 3 (by decide) (ht _ tb_202) (fun _ h9 => h9) rfl dX6_best_88 ?_
                  refine va_get (D := D) (ci := 4) (v := .int (iI lo2_59)) (C := RX5) (T := TX5) (N := 14) hx hb ht inTB_X5 hown hK hP 7 rfl rfl 12 (by decide) (ht _ tb_94) (fun _ h9 => h9) rfl dX6_best_91 ?_
                  refine lv_istore (lv' := [(5, .int (iI lo2_59)), (4, .int (iI (k : Int))), (0, .ref (ad 0)), (1, .int (iI p)), (2, .int (iI what)), (3, .ref y5), (6, .int (iI a3)), (7, .int (iI a4)), (8, .int (iI (k : Int)))]) hx hb dX6_best_94 hl (by decide) rfl (fun ls hl => ?_)
                  refine lv_aload_n hx hb dX6_best_96 rfl (lv_at hl 2 rfl) ?_
                  refine va_get (D := D) (ci := 5) (v := .ref (ad 7)) (C := RX6) (T := TX6) (N := 6) hx hb ht inTB_X6 hown hK hP 0 rfl rfl 3 (by decide) (ht _ tb_202) (fun _ h9 => h9) rfl dX6_best_97 ?_
                  refine va_get (D := D) (ci := 4) (v := .int (iI bo2_59)) (C := RX5) (T := TX5) (N := 14) hx hb ht inTB_X5 hown hK hP 7 rfl rfl 10 (by decide) (ht _ tb_90) (fun _ h9 => h9) rfl dX6_best_100 ?_
                  refine lv_istore (lv' := [(6, .int (iI bo2_59)), (5, .int (iI lo2_59)), (4, .int (iI (k : Int))), (0, .ref (ad 0)), (1, .int (iI p)), (2, .int (iI what)), (3, .ref y5), (7, .int (iI a4)), (8, .int (iI (k : Int)))]) hx hb dX6_best_103 hl (by decide) rfl (fun ls hl => ?_)
                  refine lv_aload_n hx hb dX6_best_105 rfl (lv_at hl 3 rfl) ?_
                  refine va_get (D := D) (ci := 5) (v := .ref (ad 7)) (C := RX6) (T := TX6) (N := 6) hx hb ht inTB_X6 hown hK hP 0 rfl rfl 3 (by decide) (ht _ tb_202) (fun _ h9 => h9) rfl dX6_best_106 ?_
                  refine vp_callSi (W.runV (As := []) (rest := []) ⟨hx, hb, hml, hown, hts⟩ (c_X5_leftOfLast l D cs ad swl2_59 sun2_59 sbo2_59 scw2_59 bo2_59 cu2_59 lo2_59 wh2_59 dps2_59 alk2_59 bof2_59 us2_59 bl2_59 lg2_59 (offV v p (k : Int)) hf59_0) (cwV 0 hts (gV tb_573 tb_569 tb_570 tb_4 tb_571) rfl rfl rfl (by decide +kernel) ⟨Nat.le_of_ble_eq_true rfl, Nat.le_of_ble_eq_true rfl⟩) (preV_sw hK (hP.sub [7, 8, 9, 10, 11, 12, 13] rfl)) rfl rfl hl.1 rfl (lv_room (Nat.le_of_ble_eq_true rfl)) dX6_best_109 ⟨Nat.le_of_ble_eq_true rfl, Nat.le_of_ble_eq_true rfl⟩) (fun r9 hr9 => ?_)
                  obtain ⟨rfl, hx109_0⟩ := hr9
                  refine lv_istore (lv' := [(7, .int (iI (leftS (offV v p (k : Int))))), (6, .int (iI bo2_59)), (5, .int (iI lo2_59)), (4, .int (iI (k : Int))), (0, .ref (ad 0)), (1, .int (iI p)), (2, .int (iI what)), (3, .ref y5), (8, .int (iI (k : Int)))]) hx hb dX6_best_112 hl (by decide) rfl (fun ls hl => ?_)
                  refine rv_iinc (k := 8) (lv' := [(8, .int (iI ((k : Int) + 1))), (7, .int (iI (leftS (offV v p (k : Int))))), (6, .int (iI bo2_59)), (5, .int (iI lo2_59)), (4, .int (iI (k : Int))), (0, .ref (ad 0)), (1, .int (iI p)), (2, .int (iI what)), (3, .ref y5)]) hx hb dX6_best_114 hl rfl (by decide) rfl (fun ls hl => ?_)
                  refine lv_goto (tgt := 39) hx hb dX6_best_117 (by decide) ?_
                  have hbs : ((k : Int), lo2_59, bo2_59, leftS (offV v p (k : Int))) = bst v p (k + 1) := by rw [hs7, hs4, bst, ← hq (by omega)]; exact (cF_pos hb77).symm
                  exact ih39 (k + 1) (k : Int) lo2_59 bo2_59 (leftS (offV v p (k : Int))) swl2_59 sun2_59 sbo2_59 scw2_59 bo2_59 cu2_59 lo2_59 wh2_59 dps2_59 alk2_59 bof2_59 us2_59 bl2_59 lg2_59 (by omega) (by omega) (fun _ => hbs) (by omega) _ (by omega) H locs hP hD hS ls (lv_sub hl [5, 6, 7, 8, 4, 3, 2, 1, 0] rfl)
                · refine rv_if_eq (tgt := 114) hx hb dX6_best_80 (by decide) (by decide) (fun _ => ?_) (fun q => absurd q (by decide))
                  refine rv_iinc (k := 8) (lv' := [(8, .int (iI ((k : Int) + 1))), (0, .ref (ad 0)), (1, .int (iI p)), (2, .int (iI what)), (3, .ref y5), (4, .int (iI a1)), (5, .int (iI a2)), (6, .int (iI a3)), (7, .int (iI a4))]) hx hb dX6_best_114 hl rfl (by decide) rfl (fun ls hl => ?_)
                  refine lv_goto (tgt := 39) hx hb dX6_best_117 (by decide) ?_
                  have hbs : (a1, a2, a3, a4) = bst v p (k + 1) := by rw [bst, ← hq (by omega)]; exact (cF_neg hb77).symm
                  exact ih39 (k + 1) a1 a2 a3 a4 swl2_59 sun2_59 sbo2_59 scw2_59 bo2_59 cu2_59 lo2_59 wh2_59 dps2_59 alk2_59 bof2_59 us2_59 bl2_59 lg2_59 (by omega) (by omega) (fun _ => hbs) (by omega) _ (by omega) H locs hP hD hS ls (lv_sub hl [1, 2, 3, 4, 5, 6, 7, 8, 0] rfl)
        exact loop39 (_ + 1) 0 0 0 0 0 swl sun sbo scw bo cu lo wh dps alk bof us bl lg (by omega) (by omega) (fun h => absurd h (by omega)) (Nat.lt_succ_self _) _ rfl H locs hP hD hS ls (lv_sub hl [6, 7, 8, 5, 4, 3, 2, 1, 0] rfl)
      · refine rv_iconst hx hb dX6_best_22 ?_
        subst hQ
        exact W.iret hx hb hr (fun t9 ht9 hW9 => ⟨⟨_, _, rfl, rfl, ⟨swl, sun, sbo, scw, bo, cu, lo, wh, dps, alk, bof, us, bl, lg, by rw [aBest, cif_neg (fun q => by have := q.1; have := q.2; omega)], by rw [ht9]; exact hP, by rw [hAe]; exact hD⟩⟩, by rw [hAe]; exact hS.F ht9⟩) (by rw [hAe]; exact hS.2.2) dX6_best_23
  · rw [cF_neg hq5]
    refine W.eq (g2 := F0 m 8 ls [.null]) rfl ?_
    refine lv_astore_nN (lv' := [(3, .null), (0, .ref (ad 0)), (1, .int (iI p)), (2, .int (iI what))]) hx hb dX6_best_8 rfl hl (by decide) rfl (fun ls hl => ?_)
    refine lv_aload_nN hx hb dX6_best_9 rfl (lv_at hl 0 rfl) ?_
    refine lv_ifnullN (tgt := 22) hx hb dX6_best_10 (by decide) ?_
    refine rv_iconst hx hb dX6_best_22 ?_
    subst hQ
    exact W.iret hx hb hr (fun t9 ht9 hW9 => ⟨⟨_, _, rfl, rfl, ⟨swl, sun, sbo, scw, bo, cu, lo, wh, dps, alk, bof, us, bl, lg, by rw [aBest, cif_neg (fun q => by have := q.1; have := q.2; omega)], by rw [ht9]; exact hP, by rw [hAe]; exact hD⟩⟩, by rw [hAe]; exact hS.F ht9⟩) (by rw [hAe]; exact hS.2.2) dX6_best_23

