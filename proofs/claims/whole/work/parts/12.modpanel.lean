/-! the model: its panels -/

abbrev rm_X7_byteAt : Room := { frames := 0, cells := 0, slots := 0, locals := 0 }
set_option maxHeartbeats 4000000 in
set_option maxRecDepth 100000 in
/-- byteAt -/
theorem c_X7_byteAt (l : Launch) (D : va_G) (cs : Nat → ClassId) (o : Nat) (t : Nat) (fs : List Value) (len : Int) (tx : Nat → Int) (i : Int) (hi : 0 ≤ i ∧ i < 1000) : Met l yX7_byteAt (Cond.code yX7_byteAt cX7_byteAt 2 (some .int) :: TB) rm_X7_byteAt (va_Pc [.ref o, .int (iI i)] (fun U => KA D cs U ∧ ModT D cs U.heap o t fs len tx)) (vp_Si (fun r => r = iI (bt tx len i))) 0 0 (fun _ => False) := by
  refine enter (cc := cX7_byteAt) (maxL := 2) (ret := (some .int)) (by decide) (Nat.le_of_ble_eq_true rfl) ?_
  intro pg ev s m below meth c Q ls hx hb hml hown hts hr hlocks hnm ⟨hK, hmodT⟩ hl hQ
  have ht : ∀ w ∈ TB, w.before _ s = true := fun w h => hts w (List.mem_cons_of_mem _ h)
  have hl : lv_has ls 2 [(0, .ref o), (1, .int (iI i))] := hl
  obtain ⟨hPt, hf0, hf1, hlen⟩ := hmodT
  refine lv_iload_n hx hb dX7_byteAt_0 rfl (lv_at hl 1 rfl) ?_
  refine lv_aload_n hx hb dX7_byteAt_1 rfl (lv_at hl 0 rfl) ?_
  refine va_get (D := D) (ci := 6) (v := .int (iI len)) (C := RX7) (T := TX7) (N := 16) hx hb ht inTB_X7 hown hK hPt 0 rfl rfl 0 (by decide) (ht _ tb_588) (fun _ h9 => h9) hf0 dX7_byteAt_2 ?_
  refine rv_icmp_ge (tgt := 17) hx hb dX7_byteAt_5 (by decide) (by omega) (fun h5 => ?_) (fun h5 => ?_)
  · refine rv_iconst hx hb dX7_byteAt_17 ?_
    subst hQ
    exact W.iret hx hb hr (fun t9 ht9 hW9 => ⟨_, rfl, by rw [bt, cif_neg (by omega)], ht9⟩) (fun _ h => absurd h List.not_mem_nil) dX7_byteAt_18
  · refine lv_aload_n hx hb dX7_byteAt_8 rfl (lv_at hl 0 rfl) ?_
    refine va_get (D := D) (ci := 6) (v := .ref t) (C := RX7) (T := TX7) (N := 16) hx hb ht inTB_X7 hown hK hPt 0 rfl rfl 1 (by decide) (ht _ tb_589) (fun _ h9 => h9) hf1 dX7_byteAt_9 ?_
    refine lv_iload_n hx hb dX7_byteAt_12 rfl (lv_at hl 1 rfl) ?_
    refine rv_iald hx hb hK hPt 1 0 rfl rfl (Int.toNat i) (by omega) (by omega) dX7_byteAt_13 ?_
    refine lv_goto (tgt := 18) hx hb dX7_byteAt_14 (by decide) ?_
    subst hQ
    exact W.iret hx hb hr (fun t9 ht9 hW9 => ⟨_, rfl, by rw [bt, cif_pos (by omega)], ht9⟩) (fun _ h => absurd h List.not_mem_nil) dX7_byteAt_18

abbrev rm_X7_mayBe : Room := { frames := 2, cells := 0, slots := 0, locals := 48 }
set_option maxHeartbeats 4000000 in
set_option maxRecDepth 100000 in
/-- mayBe -/
theorem c_X7_mayBe (l : Launch) (k : Int) (n : Int) (f : Int) (hk : 0 ≤ k ∧ k ≤ 2) (hn : isPr n) (hf : -2147483648 ≤ f ∧ f < 2147483648) : Met l yX7_mayBe (Cond.code yX7_mayBe cX7_mayBe 3 (some .boolean) :: TB) rm_X7_mayBe (va_Pc [.int (iI k), .int (iI n), .int (iI f)] (fun _ => True)) (vp_Si (fun r => (r = iI 1 ∧ (fOK k n f)) ∨ (r = iI 0 ∧ ¬ (fOK k n f)))) 0 0 (fun _ => False) := by
  refine enter (cc := cX7_mayBe) (maxL := 3) (ret := (some .boolean)) (by decide) (Nat.le_of_ble_eq_true rfl) ?_
  intro pg ev s m below meth c Q ls hx hb hml hown hts hr hlocks hnm _ hl hQ
  have ht : ∀ w ∈ TB, w.before _ s = true := fun w h => hts w (List.mem_cons_of_mem _ h)
  have hl : lv_has ls 3 [(0, .int (iI k)), (1, .int (iI n)), (2, .int (iI f))] := hl
  have hnb := isPr_bd hn
  refine lv_iload_n hx hb dX7_mayBe_0 rfl (lv_at hl 0 rfl) ?_
  refine rv_if_ne (tgt := 17) hx hb dX7_mayBe_1 (by decide) (by omega) (fun h1 => ?_) (fun h1 => ?_)
  · refine lv_iload_n hx hb dX7_mayBe_17 rfl (lv_at hl 0 rfl) ?_
    refine rv_iconst hx hb dX7_mayBe_18 ?_
    refine rv_icmp_ne (tgt := 30) hx hb dX7_mayBe_19 (by decide) (by omega) (fun h19 => ?_) (fun h19 => ?_)
    · refine lv_iload_n hx hb dX7_mayBe_30 rfl (lv_at hl 2 rfl) ?_
      refine rv_i2l hx hb dX7_mayBe_31 (by omega) ?_
      refine rv_lconst (z := 1) hx hb dX7_mayBe_32 (by decide) ?_
      refine lv_ldc2 (v := lI 9) hx hb hown (ht _ tb_702) dX7_mayBe_33 ?_
      refine vp_callSi (W.runS (As := [.long (lI f), .long (lI 1), .long (lI 9)]) (rest := []) ⟨hx, hb, hml, hown, hts⟩ (c_X7_in l f 1 9 (by omega) (by omega) (by omega)) (va_cwS 3 hts (gS tb_649 tb_650 tb_8 tb_651) rfl rfl rfl (by decide +kernel) ⟨Nat.le_of_ble_eq_true rfl, Nat.le_of_ble_eq_true rfl⟩) preS0 rfl rfl hl.1 rfl (lv_room (Nat.le_of_ble_eq_true rfl)) dX7_mayBe_36 ⟨Nat.le_of_ble_eq_true rfl, Nat.le_of_ble_eq_true rfl⟩) (fun r9 hr9 => ?_)
      rcases hr9 with ⟨rfl, hb36⟩ | ⟨rfl, hb36⟩
      · subst hQ
        exact W.zret (ty := .boolean) hx hb hr (by decide) (fun t9 ht9 hW9 => ⟨_, rfl, Or.inl ⟨rfl, (by first | exact ⟨fun _ => by omega, fun q => by omega, fun q => by omega⟩ | exact ⟨fun q => by omega, fun _ => hb24, fun q => by omega⟩ | exact ⟨fun q => by omega, fun q => by omega, fun _ => by omega⟩)⟩, ht9⟩) (fun _ h => absurd h List.not_mem_nil) dX7_mayBe_39
      · subst hQ
        exact W.zret (ty := .boolean) hx hb hr (by decide) (fun t9 ht9 hW9 => ⟨_, rfl, Or.inr ⟨rfl, fun q => (by first | (have := q.1 (by omega); omega) | exact hb24 (q.2.1 (by omega)) | (have := q.2.2 (by omega); omega))⟩, ht9⟩) (fun _ h => absurd h List.not_mem_nil) dX7_mayBe_39
    · refine lv_iload_n hx hb dX7_mayBe_22 rfl (lv_at hl 2 rfl) ?_
      refine lv_iload_n hx hb dX7_mayBe_23 rfl (lv_at hl 1 rfl) ?_
      refine vp_callSi (W.runS (As := [.int (iI f), .int (iI n)]) (rest := []) ⟨hx, hb, hml, hown, hts⟩ (c_X7_isRoot l f n (by omega) hn) (va_cwS 2 hts (gS tb_659 tb_660 tb_8 tb_661) rfl rfl rfl (by decide +kernel) ⟨Nat.le_of_ble_eq_true rfl, Nat.le_of_ble_eq_true rfl⟩) preS0 rfl rfl hl.1 rfl (lv_room (Nat.le_of_ble_eq_true rfl)) dX7_mayBe_24 ⟨Nat.le_of_ble_eq_true rfl, Nat.le_of_ble_eq_true rfl⟩) (fun r9 hr9 => ?_)
      rcases hr9 with ⟨rfl, hb24⟩ | ⟨rfl, hb24⟩
      · refine lv_goto (tgt := 39) hx hb dX7_mayBe_27 (by decide) ?_
        subst hQ
        exact W.zret (ty := .boolean) hx hb hr (by decide) (fun t9 ht9 hW9 => ⟨_, rfl, Or.inl ⟨rfl, (by first | exact ⟨fun _ => by omega, fun q => by omega, fun q => by omega⟩ | exact ⟨fun q => by omega, fun _ => hb24, fun q => by omega⟩ | exact ⟨fun q => by omega, fun q => by omega, fun _ => by omega⟩)⟩, ht9⟩) (fun _ h => absurd h List.not_mem_nil) dX7_mayBe_39
      · refine lv_goto (tgt := 39) hx hb dX7_mayBe_27 (by decide) ?_
        subst hQ
        exact W.zret (ty := .boolean) hx hb hr (by decide) (fun t9 ht9 hW9 => ⟨_, rfl, Or.inr ⟨rfl, fun q => (by first | (have := q.1 (by omega); omega) | exact hb24 (q.2.1 (by omega)) | (have := q.2.2 (by omega); omega))⟩, ht9⟩) (fun _ h => absurd h List.not_mem_nil) dX7_mayBe_39
  · refine lv_iload_n hx hb dX7_mayBe_4 rfl (lv_at hl 2 rfl) ?_
    refine rv_i2l hx hb dX7_mayBe_5 (by omega) ?_
    refine rv_lconst (z := 1) hx hb dX7_mayBe_6 (by decide) ?_
    refine lv_iload_n hx hb dX7_mayBe_7 rfl (lv_at hl 1 rfl) ?_
    refine rv_iconst hx hb dX7_mayBe_8 ?_
    refine rv_isub hx hb dX7_mayBe_9 ?_
    refine rv_i2l hx hb dX7_mayBe_10 (by omega) ?_
    refine vp_callSi (W.runS (As := [.long (lI f), .long (lI 1), .long (lI (n - 1))]) (rest := []) ⟨hx, hb, hml, hown, hts⟩ (c_X7_in l f 1 (n - 1) (by omega) (by omega) (by omega)) (va_cwS 3 hts (gS tb_649 tb_650 tb_8 tb_651) rfl rfl rfl (by decide +kernel) ⟨Nat.le_of_ble_eq_true rfl, Nat.le_of_ble_eq_true rfl⟩) preS0 rfl rfl hl.1 rfl (lv_room (Nat.le_of_ble_eq_true rfl)) dX7_mayBe_11 ⟨Nat.le_of_ble_eq_true rfl, Nat.le_of_ble_eq_true rfl⟩) (fun r9 hr9 => ?_)
    rcases hr9 with ⟨rfl, hb11⟩ | ⟨rfl, hb11⟩
    · refine lv_goto (tgt := 39) hx hb dX7_mayBe_14 (by decide) ?_
      subst hQ
      exact W.zret (ty := .boolean) hx hb hr (by decide) (fun t9 ht9 hW9 => ⟨_, rfl, Or.inl ⟨rfl, (by first | exact ⟨fun _ => by omega, fun q => by omega, fun q => by omega⟩ | exact ⟨fun q => by omega, fun _ => hb24, fun q => by omega⟩ | exact ⟨fun q => by omega, fun q => by omega, fun _ => by omega⟩)⟩, ht9⟩) (fun _ h => absurd h List.not_mem_nil) dX7_mayBe_39
    · refine lv_goto (tgt := 39) hx hb dX7_mayBe_14 (by decide) ?_
      subst hQ
      exact W.zret (ty := .boolean) hx hb hr (by decide) (fun t9 ht9 hW9 => ⟨_, rfl, Or.inr ⟨rfl, fun q => (by first | (have := q.1 (by omega); omega) | exact hb24 (q.2.1 (by omega)) | (have := q.2.2 (by omega); omega))⟩, ht9⟩) (fun _ h => absurd h List.not_mem_nil) dX7_mayBe_39

abbrev rm_X7_isPanel : Room := { frames := 1, cells := 0, slots := 0, locals := 25 }
set_option maxHeartbeats 4000000 in
set_option maxRecDepth 100000 in
/-- isPanel -/
theorem c_X7_isPanel (l : Launch) (D : va_G) (cs : Nat → ClassId) (o : Nat) (b : Nat) (fs : List Value) (v : Nat → Int) (p : Int) (hp : -2147483648 ≤ p ∧ p < 2147483648) : Met l yX7_isPanel (Cond.code yX7_isPanel cX7_isPanel 2 (some .boolean) :: TB) rm_X7_isPanel (va_Pc [.ref o, .int (iI p)] (fun U => KA D cs U ∧ ModAt D cs U.heap o b fs v)) (vp_Si (fun r => (r = iI 1 ∧ (0 ≤ p ∧ p < v 20)) ∨ (r = iI 0 ∧ ¬ (0 ≤ p ∧ p < v 20)))) 0 0 (fun _ => False) := by
  refine enter (cc := cX7_isPanel) (maxL := 2) (ret := (some .boolean)) (by decide) (Nat.le_of_ble_eq_true rfl) ?_
  intro pg ev s m below meth c Q ls hx hb hml hown hts hr hlocks hnm ⟨hK, hmod⟩ hl hQ
  have ht : ∀ w ∈ TB, w.before _ s = true := fun w h => hts w (List.mem_cons_of_mem _ h)
  have hl : lv_has ls 2 [(0, .ref o), (1, .int (iI p))] := hl
  obtain ⟨hPm, hf3, hvL⟩ := id hmod
  obtain ⟨hv20, hv21, hv22, hv23, hvp⟩ := id hvL
  refine lv_iload_n hx hb dX7_isPanel_0 rfl (lv_at hl 1 rfl) ?_
  refine rv_i2l hx hb dX7_isPanel_1 (by omega) ?_
  refine rv_lconst (z := 0) hx hb dX7_isPanel_2 (by decide) ?_
  refine lv_aload_n hx hb dX7_isPanel_3 rfl (lv_at hl 0 rfl) ?_
  refine va_get (D := D) (ci := 6) (v := .ref b) (C := RX7) (T := TX7) (N := 16) hx hb ht inTB_X7 hown hK hPm 0 rfl rfl 3 (by decide) (ht _ tb_591) (fun _ h9 => h9) hf3 dX7_isPanel_4 ?_
  refine rv_bipush hx hb dX7_isPanel_7 (by decide) ?_
  refine rv_iald hx hb hK hPm 1 0 rfl rfl 20 rfl (by omega) dX7_isPanel_9 ?_
  refine rv_iconst hx hb dX7_isPanel_10 ?_
  refine rv_isub hx hb dX7_isPanel_11 ?_
  refine rv_i2l hx hb dX7_isPanel_12 (by omega) ?_
  refine vp_callSi (W.runS (As := [.long (lI p), .long (lI 0), .long (lI ((v 20) - 1))]) (rest := []) ⟨hx, hb, hml, hown, hts⟩ (c_X7_in l p 0 ((v 20) - 1) (by omega) (by omega) (by omega)) (va_cwS 3 hts (gS tb_649 tb_650 tb_8 tb_651) rfl rfl rfl (by decide +kernel) ⟨Nat.le_of_ble_eq_true rfl, Nat.le_of_ble_eq_true rfl⟩) preS0 rfl rfl hl.1 rfl (lv_room (Nat.le_of_ble_eq_true rfl)) dX7_isPanel_13 ⟨Nat.le_of_ble_eq_true rfl, Nat.le_of_ble_eq_true rfl⟩) (fun r9 hr9 => ?_)
  rcases hr9 with ⟨rfl, hb13⟩ | ⟨rfl, hb13⟩
  · subst hQ
    exact W.zret (ty := .boolean) hx hb hr (by decide) (fun t9 ht9 hW9 => ⟨_, rfl, Or.inl ⟨rfl, by omega⟩, ht9⟩) (fun _ h => absurd h List.not_mem_nil) dX7_isPanel_16
  · subst hQ
    exact W.zret (ty := .boolean) hx hb hr (by decide) (fun t9 ht9 hW9 => ⟨_, rfl, Or.inr ⟨rfl, fun q => by omega⟩, ht9⟩) (fun _ h => absurd h List.not_mem_nil) dX7_isPanel_16

abbrev rm_X7_period : Room := { frames := 0, cells := 0, slots := 0, locals := 0 }
set_option maxHeartbeats 4000000 in
set_option maxRecDepth 100000 in
/-- period -/
theorem c_X7_period (l : Launch) (D : va_G) (cs : Nat → ClassId) (o : Nat) (b : Nat) (fs : List Value) (v : Nat → Int) (p : Int) (hp : 0 ≤ p ∧ p < v 20) : Met l yX7_period (Cond.code yX7_period cX7_period 2 (some .int) :: TB) rm_X7_period (va_Pc [.ref o, .int (iI p)] (fun U => KA D cs U ∧ ModAt D cs U.heap o b fs v)) (vp_Si (fun r => r = iI (per (pv v p 0) (pv v p 1)) ∧ (2 ≤ per (pv v p 0) (pv v p 1) ∧ per (pv v p 0) (pv v p 1) ≤ 31))) 0 0 (fun _ => False) := by
  refine enter (cc := cX7_period) (maxL := 2) (ret := (some .int)) (by decide) (Nat.le_of_ble_eq_true rfl) ?_
  intro pg ev s m below meth c Q ls hx hb hml hown hts hr hlocks hnm ⟨hK, hmod⟩ hl hQ
  have ht : ∀ w ∈ TB, w.before _ s = true := fun w h => hts w (List.mem_cons_of_mem _ h)
  have hl : lv_has ls 2 [(0, .ref o), (1, .int (iI p))] := hl
  obtain ⟨hPm, hf3, hvL⟩ := id hmod
  obtain ⟨hv20, hv21, hv22, hv23, hvp⟩ := id hvL
  obtain ⟨hvk, hvn, hvf, hvo, hvw⟩ := vL_p hvL hp
  have hnb := isPr_bd hvn
  have hpb := per_bd (k := pv v p 0) hvn
  have hfb := fOK_bd hvk hvn hvf
  refine lv_aload_n hx hb dX7_period_0 rfl (lv_at hl 0 rfl) ?_
  refine va_get (D := D) (ci := 6) (v := .ref b) (C := RX7) (T := TX7) (N := 16) hx hb ht inTB_X7 hown hK hPm 0 rfl rfl 3 (by decide) (ht _ tb_591) (fun _ h9 => h9) hf3 dX7_period_1 ?_
  refine rv_iconst hx hb dX7_period_4 ?_
  refine lv_iload_n hx hb dX7_period_5 rfl (lv_at hl 1 rfl) ?_
  refine rv_imul hx hb dX7_period_6 ?_
  refine rv_iald hx hb hK hPm 1 0 rfl rfl (5 * p.toNat + 0) (by omega) (by omega) dX7_period_7 ?_
  refine rv_top (y := pv v p 0) rfl ?_
  refine rv_iconst hx hb dX7_period_8 ?_
  refine rv_icmp_ne (tgt := 27) hx hb dX7_period_9 (by decide) (by omega) (fun h9 => ?_) (fun h9 => ?_)
  · refine lv_aload_n hx hb dX7_period_27 rfl (lv_at hl 0 rfl) ?_
    refine va_get (D := D) (ci := 6) (v := .ref b) (C := RX7) (T := TX7) (N := 16) hx hb ht inTB_X7 hown hK hPm 0 rfl rfl 3 (by decide) (ht _ tb_591) (fun _ h9 => h9) hf3 dX7_period_28 ?_
    refine rv_iconst hx hb dX7_period_31 ?_
    refine lv_iload_n hx hb dX7_period_32 rfl (lv_at hl 1 rfl) ?_
    refine rv_imul hx hb dX7_period_33 ?_
    refine rv_iconst hx hb dX7_period_34 ?_
    refine rv_iadd hx hb dX7_period_35 ?_
    refine rv_iald hx hb hK hPm 1 0 rfl rfl (5 * p.toNat + 1) (by omega) (by omega) dX7_period_36 ?_
    refine rv_top (y := pv v p 1) rfl ?_
    subst hQ
    exact W.iret hx hb hr (fun t9 ht9 hW9 => ⟨_, rfl, ⟨by rw [per, if_neg h9], by omega⟩, ht9⟩) (fun _ h => absurd h List.not_mem_nil) dX7_period_37
  · refine lv_aload_n hx hb dX7_period_12 rfl (lv_at hl 0 rfl) ?_
    refine va_get (D := D) (ci := 6) (v := .ref b) (C := RX7) (T := TX7) (N := 16) hx hb ht inTB_X7 hown hK hPm 0 rfl rfl 3 (by decide) (ht _ tb_591) (fun _ h9 => h9) hf3 dX7_period_13 ?_
    refine rv_iconst hx hb dX7_period_16 ?_
    refine lv_iload_n hx hb dX7_period_17 rfl (lv_at hl 1 rfl) ?_
    refine rv_imul hx hb dX7_period_18 ?_
    refine rv_iconst hx hb dX7_period_19 ?_
    refine rv_iadd hx hb dX7_period_20 ?_
    refine rv_iald hx hb hK hPm 1 0 rfl rfl (5 * p.toNat + 1) (by omega) (by omega) dX7_period_21 ?_
    refine rv_top (y := pv v p 1) rfl ?_
    refine rv_iconst hx hb dX7_period_22 ?_
    refine rv_isub hx hb dX7_period_23 ?_
    refine lv_goto (tgt := 37) hx hb dX7_period_24 (by decide) ?_
    subst hQ
    exact W.iret hx hb hr (fun t9 ht9 hW9 => ⟨_, rfl, ⟨by rw [per, if_pos h9], by omega⟩, ht9⟩) (fun _ h => absurd h List.not_mem_nil) dX7_period_37

abbrev rm_X7_depth : Room := { frames := 1, cells := 0, slots := 0, locals := 23 }
set_option maxHeartbeats 4000000 in
set_option maxRecDepth 100000 in
/-- depth -/
theorem c_X7_depth (l : Launch) (D : va_G) (cs : Nat → ClassId) (o : Nat) (b : Nat) (fs : List Value) (v : Nat → Int) (p : Int) (i : Int) (hp : 0 ≤ p ∧ p < v 20) (hi : 0 ≤ i ∧ i < 1000000) : Met l yX7_depth (Cond.code yX7_depth cX7_depth 8 (some .int) :: TB) rm_X7_depth (va_Pc [.ref o, .int (iI p), .int (iI i)] (fun U => KA D cs U ∧ ModAt D cs U.heap o b fs v)) (vp_Si (fun r => r = iI (dpt (pv v p 0) (pv v p 1) (pv v p 2) i) ∧ (0 ≤ dpt (pv v p 0) (pv v p 1) (pv v p 2) i ∧ dpt (pv v p 0) (pv v p 1) (pv v p 2) i ≤ 30))) 0 0 (fun _ => False) := by
  refine enter (cc := cX7_depth) (maxL := 8) (ret := (some .int)) (by decide) (Nat.le_of_ble_eq_true rfl) ?_
  intro pg ev s m below meth c Q ls hx hb hml hown hts hr hlocks hnm ⟨hK, hmod⟩ hl hQ
  have ht : ∀ w ∈ TB, w.before _ s = true := fun w h => hts w (List.mem_cons_of_mem _ h)
  have hl : lv_has ls 8 [(0, .ref o), (1, .int (iI p)), (2, .int (iI i))] := hl
  obtain ⟨hPm, hf3, hvL⟩ := id hmod
  obtain ⟨hv20, hv21, hv22, hv23, hvp⟩ := id hvL
  obtain ⟨hvk, hvn, hvf, hvo, hvw⟩ := vL_p hvL hp
  have hnb := isPr_bd hvn
  have hpb := per_bd (k := pv v p 0) hvn
  have hfb := fOK_bd hvk hvn hvf
  refine lv_aload_n hx hb dX7_depth_0 rfl (lv_at hl 0 rfl) ?_
  refine va_get (D := D) (ci := 6) (v := .ref b) (C := RX7) (T := TX7) (N := 16) hx hb ht inTB_X7 hown hK hPm 0 rfl rfl 3 (by decide) (ht _ tb_591) (fun _ h9 => h9) hf3 dX7_depth_1 ?_
  refine rv_iconst hx hb dX7_depth_4 ?_
  refine lv_iload_n hx hb dX7_depth_5 rfl (lv_at hl 1 rfl) ?_
  refine rv_imul hx hb dX7_depth_6 ?_
  refine rv_iconst hx hb dX7_depth_7 ?_
  refine rv_iadd hx hb dX7_depth_8 ?_
  refine rv_iald hx hb hK hPm 1 0 rfl rfl (5 * p.toNat + 1) (by omega) (by omega) dX7_depth_9 ?_
  refine rv_top (y := pv v p 1) rfl ?_
  refine lv_istore_n (lv' := [(3, .int (iI (pv v p 1))), (0, .ref o), (1, .int (iI p)), (2, .int (iI i))]) hx hb dX7_depth_10 rfl hl (by decide) rfl (fun ls hl => ?_)
  refine lv_aload_n hx hb dX7_depth_11 rfl (lv_at hl 1 rfl) ?_
  refine va_get (D := D) (ci := 6) (v := .ref b) (C := RX7) (T := TX7) (N := 16) hx hb ht inTB_X7 hown hK hPm 0 rfl rfl 3 (by decide) (ht _ tb_591) (fun _ h9 => h9) hf3 dX7_depth_12 ?_
  refine rv_iconst hx hb dX7_depth_15 ?_
  refine lv_iload_n hx hb dX7_depth_16 rfl (lv_at hl 2 rfl) ?_
  refine rv_imul hx hb dX7_depth_17 ?_
  refine rv_iconst hx hb dX7_depth_18 ?_
  refine rv_iadd hx hb dX7_depth_19 ?_
  refine rv_iald hx hb hK hPm 1 0 rfl rfl (5 * p.toNat + 2) (by omega) (by omega) dX7_depth_20 ?_
  refine rv_top (y := pv v p 2) rfl ?_
  refine lv_istore (lv' := [(4, .int (iI (pv v p 2))), (3, .int (iI (pv v p 1))), (0, .ref o), (1, .int (iI p)), (2, .int (iI i))]) hx hb dX7_depth_21 hl (by decide) rfl (fun ls hl => ?_)
  refine lv_iload_n hx hb dX7_depth_23 rfl (lv_at hl 4 rfl) ?_
  refine lv_aload_n hx hb dX7_depth_24 rfl (lv_at hl 2 rfl) ?_
  refine lv_iload_n hx hb dX7_depth_25 rfl (lv_at hl 3 rfl) ?_
  refine vp_callSi (W.runV (As := [.int (iI p)]) (rest := [.int (iI i)]) ⟨hx, hb, hml, hown, hts⟩ (c_X7_period l D cs o b fs v p hp) (cwV 1 hts (gV tb_752 tb_754 tbs_25 tb_8 tb_755) rfl rfl rfl (by decide +kernel) ⟨Nat.le_of_ble_eq_true rfl, Nat.le_of_ble_eq_true rfl⟩) (preV_mod hK hmod) rfl rfl hl.1 rfl (lv_room (Nat.le_of_ble_eq_true rfl)) dX7_depth_26 ⟨Nat.le_of_ble_eq_true rfl, Nat.le_of_ble_eq_true rfl⟩) (fun r9 hr9 => ?_)
  obtain ⟨rfl, hx26_0⟩ := hr9
  refine rv_irem hx hb dX7_depth_29 (by omega) ?_
  have hm29 := md_bd (x := i) (y := per (pv v p 0) (pv v p 1)) (by omega)
  refine rv_top (y := (i % per (pv v p 0) (pv v p 1))) rfl ?_
  refine lv_istore (lv' := [(5, .int (iI (i % per (pv v p 0) (pv v p 1)))), (4, .int (iI (pv v p 2))), (3, .int (iI (pv v p 1))), (0, .ref o), (1, .int (iI p)), (2, .int (iI i))]) hx hb dX7_depth_30 hl (by decide) rfl (fun ls hl => ?_)
  have hki : (((i % per (pv v p 0) (pv v p 1)).toNat : Nat) : Int) = i % per (pv v p 0) (pv v p 1) := by omega
  refine lv_aload_n hx hb dX7_depth_32 rfl (lv_at hl 3 rfl) ?_
  refine va_get (D := D) (ci := 6) (v := .ref b) (C := RX7) (T := TX7) (N := 16) hx hb ht inTB_X7 hown hK hPm 0 rfl rfl 3 (by decide) (ht _ tb_591) (fun _ h9 => h9) hf3 dX7_depth_33 ?_
  refine rv_iconst hx hb dX7_depth_36 ?_
  refine lv_iload_n hx hb dX7_depth_37 rfl (lv_at hl 4 rfl) ?_
  refine rv_imul hx hb dX7_depth_38 ?_
  refine rv_iald hx hb hK hPm 1 0 rfl rfl (5 * p.toNat + 0) (by omega) (by omega) dX7_depth_39 ?_
  refine rv_top (y := pv v p 0) rfl ?_
  refine rv_if_ne (tgt := 54) hx hb dX7_depth_40 (by decide) (by omega) (fun h40 => ?_) (fun h40 => ?_)
  · refine lv_aload_n hx hb dX7_depth_54 rfl (lv_at hl 3 rfl) ?_
    refine va_get (D := D) (ci := 6) (v := .ref b) (C := RX7) (T := TX7) (N := 16) hx hb ht inTB_X7 hown hK hPm 0 rfl rfl 3 (by decide) (ht _ tb_591) (fun _ h9 => h9) hf3 dX7_depth_55 ?_
    refine rv_iconst hx hb dX7_depth_58 ?_
    refine lv_iload_n hx hb dX7_depth_59 rfl (lv_at hl 4 rfl) ?_
    refine rv_imul hx hb dX7_depth_60 ?_
    refine rv_iald hx hb hK hPm 1 0 rfl rfl (5 * p.toNat + 0) (by omega) (by omega) dX7_depth_61 ?_
    refine rv_top (y := pv v p 0) rfl ?_
    refine rv_iconst hx hb dX7_depth_62 ?_
    refine rv_icmp_ne (tgt := 83) hx hb dX7_depth_63 (by decide) (by omega) (fun h63 => ?_) (fun h63 => ?_)
    · refine lv_iload hx hb dX7_depth_83 (lv_at hl 1 rfl) ?_
      refine lv_istore (lv' := [(6, .int (iI (pv v p 2))), (5, .int (iI (i % per (pv v p 0) (pv v p 1)))), (4, .int (iI (pv v p 2))), (3, .int (iI (pv v p 1))), (0, .ref o), (1, .int (iI p)), (2, .int (iI i))]) hx hb dX7_depth_85 hl (by decide) rfl (fun ls hl => ?_)
      refine rv_iconst hx hb dX7_depth_87 ?_
      refine lv_istore (lv' := [(7, .int (iI 0)), (6, .int (iI (pv v p 2))), (5, .int (iI (i % per (pv v p 0) (pv v p 1)))), (4, .int (iI (pv v p 2))), (3, .int (iI (pv v p 1))), (0, .ref o), (1, .int (iI p)), (2, .int (iI i))]) hx hb dX7_depth_88 hl (by decide) rfl (fun ls hl => ?_)
      have loop90 : ∀ (fuel90 : Nat) (j : Nat), ((j : Int) ≤ i % per (pv v p 0) (pv v p 1)) → (31 - j) < fuel90 → ∀ (x6 x7 : Int), x6 = pwI (pv v p 2) (pv v p 1) (j + 1) → x7 = (j : Int) → ∀ ls : Array Slot, lv_has ls 8 [(0, .ref o), (1, .int (iI p)), (2, .int (iI i)), (3, .int (iI (pv v p 1))), (4, .int (iI (pv v p 2))), (5, .int (iI (i % per (pv v p 0) (pv v p 1)))), (6, .int (iI x6)), (7, .int (iI x7))] → W pg l ev rm_X7_depth s m [.ref o, .int (iI p), .int (iI i)].toArray below meth c s.heap [] 0 0 Q (F0 m 90 ls []) := by
        intro fuel90
        induction fuel90 with
        | zero => intro j hj hfuel90; exact absurd hfuel90 (Nat.not_lt_zero _)
        | succ fuel90 ih90 =>
          intro j hj hfuel90 x6 x7 ex6 ex7 ls hl
          subst ex6 ex7
          have hpb2 := pwI_bd (f := pv v p 2) (n := pv v p 1) (by omega) (j + 1)
          have hpm : 0 ≤ pwI (pv v p 2) (pv v p 1) (j + 1) * pv v p 2 := Int.mul_nonneg (by omega) (by omega)
          have hpn : pwI (pv v p 2) (pv v p 1) (j + 1) * pv v p 2 ≤ 31 * 31 := Int.mul_le_mul (by omega) (by omega) (by omega) (by omega)
          refine lv_iload hx hb dX7_depth_90 (lv_at hl 7 rfl) ?_
          refine lv_iload hx hb dX7_depth_92 (lv_at hl 5 rfl) ?_
          refine rv_icmp_ge (tgt := 112) hx hb dX7_depth_94 (by decide) (by omega) (fun h94 => ?_) (fun h94 => ?_)
          · refine lv_iload hx hb dX7_depth_112 (lv_at hl 6 rfl) ?_
            subst hQ
            exact W.iret hx hb hr (fun t9 ht9 hW9 => ⟨_, rfl, ⟨by rw [dpt, dep, if_neg (by omega), if_pos (by omega), show (i % per (pv v p 0) (pv v p 1)).toNat = j by omega], dpt_bd hvk hvn hvf _⟩, ht9⟩) (fun _ h => absurd h List.not_mem_nil) dX7_depth_114
          · refine lv_iload hx hb dX7_depth_97 (lv_at hl 6 rfl) ?_
            refine lv_iload hx hb dX7_depth_99 (lv_at hl 4 rfl) ?_
            refine rv_imul hx hb dX7_depth_101 ?_
            refine lv_iload_n hx hb dX7_depth_102 rfl (lv_at hl 3 rfl) ?_
            refine rv_irem hx hb dX7_depth_103 (by omega) ?_
            have hm103 := md_bd (x := (pwI (pv v p 2) (pv v p 1) (j + 1) * (pv v p 2))) (y := (pv v p 1)) (by omega)
            refine lv_istore (lv' := [(6, .int (iI ((pwI (pv v p 2) (pv v p 1) (j + 1) * (pv v p 2)) % (pv v p 1)))), (0, .ref o), (1, .int (iI p)), (2, .int (iI i)), (3, .int (iI (pv v p 1))), (4, .int (iI (pv v p 2))), (5, .int (iI (i % per (pv v p 0) (pv v p 1)))), (7, .int (iI (j : Int)))]) hx hb dX7_depth_104 hl (by decide) rfl (fun ls hl => ?_)
            refine rv_iinc (k := 7) (lv' := [(7, .int (iI ((j : Int) + 1))), (6, .int (iI ((pwI (pv v p 2) (pv v p 1) (j + 1) * (pv v p 2)) % (pv v p 1)))), (0, .ref o), (1, .int (iI p)), (2, .int (iI i)), (3, .int (iI (pv v p 1))), (4, .int (iI (pv v p 2))), (5, .int (iI (i % per (pv v p 0) (pv v p 1))))]) hx hb dX7_depth_106 hl rfl (by decide) rfl (fun ls hl => ?_)
            refine lv_goto (tgt := 90) hx hb dX7_depth_109 (by decide) ?_
            exact ih90 (j + 1) (by omega) (by omega) _ _ rfl (by omega) ls (lv_sub hl [2, 3, 4, 5, 6, 7, 1, 0] rfl)
      exact loop90 (_ + 1) 0 (by omega) (Nat.lt_succ_self _) _ _ (by have hrt := hvf.2.1 (by omega); unfold isRt at hrt; rw [pwI, pwI, Int.one_mul, Int.emod_eq_of_lt (by omega) (by omega)]) rfl ls (lv_sub hl [5, 6, 7, 4, 3, 2, 1, 0] rfl)
    · refine lv_iload hx hb dX7_depth_66 (lv_at hl 0 rfl) ?_
      refine lv_iload_n hx hb dX7_depth_68 rfl (lv_at hl 2 rfl) ?_
      refine vp_callSi (W.runS (As := [.int (iI (i % per (pv v p 0) (pv v p 1))), .int (iI (pv v p 1))]) (rest := []) ⟨hx, hb, hml, hown, hts⟩ (c_X7_signOf l (i % per (pv v p 0) (pv v p 1)) (pv v p 1) (by omega) (by omega)) (va_cwS 2 hts (gS tb_652 tb_653 tb_8 tb_654) rfl rfl rfl (by decide +kernel) ⟨Nat.le_of_ble_eq_true rfl, Nat.le_of_ble_eq_true rfl⟩) preS0 rfl rfl hl.1 rfl (lv_room (Nat.le_of_ble_eq_true rfl)) dX7_depth_69 ⟨Nat.le_of_ble_eq_true rfl, Nat.le_of_ble_eq_true rfl⟩) (fun r9 hr9 => ?_)
      obtain ⟨rfl, hx69_0⟩ := hr9
      refine rv_iconst hx hb dX7_depth_72 ?_
      refine rv_icmp_ne (tgt := 81) hx hb dX7_depth_73 (by decide) (by omega) (fun h73 => ?_) (fun h73 => ?_)
      · refine rv_iconst hx hb dX7_depth_81 ?_
        subst hQ
        exact W.iret hx hb hr (fun t9 ht9 hW9 => ⟨_, rfl, ⟨by rw [dpt, dep, if_neg (by omega), if_neg (by omega), hki, if_neg h73], dpt_bd hvk hvn hvf _⟩, ht9⟩) (fun _ h => absurd h List.not_mem_nil) dX7_depth_82
      · refine lv_iload hx hb dX7_depth_76 (lv_at hl 1 rfl) ?_
        refine lv_goto (tgt := 82) hx hb dX7_depth_78 (by decide) ?_
        subst hQ
        exact W.iret hx hb hr (fun t9 ht9 hW9 => ⟨_, rfl, ⟨by rw [dpt, dep, if_neg (by omega), if_neg (by omega), hki, if_pos h73], dpt_bd hvk hvn hvf _⟩, ht9⟩) (fun _ h => absurd h List.not_mem_nil) dX7_depth_82
  · have hm1 : 0 ≤ pv v p 2 * (i % per (pv v p 0) (pv v p 1)) := Int.mul_nonneg (by omega) (by omega)
    have hm2 : pv v p 2 * (i % per (pv v p 0) (pv v p 1)) ≤ 31 * 31 := Int.mul_le_mul (by omega) (by omega) (by omega) (by omega)
    have hm3 : 0 ≤ pv v p 2 * (i % per (pv v p 0) (pv v p 1)) * (i % per (pv v p 0) (pv v p 1)) := Int.mul_nonneg (by omega) (by omega)
    have hm4 : pv v p 2 * (i % per (pv v p 0) (pv v p 1)) * (i % per (pv v p 0) (pv v p 1)) ≤ (31 * 31) * 31 := Int.mul_le_mul (by omega) (by omega) (by omega) (by omega)
    refine lv_iload hx hb dX7_depth_43 (lv_at hl 1 rfl) ?_
    refine lv_iload hx hb dX7_depth_45 (lv_at hl 0 rfl) ?_
    refine rv_imul hx hb dX7_depth_47 ?_
    refine lv_iload hx hb dX7_depth_48 (lv_at hl 0 rfl) ?_
    refine rv_imul hx hb dX7_depth_50 ?_
    refine lv_iload_n hx hb dX7_depth_51 rfl (lv_at hl 2 rfl) ?_
    refine rv_irem hx hb dX7_depth_52 (by omega) ?_
    have hm52 := md_bd (x := (((pv v p 2) * i % per (pv v p 0) (pv v p 1)) * i % per (pv v p 0) (pv v p 1))) (y := (pv v p 1)) (by omega)
    subst hQ
    exact W.iret hx hb hr (fun t9 ht9 hW9 => ⟨_, rfl, ⟨by rw [dpt, dep, if_pos (by omega), hki], dpt_bd hvk hvn hvf _⟩, ht9⟩) (fun _ h => absurd h List.not_mem_nil) dX7_depth_53

abbrev rm_X7_wellOf : Room := { frames := 2, cells := 0, slots := 0, locals := 50 }
set_option maxHeartbeats 4000000 in
set_option maxRecDepth 100000 in
/-- wellOf -/
theorem c_X7_wellOf (l : Launch) (D : va_G) (cs : Nat → ClassId) (o : Nat) (b : Nat) (fs : List Value) (v : Nat → Int) (p : Int) (i : Int) (hp : 0 ≤ p ∧ p < v 20) (hi : 0 ≤ i ∧ i < 1000) : Met l yX7_wellOf (Cond.code yX7_wellOf cX7_wellOf 3 (some .int) :: TB) rm_X7_wellOf (va_Pc [.ref o, .int (iI p), .int (iI i)] (fun U => KA D cs U ∧ ModAt D cs U.heap o b fs v)) (vp_Si (fun r => r = iI (dpt (pv v p 0) (pv v p 1) (pv v p 2) (i + pv v p 3)) ∧ (0 ≤ dpt (pv v p 0) (pv v p 1) (pv v p 2) (i + pv v p 3) ∧ dpt (pv v p 0) (pv v p 1) (pv v p 2) (i + pv v p 3) ≤ 30))) 0 0 (fun _ => False) := by
  refine enter (cc := cX7_wellOf) (maxL := 3) (ret := (some .int)) (by decide) (Nat.le_of_ble_eq_true rfl) ?_
  intro pg ev s m below meth c Q ls hx hb hml hown hts hr hlocks hnm ⟨hK, hmod⟩ hl hQ
  have ht : ∀ w ∈ TB, w.before _ s = true := fun w h => hts w (List.mem_cons_of_mem _ h)
  have hl : lv_has ls 3 [(0, .ref o), (1, .int (iI p)), (2, .int (iI i))] := hl
  obtain ⟨hPm, hf3, hvL⟩ := id hmod
  obtain ⟨hv20, hv21, hv22, hv23, hvp⟩ := id hvL
  obtain ⟨hvk, hvn, hvf, hvo, hvw⟩ := vL_p hvL hp
  have hnb := isPr_bd hvn
  have hpb := per_bd (k := pv v p 0) hvn
  have hfb := fOK_bd hvk hvn hvf
  refine lv_aload_n hx hb dX7_wellOf_0 rfl (lv_at hl 0 rfl) ?_
  refine lv_iload_n hx hb dX7_wellOf_1 rfl (lv_at hl 1 rfl) ?_
  refine lv_iload_n hx hb dX7_wellOf_2 rfl (lv_at hl 2 rfl) ?_
  refine lv_aload_n hx hb dX7_wellOf_3 rfl (lv_at hl 0 rfl) ?_
  refine va_get (D := D) (ci := 6) (v := .ref b) (C := RX7) (T := TX7) (N := 16) hx hb ht inTB_X7 hown hK hPm 0 rfl rfl 3 (by decide) (ht _ tb_591) (fun _ h9 => h9) hf3 dX7_wellOf_4 ?_
  refine rv_iconst hx hb dX7_wellOf_7 ?_
  refine lv_iload_n hx hb dX7_wellOf_8 rfl (lv_at hl 1 rfl) ?_
  refine rv_imul hx hb dX7_wellOf_9 ?_
  refine rv_iconst hx hb dX7_wellOf_10 ?_
  refine rv_iadd hx hb dX7_wellOf_11 ?_
  refine rv_iald hx hb hK hPm 1 0 rfl rfl (5 * p.toNat + 3) (by omega) (by omega) dX7_wellOf_12 ?_
  refine rv_top (y := pv v p 3) rfl ?_
  refine rv_iadd hx hb dX7_wellOf_13 ?_
  refine vp_callSi (W.runV (As := [.int (iI p), .int (iI (i + (pv v p 3)))]) (rest := []) ⟨hx, hb, hml, hown, hts⟩ (c_X7_depth l D cs o b fs v p (i + (pv v p 3)) hp (by omega)) (cwV 2 hts (gV tb_748 tb_750 tbs_24 tb_8 tb_751) rfl rfl rfl (by decide +kernel) ⟨Nat.le_of_ble_eq_true rfl, Nat.le_of_ble_eq_true rfl⟩) (preV_mod hK hmod) rfl rfl hl.1 rfl (lv_room (Nat.le_of_ble_eq_true rfl)) dX7_wellOf_14 ⟨Nat.le_of_ble_eq_true rfl, Nat.le_of_ble_eq_true rfl⟩) (fun r9 hr9 => ?_)
  obtain ⟨rfl, hx14_0⟩ := hr9
  subst hQ
  exact W.iret hx hb hr (fun t9 ht9 hW9 => ⟨_, rfl, ⟨rfl, dpt_bd hvk hvn hvf _⟩, ht9⟩) (fun _ h => absurd h List.not_mem_nil) dX7_wellOf_17

abbrev rm_X7_countOf : Room := { frames := 2, cells := 0, slots := 0, locals := 50 }
set_option maxHeartbeats 4000000 in
set_option maxRecDepth 100000 in
/-- countOf -/
theorem c_X7_countOf (l : Launch) (D : va_G) (cs : Nat → ClassId) (o : Nat) (b : Nat) (fs : List Value) (v : Nat → Int) (p : Int) (sh : Int) (d : Int) (hp : 0 ≤ p ∧ p < v 20) (hsh : 0 ≤ sh ∧ sh < 1000) (hd : -2147483648 ≤ d ∧ d < 2147483648) : Met l yX7_countOf (Cond.code yX7_countOf cX7_countOf 8 (some .int) :: TB) rm_X7_countOf (va_Pc [.ref o, .int (iI p), .int (iI sh), .int (iI d)] (fun U => KA D cs U ∧ ModAt D cs U.heap o b fs v)) (vp_Si (fun r => r = iI (cnC (pv v p 0) (pv v p 1) (pv v p 2) sh d (per (pv v p 0) (pv v p 1)).toNat) ∧ (0 ≤ cnC (pv v p 0) (pv v p 1) (pv v p 2) sh d (per (pv v p 0) (pv v p 1)).toNat ∧ cnC (pv v p 0) (pv v p 1) (pv v p 2) sh d (per (pv v p 0) (pv v p 1)).toNat ≤ 31))) 0 0 (fun _ => False) := by
  refine enter (cc := cX7_countOf) (maxL := 8) (ret := (some .int)) (by decide) (Nat.le_of_ble_eq_true rfl) ?_
  intro pg ev s m below meth c Q ls hx hb hml hown hts hr hlocks hnm ⟨hK, hmod⟩ hl hQ
  have ht : ∀ w ∈ TB, w.before _ s = true := fun w h => hts w (List.mem_cons_of_mem _ h)
  have hl : lv_has ls 8 [(0, .ref o), (1, .int (iI p)), (2, .int (iI sh)), (3, .int (iI d))] := hl
  obtain ⟨hPm, hf3, hvL⟩ := id hmod
  obtain ⟨hv20, hv21, hv22, hv23, hvp⟩ := id hvL
  obtain ⟨hvk, hvn, hvf, hvo, hvw⟩ := vL_p hvL hp
  have hnb := isPr_bd hvn
  have hpb := per_bd (k := pv v p 0) hvn
  have hfb := fOK_bd hvk hvn hvf
  refine lv_aload_n hx hb dX7_countOf_0 rfl (lv_at hl 0 rfl) ?_
  refine va_get (D := D) (ci := 6) (v := .ref b) (C := RX7) (T := TX7) (N := 16) hx hb ht inTB_X7 hown hK hPm 0 rfl rfl 3 (by decide) (ht _ tb_591) (fun _ h9 => h9) hf3 dX7_countOf_1 ?_
  refine rv_iconst hx hb dX7_countOf_4 ?_
  refine lv_iload_n hx hb dX7_countOf_5 rfl (lv_at hl 1 rfl) ?_
  refine rv_imul hx hb dX7_countOf_6 ?_
  refine rv_iconst hx hb dX7_countOf_7 ?_
  refine rv_iadd hx hb dX7_countOf_8 ?_
  refine rv_iald hx hb hK hPm 1 0 rfl rfl (5 * p.toNat + 1) (by omega) (by omega) dX7_countOf_9 ?_
  refine rv_top (y := pv v p 1) rfl ?_
  refine lv_istore (lv' := [(4, .int (iI (pv v p 1))), (0, .ref o), (1, .int (iI p)), (2, .int (iI sh)), (3, .int (iI d))]) hx hb dX7_countOf_10 hl (by decide) rfl (fun ls hl => ?_)
  refine rv_iconst hx hb dX7_countOf_12 ?_
  refine lv_istore (lv' := [(5, .int (iI 0)), (4, .int (iI (pv v p 1))), (0, .ref o), (1, .int (iI p)), (2, .int (iI sh)), (3, .int (iI d))]) hx hb dX7_countOf_13 hl (by decide) rfl (fun ls hl => ?_)
  refine rv_iconst hx hb dX7_countOf_15 ?_
  refine lv_istore (lv' := [(6, .int (iI 0)), (5, .int (iI 0)), (4, .int (iI (pv v p 1))), (0, .ref o), (1, .int (iI p)), (2, .int (iI sh)), (3, .int (iI d))]) hx hb dX7_countOf_16 hl (by decide) rfl (fun ls hl => ?_)
  have loop18 : ∀ (fuel18 : Nat) (i : Nat), ((i : Int) ≤ per (pv v p 0) (pv v p 1)) → (per (pv v p 0) (pv v p 1) - (i : Int)).toNat < fuel18 → ∀ (x5 x6 : Int), x5 = cnC (pv v p 0) (pv v p 1) (pv v p 2) sh d i → x6 = (i : Int) → ∀ ls : Array Slot, lv_has ls 8 [(0, .ref o), (1, .int (iI p)), (2, .int (iI sh)), (3, .int (iI d)), (4, .int (iI (pv v p 1))), (5, .int (iI x5)), (6, .int (iI x6))] → W pg l ev rm_X7_countOf s m [.ref o, .int (iI p), .int (iI sh), .int (iI d)].toArray below meth c s.heap [] 0 0 Q (F0 m 18 ls []) := by
    intro fuel18
    induction fuel18 with
    | zero => intro i hi hfuel18; exact absurd hfuel18 (Nat.not_lt_zero _)
    | succ fuel18 ih18 =>
      intro i hi hfuel18 x5 x6 ex5 ex6 ls hl
      subst ex5 ex6
      refine lv_iload hx hb dX7_countOf_18 (lv_at hl 6 rfl) ?_
      refine lv_aload_n hx hb dX7_countOf_20 rfl (lv_at hl 0 rfl) ?_
      refine lv_iload_n hx hb dX7_countOf_21 rfl (lv_at hl 1 rfl) ?_
      refine vp_callSi (W.runV (As := [.int (iI p)]) (rest := [.int (iI (i : Int))]) ⟨hx, hb, hml, hown, hts⟩ (c_X7_period l D cs o b fs v p hp) (cwV 1 hts (gV tb_752 tb_754 tbs_25 tb_8 tb_755) rfl rfl rfl (by decide +kernel) ⟨Nat.le_of_ble_eq_true rfl, Nat.le_of_ble_eq_true rfl⟩) (preV_mod hK hmod) rfl rfl hl.1 rfl (lv_room (Nat.le_of_ble_eq_true rfl)) dX7_countOf_22 ⟨Nat.le_of_ble_eq_true rfl, Nat.le_of_ble_eq_true rfl⟩) (fun r9 hr9 => ?_)
      obtain ⟨rfl, hx22_0⟩ := hr9
      refine rv_icmp_ge (tgt := 85) hx hb dX7_countOf_25 (by decide) (by omega) (fun h25 => ?_) (fun h25 => ?_)
      · refine lv_iload hx hb dX7_countOf_85 (lv_at hl 5 rfl) ?_
        subst hQ
        exact W.iret hx hb hr (fun t9 ht9 hW9 => ⟨_, rfl, ⟨by rw [show (per (pv v p 0) (pv v p 1)).toNat = i by omega], by have := cnC_bd (pv v p 0) (pv v p 1) (pv v p 2) sh d (per (pv v p 0) (pv v p 1)).toNat; omega⟩, ht9⟩) (fun _ h => absurd h List.not_mem_nil) dX7_countOf_87
      · refine lv_aload_n hx hb dX7_countOf_28 rfl (lv_at hl 0 rfl) ?_
        refine lv_iload_n hx hb dX7_countOf_29 rfl (lv_at hl 1 rfl) ?_
        refine lv_iload hx hb dX7_countOf_30 (lv_at hl 6 rfl) ?_
        refine lv_iload_n hx hb dX7_countOf_32 rfl (lv_at hl 2 rfl) ?_
        refine rv_iadd hx hb dX7_countOf_33 ?_
        refine vp_callSi (W.runV (As := [.int (iI p), .int (iI ((i : Int) + sh))]) (rest := []) ⟨hx, hb, hml, hown, hts⟩ (c_X7_depth l D cs o b fs v p ((i : Int) + sh) hp (by omega)) (cwV 2 hts (gV tb_748 tb_750 tbs_24 tb_8 tb_751) rfl rfl rfl (by decide +kernel) ⟨Nat.le_of_ble_eq_true rfl, Nat.le_of_ble_eq_true rfl⟩) (preV_mod hK hmod) rfl rfl hl.1 rfl (lv_room (Nat.le_of_ble_eq_true rfl)) dX7_countOf_34 ⟨Nat.le_of_ble_eq_true rfl, Nat.le_of_ble_eq_true rfl⟩) (fun r9 hr9 => ?_)
        obtain ⟨rfl, hx34_0⟩ := hr9
        refine lv_aload_n hx hb dX7_countOf_37 rfl (lv_at hl 0 rfl) ?_
        refine lv_iload_n hx hb dX7_countOf_38 rfl (lv_at hl 1 rfl) ?_
        refine lv_iload hx hb dX7_countOf_39 (lv_at hl 6 rfl) ?_
        refine vp_callSi (W.runV (As := [.int (iI p), .int (iI (i : Int))]) (rest := [.int (iI (dpt (pv v p 0) (pv v p 1) (pv v p 2) ((i : Int) + sh)))]) ⟨hx, hb, hml, hown, hts⟩ (c_X7_depth l D cs o b fs v p (i : Int) hp (by omega)) (cwV 2 hts (gV tb_748 tb_750 tbs_24 tb_8 tb_751) rfl rfl rfl (by decide +kernel) ⟨Nat.le_of_ble_eq_true rfl, Nat.le_of_ble_eq_true rfl⟩) (preV_mod hK hmod) rfl rfl hl.1 rfl (lv_room (Nat.le_of_ble_eq_true rfl)) dX7_countOf_41 ⟨Nat.le_of_ble_eq_true rfl, Nat.le_of_ble_eq_true rfl⟩) (fun r9 hr9 => ?_)
        obtain ⟨rfl, hx41_0⟩ := hr9
        refine rv_isub hx hb dX7_countOf_44 ?_
        refine lv_iload hx hb dX7_countOf_45 (lv_at hl 4 rfl) ?_
        refine rv_iremT hx hb dX7_countOf_47 (by omega) ?_
        have htm := tm_bd (a := dpt (pv v p 0) (pv v p 1) (pv v p 2) ((i : Int) + sh) - dpt (pv v p 0) (pv v p 1) (pv v p 2) (i : Int)) (n := pv v p 1) (by omega)
        refine lv_istore (lv' := [(7, .int (iI (Int.tmod (dpt (pv v p 0) (pv v p 1) (pv v p 2) ((i : Int) + sh) - dpt (pv v p 0) (pv v p 1) (pv v p 2) (i : Int)) (pv v p 1)))), (0, .ref o), (1, .int (iI p)), (2, .int (iI sh)), (3, .int (iI d)), (4, .int (iI (pv v p 1))), (5, .int (iI (cnC (pv v p 0) (pv v p 1) (pv v p 2) sh d i))), (6, .int (iI (i : Int)))]) hx hb dX7_countOf_48 hl (by decide) rfl (fun ls hl => ?_)
        refine lv_iload hx hb dX7_countOf_50 (lv_at hl 6 rfl) ?_
        refine lv_iload hx hb dX7_countOf_52 (lv_at hl 0 rfl) ?_
        refine rv_if_ge (tgt := 65) hx hb dX7_countOf_54 (by decide) (by omega) (fun h54 => ?_) (fun h54 => ?_)
        · refine lv_iload hx hb dX7_countOf_65 (lv_at hl 0 rfl) ?_
          refine lv_iload_n hx hb dX7_countOf_67 rfl (lv_at hl 4 rfl) ?_
          refine rv_icmp_ne (tgt := 75) hx hb dX7_countOf_68 (by decide) (by omega) (fun h68 => ?_) (fun h68 => ?_)
          · refine rv_iconst hx hb dX7_countOf_75 ?_
            refine rv_iadd hx hb dX7_countOf_76 ?_
            refine lv_istore (lv' := [(5, .int (iI (cnC (pv v p 0) (pv v p 1) (pv v p 2) sh d i + 0))), (7, .int (iI (Int.tmod (dpt (pv v p 0) (pv v p 1) (pv v p 2) ((i : Int) + sh) - dpt (pv v p 0) (pv v p 1) (pv v p 2) (i : Int)) (pv v p 1)))), (0, .ref o), (1, .int (iI p)), (2, .int (iI sh)), (3, .int (iI d)), (4, .int (iI (pv v p 1))), (6, .int (iI (i : Int)))]) hx hb dX7_countOf_77 hl (by decide) rfl (fun ls hl => ?_)
            refine rv_iinc (k := 7) (lv' := [(6, .int (iI ((i : Int) + 1))), (5, .int (iI (cnC (pv v p 0) (pv v p 1) (pv v p 2) sh d i + 0))), (7, .int (iI (Int.tmod (dpt (pv v p 0) (pv v p 1) (pv v p 2) ((i : Int) + sh) - dpt (pv v p 0) (pv v p 1) (pv v p 2) (i : Int)) (pv v p 1)))), (0, .ref o), (1, .int (iI p)), (2, .int (iI sh)), (3, .int (iI d)), (4, .int (iI (pv v p 1)))]) hx hb dX7_countOf_79 hl rfl (by decide) rfl (fun ls hl => ?_)
            refine lv_goto (tgt := 18) hx hb dX7_countOf_82 (by decide) ?_
            exact ih18 (i + 1) (by omega) (by omega) _ _ (by simp only [cnC]; first | rw [if_pos (by omega)] | rw [if_neg (by omega)]) (by omega) ls (lv_sub hl [3, 4, 5, 6, 7, 1, 0] rfl)
          · refine rv_iconst hx hb dX7_countOf_71 ?_
            refine lv_goto (tgt := 76) hx hb dX7_countOf_72 (by decide) ?_
            refine rv_iadd hx hb dX7_countOf_76 ?_
            refine lv_istore (lv' := [(5, .int (iI (cnC (pv v p 0) (pv v p 1) (pv v p 2) sh d i + 1))), (7, .int (iI (Int.tmod (dpt (pv v p 0) (pv v p 1) (pv v p 2) ((i : Int) + sh) - dpt (pv v p 0) (pv v p 1) (pv v p 2) (i : Int)) (pv v p 1)))), (0, .ref o), (1, .int (iI p)), (2, .int (iI sh)), (3, .int (iI d)), (4, .int (iI (pv v p 1))), (6, .int (iI (i : Int)))]) hx hb dX7_countOf_77 hl (by decide) rfl (fun ls hl => ?_)
            refine rv_iinc (k := 7) (lv' := [(6, .int (iI ((i : Int) + 1))), (5, .int (iI (cnC (pv v p 0) (pv v p 1) (pv v p 2) sh d i + 1))), (7, .int (iI (Int.tmod (dpt (pv v p 0) (pv v p 1) (pv v p 2) ((i : Int) + sh) - dpt (pv v p 0) (pv v p 1) (pv v p 2) (i : Int)) (pv v p 1)))), (0, .ref o), (1, .int (iI p)), (2, .int (iI sh)), (3, .int (iI d)), (4, .int (iI (pv v p 1)))]) hx hb dX7_countOf_79 hl rfl (by decide) rfl (fun ls hl => ?_)
            refine lv_goto (tgt := 18) hx hb dX7_countOf_82 (by decide) ?_
            exact ih18 (i + 1) (by omega) (by omega) _ _ (by simp only [cnC]; first | rw [if_pos (by omega)] | rw [if_neg (by omega)]) (by omega) ls (lv_sub hl [3, 4, 5, 6, 7, 1, 0] rfl)
        · refine lv_iload hx hb dX7_countOf_57 (lv_at hl 0 rfl) ?_
          refine lv_iload hx hb dX7_countOf_59 (lv_at hl 5 rfl) ?_
          refine rv_iadd hx hb dX7_countOf_61 ?_
          refine lv_goto (tgt := 67) hx hb dX7_countOf_62 (by decide) ?_
          refine lv_iload_n hx hb dX7_countOf_67 rfl (lv_at hl 4 rfl) ?_
          refine rv_icmp_ne (tgt := 75) hx hb dX7_countOf_68 (by decide) (by omega) (fun h68 => ?_) (fun h68 => ?_)
          · refine rv_iconst hx hb dX7_countOf_75 ?_
            refine rv_iadd hx hb dX7_countOf_76 ?_
            refine lv_istore (lv' := [(5, .int (iI (cnC (pv v p 0) (pv v p 1) (pv v p 2) sh d i + 0))), (7, .int (iI (Int.tmod (dpt (pv v p 0) (pv v p 1) (pv v p 2) ((i : Int) + sh) - dpt (pv v p 0) (pv v p 1) (pv v p 2) (i : Int)) (pv v p 1)))), (0, .ref o), (1, .int (iI p)), (2, .int (iI sh)), (3, .int (iI d)), (4, .int (iI (pv v p 1))), (6, .int (iI (i : Int)))]) hx hb dX7_countOf_77 hl (by decide) rfl (fun ls hl => ?_)
            refine rv_iinc (k := 7) (lv' := [(6, .int (iI ((i : Int) + 1))), (5, .int (iI (cnC (pv v p 0) (pv v p 1) (pv v p 2) sh d i + 0))), (7, .int (iI (Int.tmod (dpt (pv v p 0) (pv v p 1) (pv v p 2) ((i : Int) + sh) - dpt (pv v p 0) (pv v p 1) (pv v p 2) (i : Int)) (pv v p 1)))), (0, .ref o), (1, .int (iI p)), (2, .int (iI sh)), (3, .int (iI d)), (4, .int (iI (pv v p 1)))]) hx hb dX7_countOf_79 hl rfl (by decide) rfl (fun ls hl => ?_)
            refine lv_goto (tgt := 18) hx hb dX7_countOf_82 (by decide) ?_
            exact ih18 (i + 1) (by omega) (by omega) _ _ (by simp only [cnC]; first | rw [if_pos (by omega)] | rw [if_neg (by omega)]) (by omega) ls (lv_sub hl [3, 4, 5, 6, 7, 1, 0] rfl)
          · refine rv_iconst hx hb dX7_countOf_71 ?_
            refine lv_goto (tgt := 76) hx hb dX7_countOf_72 (by decide) ?_
            refine rv_iadd hx hb dX7_countOf_76 ?_
            refine lv_istore (lv' := [(5, .int (iI (cnC (pv v p 0) (pv v p 1) (pv v p 2) sh d i + 1))), (7, .int (iI (Int.tmod (dpt (pv v p 0) (pv v p 1) (pv v p 2) ((i : Int) + sh) - dpt (pv v p 0) (pv v p 1) (pv v p 2) (i : Int)) (pv v p 1)))), (0, .ref o), (1, .int (iI p)), (2, .int (iI sh)), (3, .int (iI d)), (4, .int (iI (pv v p 1))), (6, .int (iI (i : Int)))]) hx hb dX7_countOf_77 hl (by decide) rfl (fun ls hl => ?_)
            refine rv_iinc (k := 7) (lv' := [(6, .int (iI ((i : Int) + 1))), (5, .int (iI (cnC (pv v p 0) (pv v p 1) (pv v p 2) sh d i + 1))), (7, .int (iI (Int.tmod (dpt (pv v p 0) (pv v p 1) (pv v p 2) ((i : Int) + sh) - dpt (pv v p 0) (pv v p 1) (pv v p 2) (i : Int)) (pv v p 1)))), (0, .ref o), (1, .int (iI p)), (2, .int (iI sh)), (3, .int (iI d)), (4, .int (iI (pv v p 1)))]) hx hb dX7_countOf_79 hl rfl (by decide) rfl (fun ls hl => ?_)
            refine lv_goto (tgt := 18) hx hb dX7_countOf_82 (by decide) ?_
            exact ih18 (i + 1) (by omega) (by omega) _ _ (by simp only [cnC]; first | rw [if_pos (by omega)] | rw [if_neg (by omega)]) (by omega) ls (lv_sub hl [3, 4, 5, 6, 7, 1, 0] rfl)
  exact loop18 (_ + 1) 0 (by omega) (Nat.lt_succ_self _) _ _ rfl rfl ls (lv_sub hl [3, 4, 5, 6, 2, 1, 0] rfl)

abbrev rm_X7_even : Room := { frames := 3, cells := 0, slots := 0, locals := 77 }
set_option maxHeartbeats 4000000 in
set_option maxRecDepth 100000 in
/-- even -/
theorem c_X7_even (l : Launch) (D : va_G) (cs : Nat → ClassId) (o : Nat) (b : Nat) (fs : List Value) (v : Nat → Int) (p : Int) (hp : 0 ≤ p ∧ p < v 20) : Met l yX7_even (Cond.code yX7_even cX7_even 7 (some .int) :: TB) rm_X7_even (va_Pc [.ref o, .int (iI p)] (fun U => KA D cs U ∧ ModAt D cs U.heap o b fs v)) (vp_Si (fun r => r = iI (evenS (pv v p 0) (pv v p 1) (pv v p 2)))) 0 0 (fun _ => False) := by
  refine enter (cc := cX7_even) (maxL := 7) (ret := (some .int)) (by decide) (Nat.le_of_ble_eq_true rfl) ?_
  intro pg ev s m below meth c Q ls hx hb hml hown hts hr hlocks hnm ⟨hK, hmod⟩ hl hQ
  have ht : ∀ w ∈ TB, w.before _ s = true := fun w h => hts w (List.mem_cons_of_mem _ h)
  have hl : lv_has ls 7 [(0, .ref o), (1, .int (iI p))] := hl
  obtain ⟨hPm, hf3, hvL⟩ := id hmod
  obtain ⟨hv20, hv21, hv22, hv23, hvp⟩ := id hvL
  obtain ⟨hvk, hvn, hvf, hvo, hvw⟩ := vL_p hvL hp
  have hnb := isPr_bd hvn
  have hpb := per_bd (k := pv v p 0) hvn
  have hfb := fOK_bd hvk hvn hvf
  refine rv_sipush hx hb dX7_even_0 (by decide) ?_
  refine lv_istore_n (lv' := [(2, .int (iI 1000)), (0, .ref o), (1, .int (iI p))]) hx hb dX7_even_3 rfl hl (by decide) rfl (fun ls hl => ?_)
  refine rv_iconst hx hb dX7_even_4 ?_
  refine lv_istore_n (lv' := [(3, .int (iI 0)), (2, .int (iI 1000)), (0, .ref o), (1, .int (iI p))]) hx hb dX7_even_5 rfl hl (by decide) rfl (fun ls hl => ?_)
  refine rv_iconst hx hb dX7_even_6 ?_
  refine lv_istore (lv' := [(4, .int (iI 1)), (3, .int (iI 0)), (2, .int (iI 1000)), (0, .ref o), (1, .int (iI p))]) hx hb dX7_even_7 hl (by decide) rfl (fun ls hl => ?_)
  have loop9 : ∀ (fuel9 : Nat) (j : Nat), ((j : Int) + 1 ≤ per (pv v p 0) (pv v p 1)) → (per (pv v p 0) (pv v p 1) - (j : Int)).toNat < fuel9 → ∀ (x2 x3 x4 : Int), x2 = evNO (pv v p 0) (pv v p 1) (pv v p 2) 1000 j → x3 = evXO (pv v p 0) (pv v p 1) (pv v p 2) j → x4 = ((j : Int) + 1) → ∀ ls : Array Slot, lv_has ls 7 [(0, .ref o), (1, .int (iI p)), (2, .int (iI x2)), (3, .int (iI x3)), (4, .int (iI x4))] → W pg l ev rm_X7_even s m [.ref o, .int (iI p)].toArray below meth c s.heap [] 0 0 Q (F0 m 9 ls []) := by
    intro fuel9
    induction fuel9 with
    | zero => intro j hj hfuel9; exact absurd hfuel9 (Nat.not_lt_zero _)
    | succ fuel9 ih9 =>
      intro j hj hfuel9 x2 x3 x4 ex2 ex3 ex4 ls hl
      subst ex2 ex3 ex4
      have hbn := evNO_bd (k := pv v p 0) (f := pv v p 2) (a := 1000) hvn (by decide) j
      have hbx := evXO_bd (k := pv v p 0) (f := pv v p 2) hvn j
      refine lv_iload hx hb dX7_even_9 (lv_at hl 4 rfl) ?_
      refine lv_aload_n hx hb dX7_even_11 rfl (lv_at hl 0 rfl) ?_
      refine lv_iload_n hx hb dX7_even_12 rfl (lv_at hl 1 rfl) ?_
      refine vp_callSi (W.runV (As := [.int (iI p)]) (rest := [.int (iI ((j : Int) + 1))]) ⟨hx, hb, hml, hown, hts⟩ (c_X7_period l D cs o b fs v p hp) (cwV 1 hts (gV tb_752 tb_754 tbs_25 tb_8 tb_755) rfl rfl rfl (by decide +kernel) ⟨Nat.le_of_ble_eq_true rfl, Nat.le_of_ble_eq_true rfl⟩) (preV_mod hK hmod) rfl rfl hl.1 rfl (lv_room (Nat.le_of_ble_eq_true rfl)) dX7_even_13 ⟨Nat.le_of_ble_eq_true rfl, Nat.le_of_ble_eq_true rfl⟩) (fun r9 hr9 => ?_)
      obtain ⟨rfl, hx13_0⟩ := hr9
      refine rv_icmp_ge (tgt := 86) hx hb dX7_even_16 (by decide) (by omega) (fun h16 => ?_) (fun h16 => ?_)
      · refine lv_iload_n hx hb dX7_even_86 rfl (lv_at hl 3 rfl) ?_
        refine lv_iload_n hx hb dX7_even_87 rfl (lv_at hl 2 rfl) ?_
        refine rv_isub hx hb dX7_even_88 ?_
        subst hQ
        exact W.iret hx hb hr (fun t9 ht9 hW9 => ⟨_, rfl, by rw [evenS, show (per (pv v p 0) (pv v p 1) - 1).toNat = j by omega], ht9⟩) (fun _ h => absurd h List.not_mem_nil) dX7_even_89
      · refine rv_iconst hx hb dX7_even_19 ?_
        refine lv_istore (lv' := [(5, .int (iI 0)), (0, .ref o), (1, .int (iI p)), (2, .int (iI (evNO (pv v p 0) (pv v p 1) (pv v p 2) 1000 j))), (3, .int (iI (evXO (pv v p 0) (pv v p 1) (pv v p 2) j))), (4, .int (iI ((j : Int) + 1)))]) hx hb dX7_even_20 hl (by decide) rfl (fun ls hl => ?_)
        have loop22 : ∀ (fuel22 : Nat) (d : Nat), ((d : Int) ≤ pv v p 1) → (pv v p 1 - (d : Int)).toNat < fuel22 → ∀ (x2 x3 x4 x5 : Int), x2 = evN (pv v p 0) (pv v p 1) (pv v p 2) ((j : Int) + 1) (evNO (pv v p 0) (pv v p 1) (pv v p 2) 1000 j) d → x3 = evX (pv v p 0) (pv v p 1) (pv v p 2) ((j : Int) + 1) (evXO (pv v p 0) (pv v p 1) (pv v p 2) j) d → x4 = ((j : Int) + 1) → x5 = (d : Int) → ∀ ls : Array Slot, lv_has ls 7 [(0, .ref o), (1, .int (iI p)), (2, .int (iI x2)), (3, .int (iI x3)), (4, .int (iI x4)), (5, .int (iI x5))] → W pg l ev rm_X7_even s m [.ref o, .int (iI p)].toArray below meth c s.heap [] 0 0 Q (F0 m 22 ls []) := by
          intro fuel22
          induction fuel22 with
          | zero => intro d hd hfuel22; exact absurd hfuel22 (Nat.not_lt_zero _)
          | succ fuel22 ih22 =>
            intro d hd hfuel22 x2 x3 x4 x5 ex2 ex3 ex4 ex5 ls hl
            subst ex2 ex3 ex4 ex5
            have hbn2 := evN_bd (k := pv v p 0) (f := pv v p 2) (sh := (j : Int) + 1) hvn hbn d
            have hbx2 := evX_bd (k := pv v p 0) (f := pv v p 2) (sh := (j : Int) + 1) hvn hbx d
            refine lv_iload hx hb dX7_even_22 (lv_at hl 5 rfl) ?_
            refine lv_aload_n hx hb dX7_even_24 rfl (lv_at hl 0 rfl) ?_
            refine va_get (D := D) (ci := 6) (v := .ref b) (C := RX7) (T := TX7) (N := 16) hx hb ht inTB_X7 hown hK hPm 0 rfl rfl 3 (by decide) (ht _ tb_591) (fun _ h9 => h9) hf3 dX7_even_25 ?_
            refine rv_iconst hx hb dX7_even_28 ?_
            refine lv_iload_n hx hb dX7_even_29 rfl (lv_at hl 1 rfl) ?_
            refine rv_imul hx hb dX7_even_30 ?_
            refine rv_iconst hx hb dX7_even_31 ?_
            refine rv_iadd hx hb dX7_even_32 ?_
            refine rv_iald hx hb hK hPm 1 0 rfl rfl (5 * p.toNat + 1) (by omega) (by omega) dX7_even_33 ?_
            refine rv_top (y := pv v p 1) rfl ?_
            refine rv_icmp_ge (tgt := 80) hx hb dX7_even_34 (by decide) (by omega) (fun h34 => ?_) (fun h34 => ?_)
            · refine rv_iinc (k := 4) (lv' := [(4, .int (iI (((j : Int) + 1) + 1))), (0, .ref o), (1, .int (iI p)), (2, .int (iI (evN (pv v p 0) (pv v p 1) (pv v p 2) ((j : Int) + 1) (evNO (pv v p 0) (pv v p 1) (pv v p 2) 1000 j) d))), (3, .int (iI (evX (pv v p 0) (pv v p 1) (pv v p 2) ((j : Int) + 1) (evXO (pv v p 0) (pv v p 1) (pv v p 2) j) d))), (5, .int (iI (d : Int)))]) hx hb dX7_even_80 hl rfl (by decide) rfl (fun ls hl => ?_)
              refine lv_goto (tgt := 9) hx hb dX7_even_83 (by decide) ?_
              exact ih9 (j + 1) (by omega) (by omega) _ _ _ (by rw [evNO, show (pv v p 1).toNat = d by omega]) (by rw [evXO, show (pv v p 1).toNat = d by omega]) (by omega) ls (lv_sub hl [1, 2, 3, 4, 0] rfl)
            · refine lv_aload_n hx hb dX7_even_37 rfl (lv_at hl 0 rfl) ?_
              refine lv_iload_n hx hb dX7_even_38 rfl (lv_at hl 1 rfl) ?_
              refine lv_iload hx hb dX7_even_39 (lv_at hl 4 rfl) ?_
              refine lv_iload hx hb dX7_even_41 (lv_at hl 5 rfl) ?_
              refine vp_callSi (W.runV (As := [.int (iI p), .int (iI ((j : Int) + 1)), .int (iI (d : Int))]) (rest := []) ⟨hx, hb, hml, hown, hts⟩ (c_X7_countOf l D cs o b fs v p ((j : Int) + 1) (d : Int) hp (by omega) (by omega)) (cwV 3 hts (gV tb_760 tb_762 tbs_26 tb_8 tb_763) rfl rfl rfl (by decide +kernel) ⟨Nat.le_of_ble_eq_true rfl, Nat.le_of_ble_eq_true rfl⟩) (preV_mod hK hmod) rfl rfl hl.1 rfl (lv_room (Nat.le_of_ble_eq_true rfl)) dX7_even_43 ⟨Nat.le_of_ble_eq_true rfl, Nat.le_of_ble_eq_true rfl⟩) (fun r9 hr9 => ?_)
              obtain ⟨rfl, hx43_0⟩ := hr9
              refine lv_istore (lv' := [(6, .int (iI (cnC (pv v p 0) (pv v p 1) (pv v p 2) ((j : Int) + 1) (d : Int) (per (pv v p 0) (pv v p 1)).toNat))), (0, .ref o), (1, .int (iI p)), (2, .int (iI (evN (pv v p 0) (pv v p 1) (pv v p 2) ((j : Int) + 1) (evNO (pv v p 0) (pv v p 1) (pv v p 2) 1000 j) d))), (3, .int (iI (evX (pv v p 0) (pv v p 1) (pv v p 2) ((j : Int) + 1) (evXO (pv v p 0) (pv v p 1) (pv v p 2) j) d))), (4, .int (iI ((j : Int) + 1))), (5, .int (iI (d : Int)))]) hx hb dX7_even_46 hl (by decide) rfl (fun ls hl => ?_)
              refine lv_iload hx hb dX7_even_48 (lv_at hl 0 rfl) ?_
              refine lv_iload_n hx hb dX7_even_50 rfl (lv_at hl 3 rfl) ?_
              refine rv_icmp_ge (tgt := 59) hx hb dX7_even_51 (by decide) (by omega) (fun h51 => ?_) (fun h51 => ?_)
              · refine lv_iload_n hx hb dX7_even_59 rfl (lv_at hl 3 rfl) ?_
                refine lv_istore_n (lv' := [(2, .int (iI (evN (pv v p 0) (pv v p 1) (pv v p 2) ((j : Int) + 1) (evNO (pv v p 0) (pv v p 1) (pv v p 2) 1000 j) d))), (6, .int (iI (cnC (pv v p 0) (pv v p 1) (pv v p 2) ((j : Int) + 1) (d : Int) (per (pv v p 0) (pv v p 1)).toNat))), (0, .ref o), (1, .int (iI p)), (3, .int (iI (evX (pv v p 0) (pv v p 1) (pv v p 2) ((j : Int) + 1) (evXO (pv v p 0) (pv v p 1) (pv v p 2) j) d))), (4, .int (iI ((j : Int) + 1))), (5, .int (iI (d : Int)))]) hx hb dX7_even_60 rfl hl (by decide) rfl (fun ls hl => ?_)
                refine lv_iload hx hb dX7_even_61 (lv_at hl 1 rfl) ?_
                refine lv_iload_n hx hb dX7_even_63 rfl (lv_at hl 4 rfl) ?_
                refine rv_icmp_le (tgt := 72) hx hb dX7_even_64 (by decide) (by omega) (fun h64 => ?_) (fun h64 => ?_)
                · refine lv_iload_n hx hb dX7_even_72 rfl (lv_at hl 4 rfl) ?_
                  refine lv_istore_n (lv' := [(3, .int (iI (evX (pv v p 0) (pv v p 1) (pv v p 2) ((j : Int) + 1) (evXO (pv v p 0) (pv v p 1) (pv v p 2) j) d))), (2, .int (iI (evN (pv v p 0) (pv v p 1) (pv v p 2) ((j : Int) + 1) (evNO (pv v p 0) (pv v p 1) (pv v p 2) 1000 j) d))), (6, .int (iI (cnC (pv v p 0) (pv v p 1) (pv v p 2) ((j : Int) + 1) (d : Int) (per (pv v p 0) (pv v p 1)).toNat))), (0, .ref o), (1, .int (iI p)), (4, .int (iI ((j : Int) + 1))), (5, .int (iI (d : Int)))]) hx hb dX7_even_73 rfl hl (by decide) rfl (fun ls hl => ?_)
                  refine rv_iinc (k := 6) (lv' := [(5, .int (iI ((d : Int) + 1))), (3, .int (iI (evX (pv v p 0) (pv v p 1) (pv v p 2) ((j : Int) + 1) (evXO (pv v p 0) (pv v p 1) (pv v p 2) j) d))), (2, .int (iI (evN (pv v p 0) (pv v p 1) (pv v p 2) ((j : Int) + 1) (evNO (pv v p 0) (pv v p 1) (pv v p 2) 1000 j) d))), (6, .int (iI (cnC (pv v p 0) (pv v p 1) (pv v p 2) ((j : Int) + 1) (d : Int) (per (pv v p 0) (pv v p 1)).toNat))), (0, .ref o), (1, .int (iI p)), (4, .int (iI ((j : Int) + 1)))]) hx hb dX7_even_74 hl rfl (by decide) rfl (fun ls hl => ?_)
                  refine lv_goto (tgt := 22) hx hb dX7_even_77 (by decide) ?_
                  exact ih22 (d + 1) (by omega) (by omega) _ _ _ _ (by simp only [evN, mnI]; first | rw [if_pos (by omega)] | rw [if_neg (by omega)]) (by simp only [evX, mxI]; first | rw [if_pos (by omega)] | rw [if_neg (by omega)]) rfl (by omega) ls (lv_sub hl [4, 5, 2, 1, 6, 0] rfl)
                · refine lv_iload hx hb dX7_even_67 (lv_at hl 1 rfl) ?_
                  refine lv_goto (tgt := 73) hx hb dX7_even_69 (by decide) ?_
                  refine lv_istore_n (lv' := [(3, .int (iI (cnC (pv v p 0) (pv v p 1) (pv v p 2) ((j : Int) + 1) (d : Int) (per (pv v p 0) (pv v p 1)).toNat))), (2, .int (iI (evN (pv v p 0) (pv v p 1) (pv v p 2) ((j : Int) + 1) (evNO (pv v p 0) (pv v p 1) (pv v p 2) 1000 j) d))), (6, .int (iI (cnC (pv v p 0) (pv v p 1) (pv v p 2) ((j : Int) + 1) (d : Int) (per (pv v p 0) (pv v p 1)).toNat))), (0, .ref o), (1, .int (iI p)), (4, .int (iI ((j : Int) + 1))), (5, .int (iI (d : Int)))]) hx hb dX7_even_73 rfl hl (by decide) rfl (fun ls hl => ?_)
                  refine rv_iinc (k := 6) (lv' := [(5, .int (iI ((d : Int) + 1))), (3, .int (iI (cnC (pv v p 0) (pv v p 1) (pv v p 2) ((j : Int) + 1) (d : Int) (per (pv v p 0) (pv v p 1)).toNat))), (2, .int (iI (evN (pv v p 0) (pv v p 1) (pv v p 2) ((j : Int) + 1) (evNO (pv v p 0) (pv v p 1) (pv v p 2) 1000 j) d))), (6, .int (iI (cnC (pv v p 0) (pv v p 1) (pv v p 2) ((j : Int) + 1) (d : Int) (per (pv v p 0) (pv v p 1)).toNat))), (0, .ref o), (1, .int (iI p)), (4, .int (iI ((j : Int) + 1)))]) hx hb dX7_even_74 hl rfl (by decide) rfl (fun ls hl => ?_)
                  refine lv_goto (tgt := 22) hx hb dX7_even_77 (by decide) ?_
                  exact ih22 (d + 1) (by omega) (by omega) _ _ _ _ (by simp only [evN, mnI]; first | rw [if_pos (by omega)] | rw [if_neg (by omega)]) (by simp only [evX, mxI]; first | rw [if_pos (by omega)] | rw [if_neg (by omega)]) rfl (by omega) ls (lv_sub hl [4, 5, 2, 1, 6, 0] rfl)
              · refine lv_iload hx hb dX7_even_54 (lv_at hl 0 rfl) ?_
                refine lv_goto (tgt := 60) hx hb dX7_even_56 (by decide) ?_
                refine lv_istore_n (lv' := [(2, .int (iI (cnC (pv v p 0) (pv v p 1) (pv v p 2) ((j : Int) + 1) (d : Int) (per (pv v p 0) (pv v p 1)).toNat))), (6, .int (iI (cnC (pv v p 0) (pv v p 1) (pv v p 2) ((j : Int) + 1) (d : Int) (per (pv v p 0) (pv v p 1)).toNat))), (0, .ref o), (1, .int (iI p)), (3, .int (iI (evX (pv v p 0) (pv v p 1) (pv v p 2) ((j : Int) + 1) (evXO (pv v p 0) (pv v p 1) (pv v p 2) j) d))), (4, .int (iI ((j : Int) + 1))), (5, .int (iI (d : Int)))]) hx hb dX7_even_60 rfl hl (by decide) rfl (fun ls hl => ?_)
                refine lv_iload hx hb dX7_even_61 (lv_at hl 1 rfl) ?_
                refine lv_iload_n hx hb dX7_even_63 rfl (lv_at hl 4 rfl) ?_
                refine rv_icmp_le (tgt := 72) hx hb dX7_even_64 (by decide) (by omega) (fun h64 => ?_) (fun h64 => ?_)
                · refine lv_iload_n hx hb dX7_even_72 rfl (lv_at hl 4 rfl) ?_
                  refine lv_istore_n (lv' := [(3, .int (iI (evX (pv v p 0) (pv v p 1) (pv v p 2) ((j : Int) + 1) (evXO (pv v p 0) (pv v p 1) (pv v p 2) j) d))), (2, .int (iI (cnC (pv v p 0) (pv v p 1) (pv v p 2) ((j : Int) + 1) (d : Int) (per (pv v p 0) (pv v p 1)).toNat))), (6, .int (iI (cnC (pv v p 0) (pv v p 1) (pv v p 2) ((j : Int) + 1) (d : Int) (per (pv v p 0) (pv v p 1)).toNat))), (0, .ref o), (1, .int (iI p)), (4, .int (iI ((j : Int) + 1))), (5, .int (iI (d : Int)))]) hx hb dX7_even_73 rfl hl (by decide) rfl (fun ls hl => ?_)
                  refine rv_iinc (k := 6) (lv' := [(5, .int (iI ((d : Int) + 1))), (3, .int (iI (evX (pv v p 0) (pv v p 1) (pv v p 2) ((j : Int) + 1) (evXO (pv v p 0) (pv v p 1) (pv v p 2) j) d))), (2, .int (iI (cnC (pv v p 0) (pv v p 1) (pv v p 2) ((j : Int) + 1) (d : Int) (per (pv v p 0) (pv v p 1)).toNat))), (6, .int (iI (cnC (pv v p 0) (pv v p 1) (pv v p 2) ((j : Int) + 1) (d : Int) (per (pv v p 0) (pv v p 1)).toNat))), (0, .ref o), (1, .int (iI p)), (4, .int (iI ((j : Int) + 1)))]) hx hb dX7_even_74 hl rfl (by decide) rfl (fun ls hl => ?_)
                  refine lv_goto (tgt := 22) hx hb dX7_even_77 (by decide) ?_
                  exact ih22 (d + 1) (by omega) (by omega) _ _ _ _ (by simp only [evN, mnI]; first | rw [if_pos (by omega)] | rw [if_neg (by omega)]) (by simp only [evX, mxI]; first | rw [if_pos (by omega)] | rw [if_neg (by omega)]) rfl (by omega) ls (lv_sub hl [4, 5, 2, 1, 6, 0] rfl)
                · refine lv_iload hx hb dX7_even_67 (lv_at hl 1 rfl) ?_
                  refine lv_goto (tgt := 73) hx hb dX7_even_69 (by decide) ?_
                  refine lv_istore_n (lv' := [(3, .int (iI (cnC (pv v p 0) (pv v p 1) (pv v p 2) ((j : Int) + 1) (d : Int) (per (pv v p 0) (pv v p 1)).toNat))), (2, .int (iI (cnC (pv v p 0) (pv v p 1) (pv v p 2) ((j : Int) + 1) (d : Int) (per (pv v p 0) (pv v p 1)).toNat))), (6, .int (iI (cnC (pv v p 0) (pv v p 1) (pv v p 2) ((j : Int) + 1) (d : Int) (per (pv v p 0) (pv v p 1)).toNat))), (0, .ref o), (1, .int (iI p)), (4, .int (iI ((j : Int) + 1))), (5, .int (iI (d : Int)))]) hx hb dX7_even_73 rfl hl (by decide) rfl (fun ls hl => ?_)
                  refine rv_iinc (k := 6) (lv' := [(5, .int (iI ((d : Int) + 1))), (3, .int (iI (cnC (pv v p 0) (pv v p 1) (pv v p 2) ((j : Int) + 1) (d : Int) (per (pv v p 0) (pv v p 1)).toNat))), (2, .int (iI (cnC (pv v p 0) (pv v p 1) (pv v p 2) ((j : Int) + 1) (d : Int) (per (pv v p 0) (pv v p 1)).toNat))), (6, .int (iI (cnC (pv v p 0) (pv v p 1) (pv v p 2) ((j : Int) + 1) (d : Int) (per (pv v p 0) (pv v p 1)).toNat))), (0, .ref o), (1, .int (iI p)), (4, .int (iI ((j : Int) + 1)))]) hx hb dX7_even_74 hl rfl (by decide) rfl (fun ls hl => ?_)
                  refine lv_goto (tgt := 22) hx hb dX7_even_77 (by decide) ?_
                  exact ih22 (d + 1) (by omega) (by omega) _ _ _ _ (by simp only [evN, mnI]; first | rw [if_pos (by omega)] | rw [if_neg (by omega)]) (by simp only [evX, mxI]; first | rw [if_pos (by omega)] | rw [if_neg (by omega)]) rfl (by omega) ls (lv_sub hl [4, 5, 2, 1, 6, 0] rfl)
        exact loop22 (_ + 1) 0 (by omega) (Nat.lt_succ_self _) _ _ _ _ rfl rfl rfl rfl ls (lv_sub hl [1, 2, 3, 4, 5, 0] rfl)
  exact loop9 (_ + 1) 0 (by omega) (Nat.lt_succ_self _) _ _ _ rfl rfl rfl ls (lv_sub hl [3, 4, 2, 1, 0] rfl)

abbrev rm_X7_sumOf : Room := { frames := 3, cells := 0, slots := 0, locals := 72 }
set_option maxHeartbeats 4000000 in
set_option maxRecDepth 100000 in
/-- sumOf -/
theorem c_X7_sumOf (l : Launch) (D : va_G) (cs : Nat → ClassId) (o : Nat) (b : Nat) (fs : List Value) (v : Nat → Int) (p : Int) (what : Int) (hp : 0 ≤ p ∧ p < v 20) (hw : 6 ≤ what ∧ what ≤ 9) : Met l yX7_sumOf (Cond.code yX7_sumOf cX7_sumOf 10 (some .int) :: TB) rm_X7_sumOf (va_Pc [.ref o, .int (iI p), .int (iI what)] (fun U => KA D cs U ∧ ModAt D cs U.heap o b fs v)) (vp_Si (fun r => r = iI (aSum v p what))) 0 0 (fun _ => False) := by
  refine enter (cc := cX7_sumOf) (maxL := 10) (ret := (some .int)) (by decide) (Nat.le_of_ble_eq_true rfl) ?_
  intro pg ev s m below meth c Q ls hx hb hml hown hts hr hlocks hnm ⟨hK, hmod⟩ hl hQ
  have ht : ∀ w ∈ TB, w.before _ s = true := fun w h => hts w (List.mem_cons_of_mem _ h)
  have hl : lv_has ls 10 [(0, .ref o), (1, .int (iI p)), (2, .int (iI what))] := hl
  obtain ⟨hPm, hf3, hvL⟩ := id hmod
  obtain ⟨hv20, hv21, hv22, hv23, hvp⟩ := id hvL
  obtain ⟨hvk, hvn, hvf, hvo, hvw⟩ := vL_p hvL hp
  have hnb := isPr_bd hvn
  have hpb := per_bd (k := pv v p 0) hvn
  have hfb := fOK_bd hvk hvn hvf
  refine lv_aload_n hx hb dX7_sumOf_0 rfl (lv_at hl 0 rfl) ?_
  refine va_get (D := D) (ci := 6) (v := .ref b) (C := RX7) (T := TX7) (N := 16) hx hb ht inTB_X7 hown hK hPm 0 rfl rfl 3 (by decide) (ht _ tb_591) (fun _ h9 => h9) hf3 dX7_sumOf_1 ?_
  refine rv_iconst hx hb dX7_sumOf_4 ?_
  refine lv_iload_n hx hb dX7_sumOf_5 rfl (lv_at hl 1 rfl) ?_
  refine rv_imul hx hb dX7_sumOf_6 ?_
  refine rv_iconst hx hb dX7_sumOf_7 ?_
  refine rv_iadd hx hb dX7_sumOf_8 ?_
  refine rv_iald hx hb hK hPm 1 0 rfl rfl (5 * p.toNat + 4) (by omega) (by omega) dX7_sumOf_9 ?_
  refine rv_top (y := pv v p 4) rfl ?_
  refine lv_istore_n (lv' := [(3, .int (iI (pv v p 4))), (0, .ref o), (1, .int (iI p)), (2, .int (iI what))]) hx hb dX7_sumOf_10 rfl hl (by decide) rfl (fun ls hl => ?_)
  refine rv_iconst hx hb dX7_sumOf_11 ?_
  refine lv_istore (lv' := [(4, .int (iI 0)), (3, .int (iI (pv v p 4))), (0, .ref o), (1, .int (iI p)), (2, .int (iI what))]) hx hb dX7_sumOf_12 hl (by decide) rfl (fun ls hl => ?_)
  refine rv_iconst hx hb dX7_sumOf_14 ?_
  refine lv_istore (lv' := [(5, .int (iI 0)), (4, .int (iI 0)), (3, .int (iI (pv v p 4))), (0, .ref o), (1, .int (iI p)), (2, .int (iI what))]) hx hb dX7_sumOf_15 hl (by decide) rfl (fun ls hl => ?_)
  refine rv_iconst hx hb dX7_sumOf_17 ?_
  refine lv_istore (lv' := [(6, .int (iI 0)), (5, .int (iI 0)), (4, .int (iI 0)), (3, .int (iI (pv v p 4))), (0, .ref o), (1, .int (iI p)), (2, .int (iI what))]) hx hb dX7_sumOf_18 hl (by decide) rfl (fun ls hl => ?_)
  refine rv_iconst hx hb dX7_sumOf_20 ?_
  refine lv_istore (lv' := [(7, .int (iI 1)), (6, .int (iI 0)), (5, .int (iI 0)), (4, .int (iI 0)), (3, .int (iI (pv v p 4))), (0, .ref o), (1, .int (iI p)), (2, .int (iI what))]) hx hb dX7_sumOf_21 hl (by decide) rfl (fun ls hl => ?_)
  refine rv_iconst hx hb dX7_sumOf_23 ?_
  refine lv_istore (lv' := [(8, .int (iI 0)), (7, .int (iI 1)), (6, .int (iI 0)), (5, .int (iI 0)), (4, .int (iI 0)), (3, .int (iI (pv v p 4))), (0, .ref o), (1, .int (iI p)), (2, .int (iI what))]) hx hb dX7_sumOf_24 hl (by decide) rfl (fun ls hl => ?_)
  have loop26 : ∀ (fuel26 : Nat) (i : Nat), ((i : Int) ≤ pv v p 4) → (pv v p 4 - (i : Int)).toNat < fuel26 → ∀ (x4 x5 x6 x7 x8 : Int), x4 = mxW (pv v p 0) (pv v p 1) (pv v p 2) (pv v p 3) i → x5 = smW (pv v p 0) (pv v p 1) (pv v p 2) (pv v p 3) i → x6 = bsW (pv v p 0) (pv v p 1) (pv v p 2) (pv v p 3) i → x7 = miW (pv v p 0) (pv v p 1) (pv v p 2) (pv v p 3) (pv v p 4) i → x8 = (i : Int) → ∀ ls : Array Slot, lv_has ls 10 [(0, .ref o), (1, .int (iI p)), (2, .int (iI what)), (3, .int (iI (pv v p 4))), (4, .int (iI x4)), (5, .int (iI x5)), (6, .int (iI x6)), (7, .int (iI x7)), (8, .int (iI x8))] → W pg l ev rm_X7_sumOf s m [.ref o, .int (iI p), .int (iI what)].toArray below meth c s.heap [] 0 0 Q (F0 m 26 ls []) := by
    intro fuel26
    induction fuel26 with
    | zero => intro i hi hfuel26; exact absurd hfuel26 (Nat.not_lt_zero _)
    | succ fuel26 ih26 =>
      intro i hi hfuel26 x4 x5 x6 x7 x8 ex4 ex5 ex6 ex7 ex8 ls hl
      subst ex4 ex5 ex6 ex7 ex8
      have hmx := mxW_bd (o := pv v p 3) hvk hvn hvf i
      have hsm := smW_bd (o := pv v p 3) hvk hvn hvf i
      have hmi := miW_01 (pv v p 0) (pv v p 1) (pv v p 2) (pv v p 3) (pv v p 4) i
      refine lv_iload hx hb dX7_sumOf_26 (lv_at hl 8 rfl) ?_
      refine lv_iload_n hx hb dX7_sumOf_28 rfl (lv_at hl 3 rfl) ?_
      refine rv_icmp_ge (tgt := 107) hx hb dX7_sumOf_29 (by decide) (by omega) (fun h29 => ?_) (fun h29 => ?_)
      · refine rv_iconst hx hb dX7_sumOf_107 ?_
        refine lv_istore (lv' := [(8, .int (iI 0)), (0, .ref o), (1, .int (iI p)), (2, .int (iI what)), (3, .int (iI (pv v p 4))), (4, .int (iI (mxW (pv v p 0) (pv v p 1) (pv v p 2) (pv v p 3) i))), (5, .int (iI (smW (pv v p 0) (pv v p 1) (pv v p 2) (pv v p 3) i))), (6, .int (iI (bsW (pv v p 0) (pv v p 1) (pv v p 2) (pv v p 3) i))), (7, .int (iI (miW (pv v p 0) (pv v p 1) (pv v p 2) (pv v p 3) (pv v p 4) i)))]) hx hb dX7_sumOf_108 hl (by decide) rfl (fun ls hl => ?_)
        refine rv_iconst hx hb dX7_sumOf_110 ?_
        refine lv_istore (lv' := [(9, .int (iI 0)), (8, .int (iI 0)), (0, .ref o), (1, .int (iI p)), (2, .int (iI what)), (3, .int (iI (pv v p 4))), (4, .int (iI (mxW (pv v p 0) (pv v p 1) (pv v p 2) (pv v p 3) i))), (5, .int (iI (smW (pv v p 0) (pv v p 1) (pv v p 2) (pv v p 3) i))), (6, .int (iI (bsW (pv v p 0) (pv v p 1) (pv v p 2) (pv v p 3) i))), (7, .int (iI (miW (pv v p 0) (pv v p 1) (pv v p 2) (pv v p 3) (pv v p 4) i)))]) hx hb dX7_sumOf_111 hl (by decide) rfl (fun ls hl => ?_)
        have hwi : (pv v p 4).toNat = i := by omega
        have loop113 : ∀ (fuel113 : Nat) (u : Nat), (u ≤ 31) → 31 - u < fuel113 → ∀ (x8 x9 : Int), x8 = bcM (bsW (pv v p 0) (pv v p 1) (pv v p 2) (pv v p 3) i) u → x9 = (u : Int) → ∀ ls : Array Slot, lv_has ls 10 [(0, .ref o), (1, .int (iI p)), (2, .int (iI what)), (4, .int (iI (mxW (pv v p 0) (pv v p 1) (pv v p 2) (pv v p 3) i))), (5, .int (iI (smW (pv v p 0) (pv v p 1) (pv v p 2) (pv v p 3) i))), (6, .int (iI (bsW (pv v p 0) (pv v p 1) (pv v p 2) (pv v p 3) i))), (7, .int (iI (miW (pv v p 0) (pv v p 1) (pv v p 2) (pv v p 3) (pv v p 4) i))), (8, .int (iI x8)), (9, .int (iI x9))] → W pg l ev rm_X7_sumOf s m [.ref o, .int (iI p), .int (iI what)].toArray below meth c s.heap [] 0 0 Q (F0 m 113 ls []) := by
          intro fuel113
          induction fuel113 with
          | zero => intro u hu hfuel113; exact absurd hfuel113 (Nat.not_lt_zero _)
          | succ fuel113 ih113 =>
            intro u hu hfuel113 x8 x9 ex8 ex9 ls hl
            subst ex8 ex9
            refine lv_iload hx hb dX7_sumOf_113 (lv_at hl 8 rfl) ?_
            refine rv_bipush hx hb dX7_sumOf_115 (by decide) ?_
            refine rv_icmp_ge (tgt := 138) hx hb dX7_sumOf_117 (by decide) (by omega) (fun h117 => ?_) (fun h117 => ?_)
            · refine lv_iload_n hx hb dX7_sumOf_138 rfl (lv_at hl 2 rfl) ?_
              refine rv_bipush hx hb dX7_sumOf_139 (by decide) ?_
              refine rv_icmp_ne (tgt := 149) hx hb dX7_sumOf_141 (by decide) (by omega) (fun h141 => ?_) (fun h141 => ?_)
              · refine lv_iload_n hx hb dX7_sumOf_149 rfl (lv_at hl 2 rfl) ?_
                refine rv_bipush hx hb dX7_sumOf_150 (by decide) ?_
                refine rv_icmp_ne (tgt := 160) hx hb dX7_sumOf_152 (by decide) (by omega) (fun h152 => ?_) (fun h152 => ?_)
                · refine lv_iload_n hx hb dX7_sumOf_160 rfl (lv_at hl 2 rfl) ?_
                  refine rv_bipush hx hb dX7_sumOf_161 (by decide) ?_
                  refine rv_icmp_ne (tgt := 171) hx hb dX7_sumOf_163 (by decide) (by omega) (fun h163 => ?_) (fun h163 => ?_)
                  · refine lv_iload hx hb dX7_sumOf_171 (lv_at hl 6 rfl) ?_
                    refine rv_if_eq (tgt := 180) hx hb dX7_sumOf_173 (by decide) (by omega) (fun h173 => ?_) (fun h173 => ?_)
                    · refine rv_iconst hx hb dX7_sumOf_180 ?_
                      subst hQ
                      exact W.iret hx hb hr (fun t9 ht9 hW9 => ⟨_, rfl, by rw [aSum, hwi]; rw [cif_neg (by omega), cif_neg (by omega), cif_neg (by omega), ← miW_mir (by omega), hwi]; exact congrArg iI (by omega), ht9⟩) (fun _ h => absurd h List.not_mem_nil) dX7_sumOf_181
                    · refine rv_iconst hx hb dX7_sumOf_176 ?_
                      refine lv_goto (tgt := 181) hx hb dX7_sumOf_177 (by decide) ?_
                      subst hQ
                      exact W.iret hx hb hr (fun t9 ht9 hW9 => ⟨_, rfl, by rw [aSum, hwi]; rw [cif_neg (by omega), cif_neg (by omega), cif_neg (by omega), ← miW_mir (by omega), hwi]; exact congrArg iI (by omega), ht9⟩) (fun _ h => absurd h List.not_mem_nil) dX7_sumOf_181
                  · refine lv_iload hx hb dX7_sumOf_166 (lv_at hl 7 rfl) ?_
                    refine lv_goto (tgt := 181) hx hb dX7_sumOf_168 (by decide) ?_
                    subst hQ
                    exact W.iret hx hb hr (fun t9 ht9 hW9 => ⟨_, rfl, by rw [aSum, hwi]; rw [cif_neg (by omega), cif_neg (by omega), cif_pos (by omega), show u = 31 by omega], ht9⟩) (fun _ h => absurd h List.not_mem_nil) dX7_sumOf_181
                · refine lv_iload hx hb dX7_sumOf_155 (lv_at hl 4 rfl) ?_
                  refine lv_goto (tgt := 181) hx hb dX7_sumOf_157 (by decide) ?_
                  subst hQ
                  exact W.iret hx hb hr (fun t9 ht9 hW9 => ⟨_, rfl, by rw [aSum, hwi]; rw [cif_neg (by omega), cif_pos (by omega)], ht9⟩) (fun _ h => absurd h List.not_mem_nil) dX7_sumOf_181
              · refine lv_iload hx hb dX7_sumOf_144 (lv_at hl 3 rfl) ?_
                refine lv_goto (tgt := 181) hx hb dX7_sumOf_146 (by decide) ?_
                subst hQ
                exact W.iret hx hb hr (fun t9 ht9 hW9 => ⟨_, rfl, by rw [aSum, hwi]; rw [cif_pos (by omega)], ht9⟩) (fun _ h => absurd h List.not_mem_nil) dX7_sumOf_181
            · refine lv_iload hx hb dX7_sumOf_120 (lv_at hl 7 rfl) ?_
              refine lv_iload hx hb dX7_sumOf_122 (lv_at hl 5 rfl) ?_
              refine lv_iload hx hb dX7_sumOf_124 (lv_at hl 8 rfl) ?_
              refine rv_ishr hx hb dX7_sumOf_126 ?_
              refine rv_iconst hx hb dX7_sumOf_127 ?_
              refine rv_iand hx hb dX7_sumOf_128 ?_
              refine rv_iadd hx hb dX7_sumOf_129 ?_
              refine lv_istore (lv' := [(8, .int (iI (bcM (bsW (pv v p 0) (pv v p 1) (pv v p 2) (pv v p 3) i) u + (andI (shrI (bsW (pv v p 0) (pv v p 1) (pv v p 2) (pv v p 3) i) (u : Int)) 1)))), (0, .ref o), (1, .int (iI p)), (2, .int (iI what)), (4, .int (iI (mxW (pv v p 0) (pv v p 1) (pv v p 2) (pv v p 3) i))), (5, .int (iI (smW (pv v p 0) (pv v p 1) (pv v p 2) (pv v p 3) i))), (6, .int (iI (bsW (pv v p 0) (pv v p 1) (pv v p 2) (pv v p 3) i))), (7, .int (iI (miW (pv v p 0) (pv v p 1) (pv v p 2) (pv v p 3) (pv v p 4) i))), (9, .int (iI (u : Int)))]) hx hb dX7_sumOf_130 hl (by decide) rfl (fun ls hl => ?_)
              refine rv_iinc (k := 8) (lv' := [(9, .int (iI ((u : Int) + 1))), (8, .int (iI (bcM (bsW (pv v p 0) (pv v p 1) (pv v p 2) (pv v p 3) i) u + (andI (shrI (bsW (pv v p 0) (pv v p 1) (pv v p 2) (pv v p 3) i) (u : Int)) 1)))), (0, .ref o), (1, .int (iI p)), (2, .int (iI what)), (4, .int (iI (mxW (pv v p 0) (pv v p 1) (pv v p 2) (pv v p 3) i))), (5, .int (iI (smW (pv v p 0) (pv v p 1) (pv v p 2) (pv v p 3) i))), (6, .int (iI (bsW (pv v p 0) (pv v p 1) (pv v p 2) (pv v p 3) i))), (7, .int (iI (miW (pv v p 0) (pv v p 1) (pv v p 2) (pv v p 3) (pv v p 4) i)))]) hx hb dX7_sumOf_132 hl rfl (by decide) rfl (fun ls hl => ?_)
              refine lv_goto (tgt := 113) hx hb dX7_sumOf_135 (by decide) ?_
              exact ih113 (u + 1) (by omega) (by omega) _ _ rfl (by omega) ls (lv_sub hl [2, 3, 4, 5, 6, 7, 8, 1, 0] rfl)
        exact loop113 (_ + 1) 0 (by omega) (Nat.lt_succ_self _) _ _ rfl rfl ls (lv_sub hl [2, 3, 4, 6, 7, 8, 9, 1, 0] rfl)
      · refine lv_aload_n hx hb dX7_sumOf_32 rfl (lv_at hl 0 rfl) ?_
        refine lv_iload_n hx hb dX7_sumOf_33 rfl (lv_at hl 1 rfl) ?_
        refine lv_iload hx hb dX7_sumOf_34 (lv_at hl 8 rfl) ?_
        refine vp_callSi (W.runV (As := [.int (iI p), .int (iI (i : Int))]) (rest := []) ⟨hx, hb, hml, hown, hts⟩ (c_X7_wellOf l D cs o b fs v p (i : Int) hp (by omega)) (cwV 2 hts (gV tb_744 tb_746 tbs_23 tb_8 tb_747) rfl rfl rfl (by decide +kernel) ⟨Nat.le_of_ble_eq_true rfl, Nat.le_of_ble_eq_true rfl⟩) (preV_mod hK hmod) rfl rfl hl.1 rfl (lv_room (Nat.le_of_ble_eq_true rfl)) dX7_sumOf_36 ⟨Nat.le_of_ble_eq_true rfl, Nat.le_of_ble_eq_true rfl⟩) (fun r9 hr9 => ?_)
        obtain ⟨rfl, hx36_0⟩ := hr9
        refine lv_istore (lv' := [(9, .int (iI (dpt (pv v p 0) (pv v p 1) (pv v p 2) ((i : Int) + pv v p 3)))), (0, .ref o), (1, .int (iI p)), (2, .int (iI what)), (3, .int (iI (pv v p 4))), (4, .int (iI (mxW (pv v p 0) (pv v p 1) (pv v p 2) (pv v p 3) i))), (5, .int (iI (smW (pv v p 0) (pv v p 1) (pv v p 2) (pv v p 3) i))), (6, .int (iI (bsW (pv v p 0) (pv v p 1) (pv v p 2) (pv v p 3) i))), (7, .int (iI (miW (pv v p 0) (pv v p 1) (pv v p 2) (pv v p 3) (pv v p 4) i))), (8, .int (iI (i : Int)))]) hx hb dX7_sumOf_39 hl (by decide) rfl (fun ls hl => ?_)
        refine lv_iload hx hb dX7_sumOf_41 (lv_at hl 0 rfl) ?_
        refine lv_iload hx hb dX7_sumOf_43 (lv_at hl 5 rfl) ?_
        refine rv_icmp_le (tgt := 53) hx hb dX7_sumOf_45 (by decide) (by omega) (fun h45 => ?_) (fun h45 => ?_)
        · refine lv_iload hx hb dX7_sumOf_53 (lv_at hl 5 rfl) ?_
          refine lv_istore (lv' := [(4, .int (iI (mxW (pv v p 0) (pv v p 1) (pv v p 2) (pv v p 3) i))), (9, .int (iI (dpt (pv v p 0) (pv v p 1) (pv v p 2) ((i : Int) + pv v p 3)))), (0, .ref o), (1, .int (iI p)), (2, .int (iI what)), (3, .int (iI (pv v p 4))), (5, .int (iI (smW (pv v p 0) (pv v p 1) (pv v p 2) (pv v p 3) i))), (6, .int (iI (bsW (pv v p 0) (pv v p 1) (pv v p 2) (pv v p 3) i))), (7, .int (iI (miW (pv v p 0) (pv v p 1) (pv v p 2) (pv v p 3) (pv v p 4) i))), (8, .int (iI (i : Int)))]) hx hb dX7_sumOf_55 hl (by decide) rfl (fun ls hl => ?_)
          refine lv_iload hx hb dX7_sumOf_57 (lv_at hl 6 rfl) ?_
          refine lv_iload hx hb dX7_sumOf_59 (lv_at hl 1 rfl) ?_
          refine rv_iadd hx hb dX7_sumOf_61 ?_
          refine lv_istore (lv' := [(5, .int (iI (smW (pv v p 0) (pv v p 1) (pv v p 2) (pv v p 3) i + dpt (pv v p 0) (pv v p 1) (pv v p 2) ((i : Int) + pv v p 3)))), (4, .int (iI (mxW (pv v p 0) (pv v p 1) (pv v p 2) (pv v p 3) i))), (9, .int (iI (dpt (pv v p 0) (pv v p 1) (pv v p 2) ((i : Int) + pv v p 3)))), (0, .ref o), (1, .int (iI p)), (2, .int (iI what)), (3, .int (iI (pv v p 4))), (6, .int (iI (bsW (pv v p 0) (pv v p 1) (pv v p 2) (pv v p 3) i))), (7, .int (iI (miW (pv v p 0) (pv v p 1) (pv v p 2) (pv v p 3) (pv v p 4) i))), (8, .int (iI (i : Int)))]) hx hb dX7_sumOf_62 hl (by decide) rfl (fun ls hl => ?_)
          refine lv_iload hx hb dX7_sumOf_64 (lv_at hl 7 rfl) ?_
          refine rv_iconst hx hb dX7_sumOf_66 ?_
          refine lv_iload hx hb dX7_sumOf_67 (lv_at hl 2 rfl) ?_
          refine rv_ishl hx hb dX7_sumOf_69 ?_
          refine rv_ior hx hb dX7_sumOf_70 ?_
          refine lv_istore (lv' := [(6, .int (iI (orI (bsW (pv v p 0) (pv v p 1) (pv v p 2) (pv v p 3) i) (shlI 1 (dpt (pv v p 0) (pv v p 1) (pv v p 2) ((i : Int) + pv v p 3)))))), (5, .int (iI (smW (pv v p 0) (pv v p 1) (pv v p 2) (pv v p 3) i + dpt (pv v p 0) (pv v p 1) (pv v p 2) ((i : Int) + pv v p 3)))), (4, .int (iI (mxW (pv v p 0) (pv v p 1) (pv v p 2) (pv v p 3) i))), (9, .int (iI (dpt (pv v p 0) (pv v p 1) (pv v p 2) ((i : Int) + pv v p 3)))), (0, .ref o), (1, .int (iI p)), (2, .int (iI what)), (3, .int (iI (pv v p 4))), (7, .int (iI (miW (pv v p 0) (pv v p 1) (pv v p 2) (pv v p 3) (pv v p 4) i))), (8, .int (iI (i : Int)))]) hx hb dX7_sumOf_71 hl (by decide) rfl (fun ls hl => ?_)
          refine lv_iload hx hb dX7_sumOf_73 (lv_at hl 8 rfl) ?_
          refine rv_if_eq (tgt := 98) hx hb dX7_sumOf_75 (by decide) (by omega) (fun h75 => ?_) (fun h75 => ?_)
          · refine rv_iconst hx hb dX7_sumOf_98 ?_
            refine lv_istore (lv' := [(7, .int (iI 0)), (6, .int (iI (orI (bsW (pv v p 0) (pv v p 1) (pv v p 2) (pv v p 3) i) (shlI 1 (dpt (pv v p 0) (pv v p 1) (pv v p 2) ((i : Int) + pv v p 3)))))), (5, .int (iI (smW (pv v p 0) (pv v p 1) (pv v p 2) (pv v p 3) i + dpt (pv v p 0) (pv v p 1) (pv v p 2) ((i : Int) + pv v p 3)))), (4, .int (iI (mxW (pv v p 0) (pv v p 1) (pv v p 2) (pv v p 3) i))), (9, .int (iI (dpt (pv v p 0) (pv v p 1) (pv v p 2) ((i : Int) + pv v p 3)))), (0, .ref o), (1, .int (iI p)), (2, .int (iI what)), (3, .int (iI (pv v p 4))), (8, .int (iI (i : Int)))]) hx hb dX7_sumOf_99 hl (by decide) rfl (fun ls hl => ?_)
            refine rv_iinc (k := 9) (lv' := [(8, .int (iI ((i : Int) + 1))), (7, .int (iI 0)), (6, .int (iI (orI (bsW (pv v p 0) (pv v p 1) (pv v p 2) (pv v p 3) i) (shlI 1 (dpt (pv v p 0) (pv v p 1) (pv v p 2) ((i : Int) + pv v p 3)))))), (5, .int (iI (smW (pv v p 0) (pv v p 1) (pv v p 2) (pv v p 3) i + dpt (pv v p 0) (pv v p 1) (pv v p 2) ((i : Int) + pv v p 3)))), (4, .int (iI (mxW (pv v p 0) (pv v p 1) (pv v p 2) (pv v p 3) i))), (9, .int (iI (dpt (pv v p 0) (pv v p 1) (pv v p 2) ((i : Int) + pv v p 3)))), (0, .ref o), (1, .int (iI p)), (2, .int (iI what)), (3, .int (iI (pv v p 4)))]) hx hb dX7_sumOf_101 hl rfl (by decide) rfl (fun ls hl => ?_)
            refine lv_goto (tgt := 26) hx hb dX7_sumOf_104 (by decide) ?_
            exact ih26 (i + 1) (by omega) (by omega) _ _ _ _ _ (by simp only [mxW, mxI]; first | rw [if_pos (by omega)] | rw [if_neg (by omega)]) rfl rfl (by rw [miW]; first | exact (cif_neg (fun q => h91 q.2)).symm | exact (cif_pos (And.intro (by omega) h91)).symm | exact (cif_neg (fun q => by omega)).symm) (by omega) ls (lv_sub hl [6, 7, 8, 9, 4, 3, 2, 1, 0] rfl)
          · refine lv_iload hx hb dX7_sumOf_78 (lv_at hl 3 rfl) ?_
            refine lv_aload_n hx hb dX7_sumOf_80 rfl (lv_at hl 4 rfl) ?_
            refine lv_iload_n hx hb dX7_sumOf_81 rfl (lv_at hl 5 rfl) ?_
            refine lv_iload_n hx hb dX7_sumOf_82 rfl (lv_at hl 7 rfl) ?_
            refine rv_iconst hx hb dX7_sumOf_83 ?_
            refine rv_isub hx hb dX7_sumOf_84 ?_
            refine lv_iload hx hb dX7_sumOf_85 (lv_at hl 9 rfl) ?_
            refine rv_isub hx hb dX7_sumOf_87 ?_
            refine vp_callSi (W.runV (As := [.int (iI p), .int (iI (((pv v p 4) - 1) - (i : Int)))]) (rest := [.int (iI (dpt (pv v p 0) (pv v p 1) (pv v p 2) ((i : Int) + pv v p 3)))]) ⟨hx, hb, hml, hown, hts⟩ (c_X7_wellOf l D cs o b fs v p (((pv v p 4) - 1) - (i : Int)) hp (by omega)) (cwV 2 hts (gV tb_744 tb_746 tbs_23 tb_8 tb_747) rfl rfl rfl (by decide +kernel) ⟨Nat.le_of_ble_eq_true rfl, Nat.le_of_ble_eq_true rfl⟩) (preV_mod hK hmod) rfl rfl hl.1 rfl (lv_room (Nat.le_of_ble_eq_true rfl)) dX7_sumOf_88 ⟨Nat.le_of_ble_eq_true rfl, Nat.le_of_ble_eq_true rfl⟩) (fun r9 hr9 => ?_)
            obtain ⟨rfl, hx88_0⟩ := hr9
            refine rv_icmp_ne (tgt := 98) hx hb dX7_sumOf_91 (by decide) (by omega) (fun h91 => ?_) (fun h91 => ?_)
            · refine rv_iconst hx hb dX7_sumOf_98 ?_
              refine lv_istore (lv' := [(7, .int (iI 0)), (6, .int (iI (orI (bsW (pv v p 0) (pv v p 1) (pv v p 2) (pv v p 3) i) (shlI 1 (dpt (pv v p 0) (pv v p 1) (pv v p 2) ((i : Int) + pv v p 3)))))), (5, .int (iI (smW (pv v p 0) (pv v p 1) (pv v p 2) (pv v p 3) i + dpt (pv v p 0) (pv v p 1) (pv v p 2) ((i : Int) + pv v p 3)))), (4, .int (iI (mxW (pv v p 0) (pv v p 1) (pv v p 2) (pv v p 3) i))), (9, .int (iI (dpt (pv v p 0) (pv v p 1) (pv v p 2) ((i : Int) + pv v p 3)))), (0, .ref o), (1, .int (iI p)), (2, .int (iI what)), (3, .int (iI (pv v p 4))), (8, .int (iI (i : Int)))]) hx hb dX7_sumOf_99 hl (by decide) rfl (fun ls hl => ?_)
              refine rv_iinc (k := 9) (lv' := [(8, .int (iI ((i : Int) + 1))), (7, .int (iI 0)), (6, .int (iI (orI (bsW (pv v p 0) (pv v p 1) (pv v p 2) (pv v p 3) i) (shlI 1 (dpt (pv v p 0) (pv v p 1) (pv v p 2) ((i : Int) + pv v p 3)))))), (5, .int (iI (smW (pv v p 0) (pv v p 1) (pv v p 2) (pv v p 3) i + dpt (pv v p 0) (pv v p 1) (pv v p 2) ((i : Int) + pv v p 3)))), (4, .int (iI (mxW (pv v p 0) (pv v p 1) (pv v p 2) (pv v p 3) i))), (9, .int (iI (dpt (pv v p 0) (pv v p 1) (pv v p 2) ((i : Int) + pv v p 3)))), (0, .ref o), (1, .int (iI p)), (2, .int (iI what)), (3, .int (iI (pv v p 4)))]) hx hb dX7_sumOf_101 hl rfl (by decide) rfl (fun ls hl => ?_)
              refine lv_goto (tgt := 26) hx hb dX7_sumOf_104 (by decide) ?_
              exact ih26 (i + 1) (by omega) (by omega) _ _ _ _ _ (by simp only [mxW, mxI]; first | rw [if_pos (by omega)] | rw [if_neg (by omega)]) rfl rfl (by rw [miW]; first | exact (cif_neg (fun q => h91 q.2)).symm | exact (cif_pos (And.intro (by omega) h91)).symm | exact (cif_neg (fun q => by omega)).symm) (by omega) ls (lv_sub hl [6, 7, 8, 9, 4, 3, 2, 1, 0] rfl)
            · refine rv_iconst hx hb dX7_sumOf_94 ?_
              refine lv_goto (tgt := 99) hx hb dX7_sumOf_95 (by decide) ?_
              refine lv_istore (lv' := [(7, .int (iI 1)), (6, .int (iI (orI (bsW (pv v p 0) (pv v p 1) (pv v p 2) (pv v p 3) i) (shlI 1 (dpt (pv v p 0) (pv v p 1) (pv v p 2) ((i : Int) + pv v p 3)))))), (5, .int (iI (smW (pv v p 0) (pv v p 1) (pv v p 2) (pv v p 3) i + dpt (pv v p 0) (pv v p 1) (pv v p 2) ((i : Int) + pv v p 3)))), (4, .int (iI (mxW (pv v p 0) (pv v p 1) (pv v p 2) (pv v p 3) i))), (9, .int (iI (dpt (pv v p 0) (pv v p 1) (pv v p 2) ((i : Int) + pv v p 3)))), (0, .ref o), (1, .int (iI p)), (2, .int (iI what)), (3, .int (iI (pv v p 4))), (8, .int (iI (i : Int)))]) hx hb dX7_sumOf_99 hl (by decide) rfl (fun ls hl => ?_)
              refine rv_iinc (k := 9) (lv' := [(8, .int (iI ((i : Int) + 1))), (7, .int (iI 1)), (6, .int (iI (orI (bsW (pv v p 0) (pv v p 1) (pv v p 2) (pv v p 3) i) (shlI 1 (dpt (pv v p 0) (pv v p 1) (pv v p 2) ((i : Int) + pv v p 3)))))), (5, .int (iI (smW (pv v p 0) (pv v p 1) (pv v p 2) (pv v p 3) i + dpt (pv v p 0) (pv v p 1) (pv v p 2) ((i : Int) + pv v p 3)))), (4, .int (iI (mxW (pv v p 0) (pv v p 1) (pv v p 2) (pv v p 3) i))), (9, .int (iI (dpt (pv v p 0) (pv v p 1) (pv v p 2) ((i : Int) + pv v p 3)))), (0, .ref o), (1, .int (iI p)), (2, .int (iI what)), (3, .int (iI (pv v p 4)))]) hx hb dX7_sumOf_101 hl rfl (by decide) rfl (fun ls hl => ?_)
              refine lv_goto (tgt := 26) hx hb dX7_sumOf_104 (by decide) ?_
              exact ih26 (i + 1) (by omega) (by omega) _ _ _ _ _ (by simp only [mxW, mxI]; first | rw [if_pos (by omega)] | rw [if_neg (by omega)]) rfl rfl (by rw [miW]; first | exact (cif_neg (fun q => h91 q.2)).symm | exact (cif_pos (And.intro (by omega) h91)).symm | exact (cif_neg (fun q => by omega)).symm) (by omega) ls (lv_sub hl [6, 7, 8, 9, 4, 3, 2, 1, 0] rfl)
        · refine lv_iload hx hb dX7_sumOf_48 (lv_at hl 0 rfl) ?_
          refine lv_goto (tgt := 55) hx hb dX7_sumOf_50 (by decide) ?_
          refine lv_istore (lv' := [(4, .int (iI (dpt (pv v p 0) (pv v p 1) (pv v p 2) ((i : Int) + pv v p 3)))), (9, .int (iI (dpt (pv v p 0) (pv v p 1) (pv v p 2) ((i : Int) + pv v p 3)))), (0, .ref o), (1, .int (iI p)), (2, .int (iI what)), (3, .int (iI (pv v p 4))), (5, .int (iI (smW (pv v p 0) (pv v p 1) (pv v p 2) (pv v p 3) i))), (6, .int (iI (bsW (pv v p 0) (pv v p 1) (pv v p 2) (pv v p 3) i))), (7, .int (iI (miW (pv v p 0) (pv v p 1) (pv v p 2) (pv v p 3) (pv v p 4) i))), (8, .int (iI (i : Int)))]) hx hb dX7_sumOf_55 hl (by decide) rfl (fun ls hl => ?_)
          refine lv_iload hx hb dX7_sumOf_57 (lv_at hl 6 rfl) ?_
          refine lv_iload hx hb dX7_sumOf_59 (lv_at hl 1 rfl) ?_
          refine rv_iadd hx hb dX7_sumOf_61 ?_
          refine lv_istore (lv' := [(5, .int (iI (smW (pv v p 0) (pv v p 1) (pv v p 2) (pv v p 3) i + dpt (pv v p 0) (pv v p 1) (pv v p 2) ((i : Int) + pv v p 3)))), (4, .int (iI (dpt (pv v p 0) (pv v p 1) (pv v p 2) ((i : Int) + pv v p 3)))), (9, .int (iI (dpt (pv v p 0) (pv v p 1) (pv v p 2) ((i : Int) + pv v p 3)))), (0, .ref o), (1, .int (iI p)), (2, .int (iI what)), (3, .int (iI (pv v p 4))), (6, .int (iI (bsW (pv v p 0) (pv v p 1) (pv v p 2) (pv v p 3) i))), (7, .int (iI (miW (pv v p 0) (pv v p 1) (pv v p 2) (pv v p 3) (pv v p 4) i))), (8, .int (iI (i : Int)))]) hx hb dX7_sumOf_62 hl (by decide) rfl (fun ls hl => ?_)
          refine lv_iload hx hb dX7_sumOf_64 (lv_at hl 7 rfl) ?_
          refine rv_iconst hx hb dX7_sumOf_66 ?_
          refine lv_iload hx hb dX7_sumOf_67 (lv_at hl 2 rfl) ?_
          refine rv_ishl hx hb dX7_sumOf_69 ?_
          refine rv_ior hx hb dX7_sumOf_70 ?_
          refine lv_istore (lv' := [(6, .int (iI (orI (bsW (pv v p 0) (pv v p 1) (pv v p 2) (pv v p 3) i) (shlI 1 (dpt (pv v p 0) (pv v p 1) (pv v p 2) ((i : Int) + pv v p 3)))))), (5, .int (iI (smW (pv v p 0) (pv v p 1) (pv v p 2) (pv v p 3) i + dpt (pv v p 0) (pv v p 1) (pv v p 2) ((i : Int) + pv v p 3)))), (4, .int (iI (dpt (pv v p 0) (pv v p 1) (pv v p 2) ((i : Int) + pv v p 3)))), (9, .int (iI (dpt (pv v p 0) (pv v p 1) (pv v p 2) ((i : Int) + pv v p 3)))), (0, .ref o), (1, .int (iI p)), (2, .int (iI what)), (3, .int (iI (pv v p 4))), (7, .int (iI (miW (pv v p 0) (pv v p 1) (pv v p 2) (pv v p 3) (pv v p 4) i))), (8, .int (iI (i : Int)))]) hx hb dX7_sumOf_71 hl (by decide) rfl (fun ls hl => ?_)
          refine lv_iload hx hb dX7_sumOf_73 (lv_at hl 8 rfl) ?_
          refine rv_if_eq (tgt := 98) hx hb dX7_sumOf_75 (by decide) (by omega) (fun h75 => ?_) (fun h75 => ?_)
          · refine rv_iconst hx hb dX7_sumOf_98 ?_
            refine lv_istore (lv' := [(7, .int (iI 0)), (6, .int (iI (orI (bsW (pv v p 0) (pv v p 1) (pv v p 2) (pv v p 3) i) (shlI 1 (dpt (pv v p 0) (pv v p 1) (pv v p 2) ((i : Int) + pv v p 3)))))), (5, .int (iI (smW (pv v p 0) (pv v p 1) (pv v p 2) (pv v p 3) i + dpt (pv v p 0) (pv v p 1) (pv v p 2) ((i : Int) + pv v p 3)))), (4, .int (iI (dpt (pv v p 0) (pv v p 1) (pv v p 2) ((i : Int) + pv v p 3)))), (9, .int (iI (dpt (pv v p 0) (pv v p 1) (pv v p 2) ((i : Int) + pv v p 3)))), (0, .ref o), (1, .int (iI p)), (2, .int (iI what)), (3, .int (iI (pv v p 4))), (8, .int (iI (i : Int)))]) hx hb dX7_sumOf_99 hl (by decide) rfl (fun ls hl => ?_)
            refine rv_iinc (k := 9) (lv' := [(8, .int (iI ((i : Int) + 1))), (7, .int (iI 0)), (6, .int (iI (orI (bsW (pv v p 0) (pv v p 1) (pv v p 2) (pv v p 3) i) (shlI 1 (dpt (pv v p 0) (pv v p 1) (pv v p 2) ((i : Int) + pv v p 3)))))), (5, .int (iI (smW (pv v p 0) (pv v p 1) (pv v p 2) (pv v p 3) i + dpt (pv v p 0) (pv v p 1) (pv v p 2) ((i : Int) + pv v p 3)))), (4, .int (iI (dpt (pv v p 0) (pv v p 1) (pv v p 2) ((i : Int) + pv v p 3)))), (9, .int (iI (dpt (pv v p 0) (pv v p 1) (pv v p 2) ((i : Int) + pv v p 3)))), (0, .ref o), (1, .int (iI p)), (2, .int (iI what)), (3, .int (iI (pv v p 4)))]) hx hb dX7_sumOf_101 hl rfl (by decide) rfl (fun ls hl => ?_)
            refine lv_goto (tgt := 26) hx hb dX7_sumOf_104 (by decide) ?_
            exact ih26 (i + 1) (by omega) (by omega) _ _ _ _ _ (by simp only [mxW, mxI]; first | rw [if_pos (by omega)] | rw [if_neg (by omega)]) rfl rfl (by rw [miW]; first | exact (cif_neg (fun q => h91 q.2)).symm | exact (cif_pos (And.intro (by omega) h91)).symm | exact (cif_neg (fun q => by omega)).symm) (by omega) ls (lv_sub hl [6, 7, 8, 9, 4, 3, 2, 1, 0] rfl)
          · refine lv_iload hx hb dX7_sumOf_78 (lv_at hl 3 rfl) ?_
            refine lv_aload_n hx hb dX7_sumOf_80 rfl (lv_at hl 4 rfl) ?_
            refine lv_iload_n hx hb dX7_sumOf_81 rfl (lv_at hl 5 rfl) ?_
            refine lv_iload_n hx hb dX7_sumOf_82 rfl (lv_at hl 7 rfl) ?_
            refine rv_iconst hx hb dX7_sumOf_83 ?_
            refine rv_isub hx hb dX7_sumOf_84 ?_
            refine lv_iload hx hb dX7_sumOf_85 (lv_at hl 9 rfl) ?_
            refine rv_isub hx hb dX7_sumOf_87 ?_
            refine vp_callSi (W.runV (As := [.int (iI p), .int (iI (((pv v p 4) - 1) - (i : Int)))]) (rest := [.int (iI (dpt (pv v p 0) (pv v p 1) (pv v p 2) ((i : Int) + pv v p 3)))]) ⟨hx, hb, hml, hown, hts⟩ (c_X7_wellOf l D cs o b fs v p (((pv v p 4) - 1) - (i : Int)) hp (by omega)) (cwV 2 hts (gV tb_744 tb_746 tbs_23 tb_8 tb_747) rfl rfl rfl (by decide +kernel) ⟨Nat.le_of_ble_eq_true rfl, Nat.le_of_ble_eq_true rfl⟩) (preV_mod hK hmod) rfl rfl hl.1 rfl (lv_room (Nat.le_of_ble_eq_true rfl)) dX7_sumOf_88 ⟨Nat.le_of_ble_eq_true rfl, Nat.le_of_ble_eq_true rfl⟩) (fun r9 hr9 => ?_)
            obtain ⟨rfl, hx88_0⟩ := hr9
            refine rv_icmp_ne (tgt := 98) hx hb dX7_sumOf_91 (by decide) (by omega) (fun h91 => ?_) (fun h91 => ?_)
            · refine rv_iconst hx hb dX7_sumOf_98 ?_
              refine lv_istore (lv' := [(7, .int (iI 0)), (6, .int (iI (orI (bsW (pv v p 0) (pv v p 1) (pv v p 2) (pv v p 3) i) (shlI 1 (dpt (pv v p 0) (pv v p 1) (pv v p 2) ((i : Int) + pv v p 3)))))), (5, .int (iI (smW (pv v p 0) (pv v p 1) (pv v p 2) (pv v p 3) i + dpt (pv v p 0) (pv v p 1) (pv v p 2) ((i : Int) + pv v p 3)))), (4, .int (iI (dpt (pv v p 0) (pv v p 1) (pv v p 2) ((i : Int) + pv v p 3)))), (9, .int (iI (dpt (pv v p 0) (pv v p 1) (pv v p 2) ((i : Int) + pv v p 3)))), (0, .ref o), (1, .int (iI p)), (2, .int (iI what)), (3, .int (iI (pv v p 4))), (8, .int (iI (i : Int)))]) hx hb dX7_sumOf_99 hl (by decide) rfl (fun ls hl => ?_)
              refine rv_iinc (k := 9) (lv' := [(8, .int (iI ((i : Int) + 1))), (7, .int (iI 0)), (6, .int (iI (orI (bsW (pv v p 0) (pv v p 1) (pv v p 2) (pv v p 3) i) (shlI 1 (dpt (pv v p 0) (pv v p 1) (pv v p 2) ((i : Int) + pv v p 3)))))), (5, .int (iI (smW (pv v p 0) (pv v p 1) (pv v p 2) (pv v p 3) i + dpt (pv v p 0) (pv v p 1) (pv v p 2) ((i : Int) + pv v p 3)))), (4, .int (iI (dpt (pv v p 0) (pv v p 1) (pv v p 2) ((i : Int) + pv v p 3)))), (9, .int (iI (dpt (pv v p 0) (pv v p 1) (pv v p 2) ((i : Int) + pv v p 3)))), (0, .ref o), (1, .int (iI p)), (2, .int (iI what)), (3, .int (iI (pv v p 4)))]) hx hb dX7_sumOf_101 hl rfl (by decide) rfl (fun ls hl => ?_)
              refine lv_goto (tgt := 26) hx hb dX7_sumOf_104 (by decide) ?_
              exact ih26 (i + 1) (by omega) (by omega) _ _ _ _ _ (by simp only [mxW, mxI]; first | rw [if_pos (by omega)] | rw [if_neg (by omega)]) rfl rfl (by rw [miW]; first | exact (cif_neg (fun q => h91 q.2)).symm | exact (cif_pos (And.intro (by omega) h91)).symm | exact (cif_neg (fun q => by omega)).symm) (by omega) ls (lv_sub hl [6, 7, 8, 9, 4, 3, 2, 1, 0] rfl)
            · refine rv_iconst hx hb dX7_sumOf_94 ?_
              refine lv_goto (tgt := 99) hx hb dX7_sumOf_95 (by decide) ?_
              refine lv_istore (lv' := [(7, .int (iI 1)), (6, .int (iI (orI (bsW (pv v p 0) (pv v p 1) (pv v p 2) (pv v p 3) i) (shlI 1 (dpt (pv v p 0) (pv v p 1) (pv v p 2) ((i : Int) + pv v p 3)))))), (5, .int (iI (smW (pv v p 0) (pv v p 1) (pv v p 2) (pv v p 3) i + dpt (pv v p 0) (pv v p 1) (pv v p 2) ((i : Int) + pv v p 3)))), (4, .int (iI (dpt (pv v p 0) (pv v p 1) (pv v p 2) ((i : Int) + pv v p 3)))), (9, .int (iI (dpt (pv v p 0) (pv v p 1) (pv v p 2) ((i : Int) + pv v p 3)))), (0, .ref o), (1, .int (iI p)), (2, .int (iI what)), (3, .int (iI (pv v p 4))), (8, .int (iI (i : Int)))]) hx hb dX7_sumOf_99 hl (by decide) rfl (fun ls hl => ?_)
              refine rv_iinc (k := 9) (lv' := [(8, .int (iI ((i : Int) + 1))), (7, .int (iI 1)), (6, .int (iI (orI (bsW (pv v p 0) (pv v p 1) (pv v p 2) (pv v p 3) i) (shlI 1 (dpt (pv v p 0) (pv v p 1) (pv v p 2) ((i : Int) + pv v p 3)))))), (5, .int (iI (smW (pv v p 0) (pv v p 1) (pv v p 2) (pv v p 3) i + dpt (pv v p 0) (pv v p 1) (pv v p 2) ((i : Int) + pv v p 3)))), (4, .int (iI (dpt (pv v p 0) (pv v p 1) (pv v p 2) ((i : Int) + pv v p 3)))), (9, .int (iI (dpt (pv v p 0) (pv v p 1) (pv v p 2) ((i : Int) + pv v p 3)))), (0, .ref o), (1, .int (iI p)), (2, .int (iI what)), (3, .int (iI (pv v p 4)))]) hx hb dX7_sumOf_101 hl rfl (by decide) rfl (fun ls hl => ?_)
              refine lv_goto (tgt := 26) hx hb dX7_sumOf_104 (by decide) ?_
              exact ih26 (i + 1) (by omega) (by omega) _ _ _ _ _ (by simp only [mxW, mxI]; first | rw [if_pos (by omega)] | rw [if_neg (by omega)]) rfl rfl (by rw [miW]; first | exact (cif_neg (fun q => h91 q.2)).symm | exact (cif_pos (And.intro (by omega) h91)).symm | exact (cif_neg (fun q => by omega)).symm) (by omega) ls (lv_sub hl [6, 7, 8, 9, 4, 3, 2, 1, 0] rfl)
  exact loop26 (_ + 1) 0 (by omega) (Nat.lt_succ_self _) _ _ _ _ _ rfl rfl rfl rfl rfl ls (lv_sub hl [6, 7, 8, 5, 4, 3, 2, 1, 0] rfl)

abbrev rm_X7_well : Room := { frames := 3, cells := 0, slots := 0, locals := 72 }
set_option maxHeartbeats 4000000 in
set_option maxRecDepth 100000 in
/-- well -/
theorem c_X7_well (l : Launch) (D : va_G) (cs : Nat → ClassId) (o : Nat) (b : Nat) (fs : List Value) (v : Nat → Int) (p : Int) (i : Int) (hp0 : -2147483648 ≤ p ∧ p < 2147483648) (hi : -2147483648 ≤ i ∧ i < 2147483648) : Met l yX7_well (Cond.code yX7_well cX7_well 3 (some .int) :: TB) rm_X7_well (va_Pc [.ref o, .int (iI p), .int (iI i)] (fun U => KA D cs U ∧ ModAt D cs U.heap o b fs v)) (vp_Si (fun r => r = iI (aWell v p i))) 0 0 (fun _ => False) := by
  refine enter (cc := cX7_well) (maxL := 3) (ret := (some .int)) (by decide) (Nat.le_of_ble_eq_true rfl) ?_
  intro pg ev s m below meth c Q ls hx hb hml hown hts hr hlocks hnm ⟨hK, hmod⟩ hl hQ
  have ht : ∀ w ∈ TB, w.before _ s = true := fun w h => hts w (List.mem_cons_of_mem _ h)
  have hl : lv_has ls 3 [(0, .ref o), (1, .int (iI p)), (2, .int (iI i))] := hl
  obtain ⟨hPm, hf3, hvL⟩ := id hmod
  obtain ⟨hv20, hv21, hv22, hv23, hvp⟩ := id hvL
  refine lv_aload_n hx hb dX7_well_0 rfl (lv_at hl 0 rfl) ?_
  refine lv_iload_n hx hb dX7_well_1 rfl (lv_at hl 1 rfl) ?_
  refine vp_callSi (W.runV (As := [.int (iI p)]) (rest := []) ⟨hx, hb, hml, hown, hts⟩ (c_X7_isPanel l D cs o b fs v p (by omega)) (cwV 1 hts (gV tb_716 tb_718 tbs_20 tb_8 tb_719) rfl rfl rfl (by decide +kernel) ⟨Nat.le_of_ble_eq_true rfl, Nat.le_of_ble_eq_true rfl⟩) (preV_mod hK hmod) rfl rfl hl.1 rfl (lv_room (Nat.le_of_ble_eq_true rfl)) dX7_well_2 ⟨Nat.le_of_ble_eq_true rfl, Nat.le_of_ble_eq_true rfl⟩) (fun r9 hr9 => ?_)
  rcases hr9 with ⟨rfl, hb2⟩ | ⟨rfl, hb2⟩
  · refine rv_if_eq (tgt := 39) hx hb dX7_well_5 (by decide) (by decide) (fun q => absurd q (by decide)) (fun _ => ?_)
    obtain ⟨hvk, hvn, hvf, hvo, hvw⟩ := vL_p hvL hb2
    have hnb := isPr_bd hvn
    have hpb := per_bd (k := pv v p 0) hvn
    have hfb := fOK_bd hvk hvn hvf
    refine lv_iload_n hx hb dX7_well_8 rfl (lv_at hl 2 rfl) ?_
    refine rv_i2l hx hb dX7_well_9 (by omega) ?_
    refine rv_lconst (z := 0) hx hb dX7_well_10 (by decide) ?_
    refine lv_aload_n hx hb dX7_well_11 rfl (lv_at hl 0 rfl) ?_
    refine va_get (D := D) (ci := 6) (v := .ref b) (C := RX7) (T := TX7) (N := 16) hx hb ht inTB_X7 hown hK hPm 0 rfl rfl 3 (by decide) (ht _ tb_591) (fun _ h9 => h9) hf3 dX7_well_12 ?_
    refine rv_iconst hx hb dX7_well_15 ?_
    refine lv_iload_n hx hb dX7_well_16 rfl (lv_at hl 1 rfl) ?_
    refine rv_imul hx hb dX7_well_17 ?_
    refine rv_iconst hx hb dX7_well_18 ?_
    refine rv_iadd hx hb dX7_well_19 ?_
    refine rv_iald hx hb hK hPm 1 0 rfl rfl (5 * p.toNat + 4) (by omega) (by omega) dX7_well_20 ?_
    refine rv_top (y := pv v p 4) rfl ?_
    refine rv_iconst hx hb dX7_well_21 ?_
    refine rv_isub hx hb dX7_well_22 ?_
    refine rv_i2l hx hb dX7_well_23 (by omega) ?_
    refine vp_callSi (W.runS (As := [.long (lI i), .long (lI 0), .long (lI ((pv v p 4) - 1))]) (rest := []) ⟨hx, hb, hml, hown, hts⟩ (c_X7_in l i 0 ((pv v p 4) - 1) (by omega) (by omega) (by omega)) (va_cwS 3 hts (gS tb_649 tb_650 tb_8 tb_651) rfl rfl rfl (by decide +kernel) ⟨Nat.le_of_ble_eq_true rfl, Nat.le_of_ble_eq_true rfl⟩) preS0 rfl rfl hl.1 rfl (lv_room (Nat.le_of_ble_eq_true rfl)) dX7_well_24 ⟨Nat.le_of_ble_eq_true rfl, Nat.le_of_ble_eq_true rfl⟩) (fun r9 hr9 => ?_)
    rcases hr9 with ⟨rfl, hb24⟩ | ⟨rfl, hb24⟩
    · refine rv_if_eq (tgt := 39) hx hb dX7_well_27 (by decide) (by decide) (fun q => absurd q (by decide)) (fun _ => ?_)
      refine lv_aload_n hx hb dX7_well_30 rfl (lv_at hl 0 rfl) ?_
      refine lv_iload_n hx hb dX7_well_31 rfl (lv_at hl 1 rfl) ?_
      refine lv_iload_n hx hb dX7_well_32 rfl (lv_at hl 2 rfl) ?_
      refine vp_callSi (W.runV (As := [.int (iI p), .int (iI i)]) (rest := []) ⟨hx, hb, hml, hown, hts⟩ (c_X7_wellOf l D cs o b fs v p i hb2 (by omega)) (cwV 2 hts (gV tb_744 tb_746 tbs_23 tb_8 tb_747) rfl rfl rfl (by decide +kernel) ⟨Nat.le_of_ble_eq_true rfl, Nat.le_of_ble_eq_true rfl⟩) (preV_mod hK hmod) rfl rfl hl.1 rfl (lv_room (Nat.le_of_ble_eq_true rfl)) dX7_well_33 ⟨Nat.le_of_ble_eq_true rfl, Nat.le_of_ble_eq_true rfl⟩) (fun r9 hr9 => ?_)
      obtain ⟨rfl, hx33_0⟩ := hr9
      refine lv_goto (tgt := 40) hx hb dX7_well_36 (by decide) ?_
      subst hQ
      exact W.iret hx hb hr (fun t9 ht9 hW9 => ⟨_, rfl, by rw [aWell, cif_pos ⟨hb2, by omega⟩], ht9⟩) (fun _ h => absurd h List.not_mem_nil) dX7_well_40
    · refine rv_if_eq (tgt := 39) hx hb dX7_well_27 (by decide) (by decide) (fun _ => ?_) (fun q => absurd q (by decide))
      refine rv_iconst hx hb dX7_well_39 ?_
      subst hQ
      exact W.iret hx hb hr (fun t9 ht9 hW9 => ⟨_, rfl, by rw [aWell, cif_neg (fun q => by first | exact hb2 q.1 | (have := q.2; omega))], ht9⟩) (fun _ h => absurd h List.not_mem_nil) dX7_well_40
  · refine rv_if_eq (tgt := 39) hx hb dX7_well_5 (by decide) (by decide) (fun _ => ?_) (fun q => absurd q (by decide))
    refine rv_iconst hx hb dX7_well_39 ?_
    subst hQ
    exact W.iret hx hb hr (fun t9 ht9 hW9 => ⟨_, rfl, by rw [aWell, cif_neg (fun q => by first | exact hb2 q.1 | (have := q.2; omega))], ht9⟩) (fun _ h => absurd h List.not_mem_nil) dX7_well_40

abbrev rm_X7_counts : Room := { frames := 3, cells := 0, slots := 0, locals := 77 }
set_option maxHeartbeats 4000000 in
set_option maxRecDepth 100000 in
/-- counts -/
theorem c_X7_counts (l : Launch) (D : va_G) (cs : Nat → ClassId) (o : Nat) (b : Nat) (fs : List Value) (v : Nat → Int) (p : Int) (k : Int) (d : Int) (hp0 : -2147483648 ≤ p ∧ p < 2147483648) (hk : -2147483648 ≤ k ∧ k < 2147483648) (hd : -2147483648 ≤ d ∧ d < 2147483648) : Met l yX7_counts (Cond.code yX7_counts cX7_counts 4 (some .int) :: TB) rm_X7_counts (va_Pc [.ref o, .int (iI p), .int (iI k), .int (iI d)] (fun U => KA D cs U ∧ ModAt D cs U.heap o b fs v)) (vp_Si (fun r => r = iI (aCounts v p k d))) 0 0 (fun _ => False) := by
  refine enter (cc := cX7_counts) (maxL := 4) (ret := (some .int)) (by decide) (Nat.le_of_ble_eq_true rfl) ?_
  intro pg ev s m below meth c Q ls hx hb hml hown hts hr hlocks hnm ⟨hK, hmod⟩ hl hQ
  have ht : ∀ w ∈ TB, w.before _ s = true := fun w h => hts w (List.mem_cons_of_mem _ h)
  have hl : lv_has ls 4 [(0, .ref o), (1, .int (iI p)), (2, .int (iI k)), (3, .int (iI d))] := hl
  obtain ⟨hPm, hf3, hvL⟩ := id hmod
  obtain ⟨hv20, hv21, hv22, hv23, hvp⟩ := id hvL
  refine lv_aload_n hx hb dX7_counts_0 rfl (lv_at hl 0 rfl) ?_
  refine lv_iload_n hx hb dX7_counts_1 rfl (lv_at hl 1 rfl) ?_
  refine vp_callSi (W.runV (As := [.int (iI p)]) (rest := []) ⟨hx, hb, hml, hown, hts⟩ (c_X7_isPanel l D cs o b fs v p (by omega)) (cwV 1 hts (gV tb_716 tb_718 tbs_20 tb_8 tb_719) rfl rfl rfl (by decide +kernel) ⟨Nat.le_of_ble_eq_true rfl, Nat.le_of_ble_eq_true rfl⟩) (preV_mod hK hmod) rfl rfl hl.1 rfl (lv_room (Nat.le_of_ble_eq_true rfl)) dX7_counts_2 ⟨Nat.le_of_ble_eq_true rfl, Nat.le_of_ble_eq_true rfl⟩) (fun r9 hr9 => ?_)
  rcases hr9 with ⟨rfl, hb2⟩ | ⟨rfl, hb2⟩
  · refine rv_if_eq (tgt := 57) hx hb dX7_counts_5 (by decide) (by decide) (fun q => absurd q (by decide)) (fun _ => ?_)
    obtain ⟨hvk, hvn, hvf, hvo, hvw⟩ := vL_p hvL hb2
    have hnb := isPr_bd hvn
    have hpb := per_bd (k := pv v p 0) hvn
    have hfb := fOK_bd hvk hvn hvf
    refine lv_iload_n hx hb dX7_counts_8 rfl (lv_at hl 2 rfl) ?_
    refine rv_i2l hx hb dX7_counts_9 (by omega) ?_
    refine rv_lconst (z := 0) hx hb dX7_counts_10 (by decide) ?_
    refine lv_aload_n hx hb dX7_counts_11 rfl (lv_at hl 0 rfl) ?_
    refine lv_iload_n hx hb dX7_counts_12 rfl (lv_at hl 1 rfl) ?_
    refine vp_callSi (W.runV (As := [.int (iI p)]) (rest := [.long (lI 0), .long (lI k)]) ⟨hx, hb, hml, hown, hts⟩ (c_X7_period l D cs o b fs v p hb2) (cwV 1 hts (gV tb_752 tb_754 tbs_25 tb_8 tb_755) rfl rfl rfl (by decide +kernel) ⟨Nat.le_of_ble_eq_true rfl, Nat.le_of_ble_eq_true rfl⟩) (preV_mod hK hmod) rfl rfl hl.1 rfl (lv_room (Nat.le_of_ble_eq_true rfl)) dX7_counts_13 ⟨Nat.le_of_ble_eq_true rfl, Nat.le_of_ble_eq_true rfl⟩) (fun r9 hr9 => ?_)
    obtain ⟨rfl, hx13_0⟩ := hr9
    refine rv_iconst hx hb dX7_counts_16 ?_
    refine rv_isub hx hb dX7_counts_17 ?_
    refine rv_i2l hx hb dX7_counts_18 (by omega) ?_
    refine vp_callSi (W.runS (As := [.long (lI k), .long (lI 0), .long (lI (per (pv v p 0) (pv v p 1) - 1))]) (rest := []) ⟨hx, hb, hml, hown, hts⟩ (c_X7_in l k 0 (per (pv v p 0) (pv v p 1) - 1) (by omega) (by omega) (by omega)) (va_cwS 3 hts (gS tb_649 tb_650 tb_8 tb_651) rfl rfl rfl (by decide +kernel) ⟨Nat.le_of_ble_eq_true rfl, Nat.le_of_ble_eq_true rfl⟩) preS0 rfl rfl hl.1 rfl (lv_room (Nat.le_of_ble_eq_true rfl)) dX7_counts_19 ⟨Nat.le_of_ble_eq_true rfl, Nat.le_of_ble_eq_true rfl⟩) (fun r9 hr9 => ?_)
    rcases hr9 with ⟨rfl, hb19⟩ | ⟨rfl, hb19⟩
    · refine rv_if_eq (tgt := 57) hx hb dX7_counts_22 (by decide) (by decide) (fun q => absurd q (by decide)) (fun _ => ?_)
      refine lv_iload_n hx hb dX7_counts_25 rfl (lv_at hl 3 rfl) ?_
      refine rv_i2l hx hb dX7_counts_26 (by omega) ?_
      refine rv_lconst (z := 0) hx hb dX7_counts_27 (by decide) ?_
      refine lv_aload_n hx hb dX7_counts_28 rfl (lv_at hl 0 rfl) ?_
      refine va_get (D := D) (ci := 6) (v := .ref b) (C := RX7) (T := TX7) (N := 16) hx hb ht inTB_X7 hown hK hPm 0 rfl rfl 3 (by decide) (ht _ tb_591) (fun _ h9 => h9) hf3 dX7_counts_29 ?_
      refine rv_iconst hx hb dX7_counts_32 ?_
      refine lv_iload_n hx hb dX7_counts_33 rfl (lv_at hl 1 rfl) ?_
      refine rv_imul hx hb dX7_counts_34 ?_
      refine rv_iconst hx hb dX7_counts_35 ?_
      refine rv_iadd hx hb dX7_counts_36 ?_
      refine rv_iald hx hb hK hPm 1 0 rfl rfl (5 * p.toNat + 1) (by omega) (by omega) dX7_counts_37 ?_
      refine rv_top (y := pv v p 1) rfl ?_
      refine rv_iconst hx hb dX7_counts_38 ?_
      refine rv_isub hx hb dX7_counts_39 ?_
      refine rv_i2l hx hb dX7_counts_40 (by omega) ?_
      refine vp_callSi (W.runS (As := [.long (lI d), .long (lI 0), .long (lI ((pv v p 1) - 1))]) (rest := []) ⟨hx, hb, hml, hown, hts⟩ (c_X7_in l d 0 ((pv v p 1) - 1) (by omega) (by omega) (by omega)) (va_cwS 3 hts (gS tb_649 tb_650 tb_8 tb_651) rfl rfl rfl (by decide +kernel) ⟨Nat.le_of_ble_eq_true rfl, Nat.le_of_ble_eq_true rfl⟩) preS0 rfl rfl hl.1 rfl (lv_room (Nat.le_of_ble_eq_true rfl)) dX7_counts_41 ⟨Nat.le_of_ble_eq_true rfl, Nat.le_of_ble_eq_true rfl⟩) (fun r9 hr9 => ?_)
      rcases hr9 with ⟨rfl, hb41⟩ | ⟨rfl, hb41⟩
      · refine rv_if_eq (tgt := 57) hx hb dX7_counts_44 (by decide) (by decide) (fun q => absurd q (by decide)) (fun _ => ?_)
        refine lv_aload_n hx hb dX7_counts_47 rfl (lv_at hl 0 rfl) ?_
        refine lv_iload_n hx hb dX7_counts_48 rfl (lv_at hl 1 rfl) ?_
        refine lv_iload_n hx hb dX7_counts_49 rfl (lv_at hl 2 rfl) ?_
        refine lv_iload_n hx hb dX7_counts_50 rfl (lv_at hl 3 rfl) ?_
        refine vp_callSi (W.runV (As := [.int (iI p), .int (iI k), .int (iI d)]) (rest := []) ⟨hx, hb, hml, hown, hts⟩ (c_X7_countOf l D cs o b fs v p k d hb2 (by omega) (by omega)) (cwV 3 hts (gV tb_760 tb_762 tbs_26 tb_8 tb_763) rfl rfl rfl (by decide +kernel) ⟨Nat.le_of_ble_eq_true rfl, Nat.le_of_ble_eq_true rfl⟩) (preV_mod hK hmod) rfl rfl hl.1 rfl (lv_room (Nat.le_of_ble_eq_true rfl)) dX7_counts_51 ⟨Nat.le_of_ble_eq_true rfl, Nat.le_of_ble_eq_true rfl⟩) (fun r9 hr9 => ?_)
        obtain ⟨rfl, hx51_0⟩ := hr9
        refine lv_goto (tgt := 58) hx hb dX7_counts_54 (by decide) ?_
        subst hQ
        exact W.iret hx hb hr (fun t9 ht9 hW9 => ⟨_, rfl, by rw [aCounts, cif_pos ⟨hb2, by omega, by omega⟩], ht9⟩) (fun _ h => absurd h List.not_mem_nil) dX7_counts_58
      · refine rv_if_eq (tgt := 57) hx hb dX7_counts_44 (by decide) (by decide) (fun _ => ?_) (fun q => absurd q (by decide))
        refine rv_iconst hx hb dX7_counts_57 ?_
        subst hQ
        exact W.iret hx hb hr (fun t9 ht9 hW9 => ⟨_, rfl, by rw [aCounts, cif_neg (fun q => by first | exact hb2 q.1 | (have := q.2; omega))], ht9⟩) (fun _ h => absurd h List.not_mem_nil) dX7_counts_58
    · refine rv_if_eq (tgt := 57) hx hb dX7_counts_22 (by decide) (by decide) (fun _ => ?_) (fun q => absurd q (by decide))
      refine rv_iconst hx hb dX7_counts_57 ?_
      subst hQ
      exact W.iret hx hb hr (fun t9 ht9 hW9 => ⟨_, rfl, by rw [aCounts, cif_neg (fun q => by first | exact hb2 q.1 | (have := q.2; omega))], ht9⟩) (fun _ h => absurd h List.not_mem_nil) dX7_counts_58
  · refine rv_if_eq (tgt := 57) hx hb dX7_counts_5 (by decide) (by decide) (fun _ => ?_) (fun q => absurd q (by decide))
    refine rv_iconst hx hb dX7_counts_57 ?_
    subst hQ
    exact W.iret hx hb hr (fun t9 ht9 hW9 => ⟨_, rfl, by rw [aCounts, cif_neg (fun q => by first | exact hb2 q.1 | (have := q.2; omega))], ht9⟩) (fun _ h => absurd h List.not_mem_nil) dX7_counts_58

abbrev rm_X7_planeOf : Room := { frames := 2, cells := 0, slots := 0, locals := 50 }
set_option maxHeartbeats 4000000 in
set_option maxRecDepth 100000 in
/-- planeOf -/
theorem c_X7_planeOf (l : Launch) (D : va_G) (cs : Nat → ClassId) (o : Nat) (b : Nat) (fs : List Value) (v : Nat → Int) (p : Int) (x : Int) (y : Int) (hp : 0 ≤ p ∧ p < v 20) (hx1 : 0 ≤ x ∧ x < 1000) (hy1 : 0 ≤ y ∧ y < 1000) : Met l yX7_planeOf (Cond.code yX7_planeOf cX7_planeOf 4 (some .int) :: TB) rm_X7_planeOf (va_Pc [.ref o, .int (iI p), .int (iI x), .int (iI y)] (fun U => KA D cs U ∧ ModAt D cs U.heap o b fs v)) (vp_Si (fun r => r = iI (plD (pv v p 0) (pv v p 1) (pv v p 2) x y) ∧ (0 ≤ plD (pv v p 0) (pv v p 1) (pv v p 2) x y ∧ plD (pv v p 0) (pv v p 1) (pv v p 2) x y < 31))) 0 0 (fun _ => False) := by
  refine enter (cc := cX7_planeOf) (maxL := 4) (ret := (some .int)) (by decide) (Nat.le_of_ble_eq_true rfl) ?_
  intro pg ev s m below meth c Q ls hx hb hml hown hts hr hlocks hnm ⟨hK, hmod⟩ hl hQ
  have ht : ∀ w ∈ TB, w.before _ s = true := fun w h => hts w (List.mem_cons_of_mem _ h)
  have hl : lv_has ls 4 [(0, .ref o), (1, .int (iI p)), (2, .int (iI x)), (3, .int (iI y))] := hl
  obtain ⟨hPm, hf3, hvL⟩ := id hmod
  obtain ⟨hv20, hv21, hv22, hv23, hvp⟩ := id hvL
  obtain ⟨hvk, hvn, hvf, hvo, hvw⟩ := vL_p hvL hp
  have hnb := isPr_bd hvn
  have hpb := per_bd (k := pv v p 0) hvn
  have hfb := fOK_bd hvk hvn hvf
  refine lv_aload_n hx hb dX7_planeOf_0 rfl (lv_at hl 0 rfl) ?_
  refine lv_iload_n hx hb dX7_planeOf_1 rfl (lv_at hl 1 rfl) ?_
  refine lv_iload_n hx hb dX7_planeOf_2 rfl (lv_at hl 2 rfl) ?_
  refine vp_callSi (W.runV (As := [.int (iI p), .int (iI x)]) (rest := []) ⟨hx, hb, hml, hown, hts⟩ (c_X7_depth l D cs o b fs v p x hp (by omega)) (cwV 2 hts (gV tb_748 tb_750 tbs_24 tb_8 tb_751) rfl rfl rfl (by decide +kernel) ⟨Nat.le_of_ble_eq_true rfl, Nat.le_of_ble_eq_true rfl⟩) (preV_mod hK hmod) rfl rfl hl.1 rfl (lv_room (Nat.le_of_ble_eq_true rfl)) dX7_planeOf_3 ⟨Nat.le_of_ble_eq_true rfl, Nat.le_of_ble_eq_true rfl⟩) (fun r9 hr9 => ?_)
  obtain ⟨rfl, hx3_0⟩ := hr9
  refine lv_aload_n hx hb dX7_planeOf_6 rfl (lv_at hl 0 rfl) ?_
  refine lv_iload_n hx hb dX7_planeOf_7 rfl (lv_at hl 1 rfl) ?_
  refine lv_iload_n hx hb dX7_planeOf_8 rfl (lv_at hl 3 rfl) ?_
  refine vp_callSi (W.runV (As := [.int (iI p), .int (iI y)]) (rest := [.int (iI (dpt (pv v p 0) (pv v p 1) (pv v p 2) x))]) ⟨hx, hb, hml, hown, hts⟩ (c_X7_depth l D cs o b fs v p y hp (by omega)) (cwV 2 hts (gV tb_748 tb_750 tbs_24 tb_8 tb_751) rfl rfl rfl (by decide +kernel) ⟨Nat.le_of_ble_eq_true rfl, Nat.le_of_ble_eq_true rfl⟩) (preV_mod hK hmod) rfl rfl hl.1 rfl (lv_room (Nat.le_of_ble_eq_true rfl)) dX7_planeOf_9 ⟨Nat.le_of_ble_eq_true rfl, Nat.le_of_ble_eq_true rfl⟩) (fun r9 hr9 => ?_)
  obtain ⟨rfl, hx9_0⟩ := hr9
  refine rv_iadd hx hb dX7_planeOf_12 ?_
  refine lv_aload_n hx hb dX7_planeOf_13 rfl (lv_at hl 0 rfl) ?_
  refine va_get (D := D) (ci := 6) (v := .ref b) (C := RX7) (T := TX7) (N := 16) hx hb ht inTB_X7 hown hK hPm 0 rfl rfl 3 (by decide) (ht _ tb_591) (fun _ h9 => h9) hf3 dX7_planeOf_14 ?_
  refine rv_iconst hx hb dX7_planeOf_17 ?_
  refine lv_iload_n hx hb dX7_planeOf_18 rfl (lv_at hl 1 rfl) ?_
  refine rv_imul hx hb dX7_planeOf_19 ?_
  refine rv_iconst hx hb dX7_planeOf_20 ?_
  refine rv_iadd hx hb dX7_planeOf_21 ?_
  refine rv_iald hx hb hK hPm 1 0 rfl rfl (5 * p.toNat + 1) (by omega) (by omega) dX7_planeOf_22 ?_
  refine rv_top (y := pv v p 1) rfl ?_
  refine rv_irem hx hb dX7_planeOf_23 (by omega) ?_
  have hm23 := md_bd (x := (dpt (pv v p 0) (pv v p 1) (pv v p 2) x + dpt (pv v p 0) (pv v p 1) (pv v p 2) y)) (y := (pv v p 1)) (by omega)
  subst hQ
  exact W.iret hx hb hr (fun t9 ht9 hW9 => ⟨_, rfl, ⟨rfl, by unfold plD; omega⟩, ht9⟩) (fun _ h => absurd h List.not_mem_nil) dX7_planeOf_24

abbrev rm_X7_plane : Room := { frames := 3, cells := 0, slots := 0, locals := 73 }
set_option maxHeartbeats 4000000 in
set_option maxRecDepth 100000 in
/-- plane -/
theorem c_X7_plane (l : Launch) (D : va_G) (cs : Nat → ClassId) (o : Nat) (b : Nat) (fs : List Value) (v : Nat → Int) (p : Int) (x : Int) (y : Int) (hp0 : -2147483648 ≤ p ∧ p < 2147483648) (hx1 : -2147483648 ≤ x ∧ x < 2147483648) (hy1 : -2147483648 ≤ y ∧ y < 2147483648) : Met l yX7_plane (Cond.code yX7_plane cX7_plane 4 (some .int) :: TB) rm_X7_plane (va_Pc [.ref o, .int (iI p), .int (iI x), .int (iI y)] (fun U => KA D cs U ∧ ModAt D cs U.heap o b fs v)) (vp_Si (fun r => r = iI (aPlane v p x y))) 0 0 (fun _ => False) := by
  refine enter (cc := cX7_plane) (maxL := 4) (ret := (some .int)) (by decide) (Nat.le_of_ble_eq_true rfl) ?_
  intro pg ev s m below meth c Q ls hx hb hml hown hts hr hlocks hnm ⟨hK, hmod⟩ hl hQ
  have ht : ∀ w ∈ TB, w.before _ s = true := fun w h => hts w (List.mem_cons_of_mem _ h)
  have hl : lv_has ls 4 [(0, .ref o), (1, .int (iI p)), (2, .int (iI x)), (3, .int (iI y))] := hl
  obtain ⟨hPm, hf3, hvL⟩ := id hmod
  obtain ⟨hv20, hv21, hv22, hv23, hvp⟩ := id hvL
  refine lv_aload_n hx hb dX7_plane_0 rfl (lv_at hl 0 rfl) ?_
  refine lv_iload_n hx hb dX7_plane_1 rfl (lv_at hl 1 rfl) ?_
  refine vp_callSi (W.runV (As := [.int (iI p)]) (rest := []) ⟨hx, hb, hml, hown, hts⟩ (c_X7_isPanel l D cs o b fs v p (by omega)) (cwV 1 hts (gV tb_716 tb_718 tbs_20 tb_8 tb_719) rfl rfl rfl (by decide +kernel) ⟨Nat.le_of_ble_eq_true rfl, Nat.le_of_ble_eq_true rfl⟩) (preV_mod hK hmod) rfl rfl hl.1 rfl (lv_room (Nat.le_of_ble_eq_true rfl)) dX7_plane_2 ⟨Nat.le_of_ble_eq_true rfl, Nat.le_of_ble_eq_true rfl⟩) (fun r9 hr9 => ?_)
  rcases hr9 with ⟨rfl, hb2⟩ | ⟨rfl, hb2⟩
  · refine rv_if_eq (tgt := 52) hx hb dX7_plane_5 (by decide) (by decide) (fun q => absurd q (by decide)) (fun _ => ?_)
    obtain ⟨hvk, hvn, hvf, hvo, hvw⟩ := vL_p hvL hb2
    have hnb := isPr_bd hvn
    have hpb := per_bd (k := pv v p 0) hvn
    have hfb := fOK_bd hvk hvn hvf
    refine lv_iload_n hx hb dX7_plane_8 rfl (lv_at hl 2 rfl) ?_
    refine rv_i2l hx hb dX7_plane_9 (by omega) ?_
    refine rv_lconst (z := 0) hx hb dX7_plane_10 (by decide) ?_
    refine lv_aload_n hx hb dX7_plane_11 rfl (lv_at hl 0 rfl) ?_
    refine va_get (D := D) (ci := 6) (v := .ref b) (C := RX7) (T := TX7) (N := 16) hx hb ht inTB_X7 hown hK hPm 0 rfl rfl 3 (by decide) (ht _ tb_591) (fun _ h9 => h9) hf3 dX7_plane_12 ?_
    refine rv_iconst hx hb dX7_plane_15 ?_
    refine lv_iload_n hx hb dX7_plane_16 rfl (lv_at hl 1 rfl) ?_
    refine rv_imul hx hb dX7_plane_17 ?_
    refine rv_iconst hx hb dX7_plane_18 ?_
    refine rv_iadd hx hb dX7_plane_19 ?_
    refine rv_iald hx hb hK hPm 1 0 rfl rfl (5 * p.toNat + 1) (by omega) (by omega) dX7_plane_20 ?_
    refine rv_top (y := pv v p 1) rfl ?_
    refine rv_iconst hx hb dX7_plane_21 ?_
    refine rv_isub hx hb dX7_plane_22 ?_
    refine rv_i2l hx hb dX7_plane_23 (by omega) ?_
    refine vp_callSi (W.runS (As := [.long (lI x), .long (lI 0), .long (lI ((pv v p 1) - 1))]) (rest := []) ⟨hx, hb, hml, hown, hts⟩ (c_X7_in l x 0 ((pv v p 1) - 1) (by omega) (by omega) (by omega)) (va_cwS 3 hts (gS tb_649 tb_650 tb_8 tb_651) rfl rfl rfl (by decide +kernel) ⟨Nat.le_of_ble_eq_true rfl, Nat.le_of_ble_eq_true rfl⟩) preS0 rfl rfl hl.1 rfl (lv_room (Nat.le_of_ble_eq_true rfl)) dX7_plane_24 ⟨Nat.le_of_ble_eq_true rfl, Nat.le_of_ble_eq_true rfl⟩) (fun r9 hr9 => ?_)
    rcases hr9 with ⟨rfl, hb24⟩ | ⟨rfl, hb24⟩
    · refine rv_if_eq (tgt := 52) hx hb dX7_plane_27 (by decide) (by decide) (fun q => absurd q (by decide)) (fun _ => ?_)
      refine lv_iload_n hx hb dX7_plane_30 rfl (lv_at hl 3 rfl) ?_
      refine rv_i2l hx hb dX7_plane_31 (by omega) ?_
      refine rv_lconst (z := 0) hx hb dX7_plane_32 (by decide) ?_
      refine lv_aload_n hx hb dX7_plane_33 rfl (lv_at hl 0 rfl) ?_
      refine va_get (D := D) (ci := 6) (v := .ref b) (C := RX7) (T := TX7) (N := 16) hx hb ht inTB_X7 hown hK hPm 0 rfl rfl 3 (by decide) (ht _ tb_591) (fun _ h9 => h9) hf3 dX7_plane_34 ?_
      refine rv_iconst hx hb dX7_plane_37 ?_
      refine lv_iload_n hx hb dX7_plane_38 rfl (lv_at hl 1 rfl) ?_
      refine rv_imul hx hb dX7_plane_39 ?_
      refine rv_iconst hx hb dX7_plane_40 ?_
      refine rv_iadd hx hb dX7_plane_41 ?_
      refine rv_iald hx hb hK hPm 1 0 rfl rfl (5 * p.toNat + 1) (by omega) (by omega) dX7_plane_42 ?_
      refine rv_top (y := pv v p 1) rfl ?_
      refine rv_iconst hx hb dX7_plane_43 ?_
      refine rv_isub hx hb dX7_plane_44 ?_
      refine rv_i2l hx hb dX7_plane_45 (by omega) ?_
      refine vp_callSi (W.runS (As := [.long (lI y), .long (lI 0), .long (lI ((pv v p 1) - 1))]) (rest := []) ⟨hx, hb, hml, hown, hts⟩ (c_X7_in l y 0 ((pv v p 1) - 1) (by omega) (by omega) (by omega)) (va_cwS 3 hts (gS tb_649 tb_650 tb_8 tb_651) rfl rfl rfl (by decide +kernel) ⟨Nat.le_of_ble_eq_true rfl, Nat.le_of_ble_eq_true rfl⟩) preS0 rfl rfl hl.1 rfl (lv_room (Nat.le_of_ble_eq_true rfl)) dX7_plane_46 ⟨Nat.le_of_ble_eq_true rfl, Nat.le_of_ble_eq_true rfl⟩) (fun r9 hr9 => ?_)
      rcases hr9 with ⟨rfl, hb46⟩ | ⟨rfl, hb46⟩
      · refine rv_if_ne (tgt := 54) hx hb dX7_plane_49 (by decide) (by decide) (fun _ => ?_) (fun q => absurd q (by decide))
        refine lv_aload_n hx hb dX7_plane_54 rfl (lv_at hl 0 rfl) ?_
        refine lv_iload_n hx hb dX7_plane_55 rfl (lv_at hl 1 rfl) ?_
        refine lv_iload_n hx hb dX7_plane_56 rfl (lv_at hl 2 rfl) ?_
        refine lv_iload_n hx hb dX7_plane_57 rfl (lv_at hl 3 rfl) ?_
        refine vp_callSi (W.runV (As := [.int (iI p), .int (iI x), .int (iI y)]) (rest := []) ⟨hx, hb, hml, hown, hts⟩ (c_X7_planeOf l D cs o b fs v p x y hb2 (by omega) (by omega)) (cwV 3 hts (gV tb_781 tb_783 tbs_29 tb_8 tb_784) rfl rfl rfl (by decide +kernel) ⟨Nat.le_of_ble_eq_true rfl, Nat.le_of_ble_eq_true rfl⟩) (preV_mod hK hmod) rfl rfl hl.1 rfl (lv_room (Nat.le_of_ble_eq_true rfl)) dX7_plane_58 ⟨Nat.le_of_ble_eq_true rfl, Nat.le_of_ble_eq_true rfl⟩) (fun r9 hr9 => ?_)
        obtain ⟨rfl, hx58_0⟩ := hr9
        subst hQ
        exact W.iret hx hb hr (fun t9 ht9 hW9 => ⟨_, rfl, by rw [aPlane, cif_pos ⟨hb2, by omega, by omega⟩], ht9⟩) (fun _ h => absurd h List.not_mem_nil) dX7_plane_61
      · refine rv_if_ne (tgt := 54) hx hb dX7_plane_49 (by decide) (by decide) (fun q => absurd q (by decide)) (fun _ => ?_)
        refine rv_iconst hx hb dX7_plane_52 ?_
        subst hQ
        exact W.iret hx hb hr (fun t9 ht9 hW9 => ⟨_, rfl, by rw [aPlane, cif_neg (fun q => by first | exact hb2 q.1 | (have := q.2; omega))], ht9⟩) (fun _ h => absurd h List.not_mem_nil) dX7_plane_53
    · refine rv_if_eq (tgt := 52) hx hb dX7_plane_27 (by decide) (by decide) (fun _ => ?_) (fun q => absurd q (by decide))
      refine rv_iconst hx hb dX7_plane_52 ?_
      subst hQ
      exact W.iret hx hb hr (fun t9 ht9 hW9 => ⟨_, rfl, by rw [aPlane, cif_neg (fun q => by first | exact hb2 q.1 | (have := q.2; omega))], ht9⟩) (fun _ h => absurd h List.not_mem_nil) dX7_plane_53
  · refine rv_if_eq (tgt := 52) hx hb dX7_plane_5 (by decide) (by decide) (fun _ => ?_) (fun q => absurd q (by decide))
    refine rv_iconst hx hb dX7_plane_52 ?_
    subst hQ
    exact W.iret hx hb hr (fun t9 ht9 hW9 => ⟨_, rfl, by rw [aPlane, cif_neg (fun q => by first | exact hb2 q.1 | (have := q.2; omega))], ht9⟩) (fun _ h => absurd h List.not_mem_nil) dX7_plane_53

abbrev rm_X7_planes : Room := { frames := 3, cells := 0, slots := 0, locals := 73 }
set_option maxHeartbeats 4000000 in
set_option maxRecDepth 100000 in
/-- planes -/
theorem c_X7_planes (l : Launch) (D : va_G) (cs : Nat → ClassId) (o : Nat) (b : Nat) (fs : List Value) (v : Nat → Int) (p : Int) (d : Int) (hp0 : -2147483648 ≤ p ∧ p < 2147483648) (hd : -2147483648 ≤ d ∧ d < 2147483648) : Met l yX7_planes (Cond.code yX7_planes cX7_planes 6 (some .int) :: TB) rm_X7_planes (va_Pc [.ref o, .int (iI p), .int (iI d)] (fun U => KA D cs U ∧ ModAt D cs U.heap o b fs v)) (vp_Si (fun r => r = iI (aPlanes v p d))) 0 0 (fun _ => False) := by
  refine enter (cc := cX7_planes) (maxL := 6) (ret := (some .int)) (by decide) (Nat.le_of_ble_eq_true rfl) ?_
  intro pg ev s m below meth c Q ls hx hb hml hown hts hr hlocks hnm ⟨hK, hmod⟩ hl hQ
  have ht : ∀ w ∈ TB, w.before _ s = true := fun w h => hts w (List.mem_cons_of_mem _ h)
  have hl : lv_has ls 6 [(0, .ref o), (1, .int (iI p)), (2, .int (iI d))] := hl
  obtain ⟨hPm, hf3, hvL⟩ := id hmod
  obtain ⟨hv20, hv21, hv22, hv23, hvp⟩ := id hvL
  refine lv_aload_n hx hb dX7_planes_0 rfl (lv_at hl 0 rfl) ?_
  refine lv_iload_n hx hb dX7_planes_1 rfl (lv_at hl 1 rfl) ?_
  refine vp_callSi (W.runV (As := [.int (iI p)]) (rest := []) ⟨hx, hb, hml, hown, hts⟩ (c_X7_isPanel l D cs o b fs v p (by omega)) (cwV 1 hts (gV tb_716 tb_718 tbs_20 tb_8 tb_719) rfl rfl rfl (by decide +kernel) ⟨Nat.le_of_ble_eq_true rfl, Nat.le_of_ble_eq_true rfl⟩) (preV_mod hK hmod) rfl rfl hl.1 rfl (lv_room (Nat.le_of_ble_eq_true rfl)) dX7_planes_2 ⟨Nat.le_of_ble_eq_true rfl, Nat.le_of_ble_eq_true rfl⟩) (fun r9 hr9 => ?_)
  rcases hr9 with ⟨rfl, hb2⟩ | ⟨rfl, hb2⟩
  · refine rv_if_eq (tgt := 30) hx hb dX7_planes_5 (by decide) (by decide) (fun q => absurd q (by decide)) (fun _ => ?_)
    obtain ⟨hvk, hvn, hvf, hvo, hvw⟩ := vL_p hvL hb2
    have hnb := isPr_bd hvn
    have hpb := per_bd (k := pv v p 0) hvn
    have hfb := fOK_bd hvk hvn hvf
    refine lv_iload_n hx hb dX7_planes_8 rfl (lv_at hl 2 rfl) ?_
    refine rv_i2l hx hb dX7_planes_9 (by omega) ?_
    refine rv_lconst (z := 0) hx hb dX7_planes_10 (by decide) ?_
    refine lv_aload_n hx hb dX7_planes_11 rfl (lv_at hl 0 rfl) ?_
    refine va_get (D := D) (ci := 6) (v := .ref b) (C := RX7) (T := TX7) (N := 16) hx hb ht inTB_X7 hown hK hPm 0 rfl rfl 3 (by decide) (ht _ tb_591) (fun _ h9 => h9) hf3 dX7_planes_12 ?_
    refine rv_iconst hx hb dX7_planes_15 ?_
    refine lv_iload_n hx hb dX7_planes_16 rfl (lv_at hl 1 rfl) ?_
    refine rv_imul hx hb dX7_planes_17 ?_
    refine rv_iconst hx hb dX7_planes_18 ?_
    refine rv_iadd hx hb dX7_planes_19 ?_
    refine rv_iald hx hb hK hPm 1 0 rfl rfl (5 * p.toNat + 1) (by omega) (by omega) dX7_planes_20 ?_
    refine rv_top (y := pv v p 1) rfl ?_
    refine rv_iconst hx hb dX7_planes_21 ?_
    refine rv_isub hx hb dX7_planes_22 ?_
    refine rv_i2l hx hb dX7_planes_23 (by omega) ?_
    refine vp_callSi (W.runS (As := [.long (lI d), .long (lI 0), .long (lI ((pv v p 1) - 1))]) (rest := []) ⟨hx, hb, hml, hown, hts⟩ (c_X7_in l d 0 ((pv v p 1) - 1) (by omega) (by omega) (by omega)) (va_cwS 3 hts (gS tb_649 tb_650 tb_8 tb_651) rfl rfl rfl (by decide +kernel) ⟨Nat.le_of_ble_eq_true rfl, Nat.le_of_ble_eq_true rfl⟩) preS0 rfl rfl hl.1 rfl (lv_room (Nat.le_of_ble_eq_true rfl)) dX7_planes_24 ⟨Nat.le_of_ble_eq_true rfl, Nat.le_of_ble_eq_true rfl⟩) (fun r9 hr9 => ?_)
    rcases hr9 with ⟨rfl, hb24⟩ | ⟨rfl, hb24⟩
    · refine rv_if_ne (tgt := 32) hx hb dX7_planes_27 (by decide) (by decide) (fun _ => ?_) (fun q => absurd q (by decide))
      refine lv_aload_n hx hb dX7_planes_32 rfl (lv_at hl 0 rfl) ?_
      refine va_get (D := D) (ci := 6) (v := .ref b) (C := RX7) (T := TX7) (N := 16) hx hb ht inTB_X7 hown hK hPm 0 rfl rfl 3 (by decide) (ht _ tb_591) (fun _ h9 => h9) hf3 dX7_planes_33 ?_
      refine rv_iconst hx hb dX7_planes_36 ?_
      refine lv_iload_n hx hb dX7_planes_37 rfl (lv_at hl 1 rfl) ?_
      refine rv_imul hx hb dX7_planes_38 ?_
      refine rv_iconst hx hb dX7_planes_39 ?_
      refine rv_iadd hx hb dX7_planes_40 ?_
      refine rv_iald hx hb hK hPm 1 0 rfl rfl (5 * p.toNat + 1) (by omega) (by omega) dX7_planes_41 ?_
      refine rv_top (y := pv v p 1) rfl ?_
      refine lv_istore_n (lv' := [(3, .int (iI (pv v p 1))), (0, .ref o), (1, .int (iI p)), (2, .int (iI d))]) hx hb dX7_planes_42 rfl hl (by decide) rfl (fun ls hl => ?_)
      refine rv_iconst hx hb dX7_planes_43 ?_
      refine lv_istore (lv' := [(4, .int (iI 0)), (3, .int (iI (pv v p 1))), (0, .ref o), (1, .int (iI p)), (2, .int (iI d))]) hx hb dX7_planes_44 hl (by decide) rfl (fun ls hl => ?_)
      refine rv_iconst hx hb dX7_planes_46 ?_
      refine lv_istore (lv' := [(5, .int (iI 0)), (4, .int (iI 0)), (3, .int (iI (pv v p 1))), (0, .ref o), (1, .int (iI p)), (2, .int (iI d))]) hx hb dX7_planes_47 hl (by decide) rfl (fun ls hl => ?_)
      have hnn : pv v p 1 * pv v p 1 ≤ 31 * 31 := Int.mul_le_mul (by omega) (by omega) (by omega) (by omega)
      have hnz : 0 ≤ pv v p 1 * pv v p 1 := Int.mul_nonneg (by omega) (by omega)
      have loop49 : ∀ (fuel49 : Nat) (j : Nat), ((j : Int) ≤ pv v p 1 * pv v p 1) → (pv v p 1 * pv v p 1 - (j : Int)).toNat < fuel49 → ∀ (x4 x5 : Int), x4 = ppM (pv v p 0) (pv v p 1) (pv v p 2) d j → x5 = (j : Int) → ∀ ls : Array Slot, lv_has ls 6 [(0, .ref o), (1, .int (iI p)), (2, .int (iI d)), (3, .int (iI (pv v p 1))), (4, .int (iI x4)), (5, .int (iI x5))] → W pg l ev rm_X7_planes s m [.ref o, .int (iI p), .int (iI d)].toArray below meth c s.heap [] 0 0 Q (F0 m 49 ls []) := by
        intro fuel49
        induction fuel49 with
        | zero => intro j hj hfuel49; exact absurd hfuel49 (Nat.not_lt_zero _)
        | succ fuel49 ih49 =>
          intro j hj hfuel49 x4 x5 ex4 ex5 ls hl
          subst ex4 ex5
          have hjm := md_bd (x := (j : Int)) (y := pv v p 1) (by omega)
          have hjd : 0 ≤ (j : Int) / pv v p 1 := Int.ediv_nonneg (by omega) (by omega)
          have hje : (j : Int) / pv v p 1 ≤ (j : Int) := Int.ediv_le_self _ (by omega)
          refine lv_iload hx hb dX7_planes_49 (lv_at hl 5 rfl) ?_
          refine lv_iload_n hx hb dX7_planes_51 rfl (lv_at hl 3 rfl) ?_
          refine lv_iload_n hx hb dX7_planes_52 rfl (lv_at hl 3 rfl) ?_
          refine rv_imul hx hb dX7_planes_53 ?_
          refine rv_icmp_ge (tgt := 90) hx hb dX7_planes_54 (by decide) (by omega) (fun h54 => ?_) (fun h54 => ?_)
          · refine lv_iload hx hb dX7_planes_90 (lv_at hl 4 rfl) ?_
            subst hQ
            exact W.iret hx hb hr (fun t9 ht9 hW9 => ⟨_, rfl, by rw [aPlanes, cif_pos ⟨hb2, by omega⟩, show (pv v p 1 * pv v p 1).toNat = j by omega], ht9⟩) (fun _ h => absurd h List.not_mem_nil) dX7_planes_92
          · refine lv_iload hx hb dX7_planes_57 (lv_at hl 4 rfl) ?_
            refine lv_aload_n hx hb dX7_planes_59 rfl (lv_at hl 0 rfl) ?_
            refine lv_iload_n hx hb dX7_planes_60 rfl (lv_at hl 1 rfl) ?_
            refine lv_iload hx hb dX7_planes_61 (lv_at hl 5 rfl) ?_
            refine lv_iload_n hx hb dX7_planes_63 rfl (lv_at hl 3 rfl) ?_
            refine rv_irem hx hb dX7_planes_64 (by omega) ?_
            refine lv_iload hx hb dX7_planes_65 (lv_at hl 5 rfl) ?_
            refine lv_iload_n hx hb dX7_planes_67 rfl (lv_at hl 3 rfl) ?_
            refine rv_idiv hx hb dX7_planes_68 (by omega) ?_
            refine vp_callSi (W.runV (As := [.int (iI p), .int (iI ((j : Int) % (pv v p 1))), .int (iI ((j : Int) / (pv v p 1)))]) (rest := [.int (iI (ppM (pv v p 0) (pv v p 1) (pv v p 2) d j))]) ⟨hx, hb, hml, hown, hts⟩ (c_X7_planeOf l D cs o b fs v p ((j : Int) % (pv v p 1)) ((j : Int) / (pv v p 1)) hb2 (by omega) (by omega)) (cwV 3 hts (gV tb_781 tb_783 tbs_29 tb_8 tb_784) rfl rfl rfl (by decide +kernel) ⟨Nat.le_of_ble_eq_true rfl, Nat.le_of_ble_eq_true rfl⟩) (preV_mod hK hmod) rfl rfl hl.1 rfl (lv_room (Nat.le_of_ble_eq_true rfl)) dX7_planes_69 ⟨Nat.le_of_ble_eq_true rfl, Nat.le_of_ble_eq_true rfl⟩) (fun r9 hr9 => ?_)
            obtain ⟨rfl, hx69_0⟩ := hr9
            refine lv_iload_n hx hb dX7_planes_72 rfl (lv_at hl 2 rfl) ?_
            refine rv_icmp_ne (tgt := 80) hx hb dX7_planes_73 (by decide) (by omega) (fun h73 => ?_) (fun h73 => ?_)
            · refine rv_iconst hx hb dX7_planes_80 ?_
              refine rv_iadd hx hb dX7_planes_81 ?_
              refine lv_istore (lv' := [(4, .int (iI (ppM (pv v p 0) (pv v p 1) (pv v p 2) d j + 0))), (0, .ref o), (1, .int (iI p)), (2, .int (iI d)), (3, .int (iI (pv v p 1))), (5, .int (iI (j : Int)))]) hx hb dX7_planes_82 hl (by decide) rfl (fun ls hl => ?_)
              refine rv_iinc (k := 5) (lv' := [(5, .int (iI ((j : Int) + 1))), (4, .int (iI (ppM (pv v p 0) (pv v p 1) (pv v p 2) d j + 0))), (0, .ref o), (1, .int (iI p)), (2, .int (iI d)), (3, .int (iI (pv v p 1)))]) hx hb dX7_planes_84 hl rfl (by decide) rfl (fun ls hl => ?_)
              refine lv_goto (tgt := 49) hx hb dX7_planes_87 (by decide) ?_
              exact ih49 (j + 1) (by omega) (by omega) _ _ (by simp only [ppM]; first | rw [if_pos h73] | rw [if_neg h73]) (by omega) ls (lv_sub hl [2, 3, 4, 5, 1, 0] rfl)
            · refine rv_iconst hx hb dX7_planes_76 ?_
              refine lv_goto (tgt := 81) hx hb dX7_planes_77 (by decide) ?_
              refine rv_iadd hx hb dX7_planes_81 ?_
              refine lv_istore (lv' := [(4, .int (iI (ppM (pv v p 0) (pv v p 1) (pv v p 2) d j + 1))), (0, .ref o), (1, .int (iI p)), (2, .int (iI d)), (3, .int (iI (pv v p 1))), (5, .int (iI (j : Int)))]) hx hb dX7_planes_82 hl (by decide) rfl (fun ls hl => ?_)
              refine rv_iinc (k := 5) (lv' := [(5, .int (iI ((j : Int) + 1))), (4, .int (iI (ppM (pv v p 0) (pv v p 1) (pv v p 2) d j + 1))), (0, .ref o), (1, .int (iI p)), (2, .int (iI d)), (3, .int (iI (pv v p 1)))]) hx hb dX7_planes_84 hl rfl (by decide) rfl (fun ls hl => ?_)
              refine lv_goto (tgt := 49) hx hb dX7_planes_87 (by decide) ?_
              exact ih49 (j + 1) (by omega) (by omega) _ _ (by simp only [ppM]; first | rw [if_pos h73] | rw [if_neg h73]) (by omega) ls (lv_sub hl [2, 3, 4, 5, 1, 0] rfl)
      exact loop49 (_ + 1) 0 (by omega) (Nat.lt_succ_self _) _ _ rfl rfl ls (lv_sub hl [3, 4, 5, 2, 1, 0] rfl)
    · refine rv_if_ne (tgt := 32) hx hb dX7_planes_27 (by decide) (by decide) (fun q => absurd q (by decide)) (fun _ => ?_)
      refine rv_iconst hx hb dX7_planes_30 ?_
      subst hQ
      exact W.iret hx hb hr (fun t9 ht9 hW9 => ⟨_, rfl, by rw [aPlanes, cif_neg (fun q => by first | exact hb2 q.1 | (have := q.2; omega))], ht9⟩) (fun _ h => absurd h List.not_mem_nil) dX7_planes_31
  · refine rv_if_eq (tgt := 30) hx hb dX7_planes_5 (by decide) (by decide) (fun _ => ?_) (fun q => absurd q (by decide))
    refine rv_iconst hx hb dX7_planes_30 ?_
    subst hQ
    exact W.iret hx hb hr (fun t9 ht9 hW9 => ⟨_, rfl, by rw [aPlanes, cif_neg (fun q => by first | exact hb2 q.1 | (have := q.2; omega))], ht9⟩) (fun _ h => absurd h List.not_mem_nil) dX7_planes_31

abbrev rm_X7_panel : Room := { frames := 4, cells := 0, slots := 0, locals := 103 }
set_option maxHeartbeats 4000000 in
set_option maxRecDepth 100000 in
/-- panel -/
theorem c_X7_panel (l : Launch) (D : va_G) (cs : Nat → ClassId) (o : Nat) (b : Nat) (fs : List Value) (v : Nat → Int) (p : Int) (what : Int) (hp0 : -2147483648 ≤ p ∧ p < 2147483648) (hw : -2147483648 ≤ what ∧ what < 2147483648) : Met l yX7_panel (Cond.code yX7_panel cX7_panel 3 (some .int) :: TB) rm_X7_panel (va_Pc [.ref o, .int (iI p), .int (iI what)] (fun U => KA D cs U ∧ ModAt D cs U.heap o b fs v)) (vp_Si (fun r => r = iI (aPanel v p what))) 0 0 (fun _ => False) := by
  refine enter (cc := cX7_panel) (maxL := 3) (ret := (some .int)) (by decide) (Nat.le_of_ble_eq_true rfl) ?_
  intro pg ev s m below meth c Q ls hx hb hml hown hts hr hlocks hnm ⟨hK, hmod⟩ hl hQ
  have ht : ∀ w ∈ TB, w.before _ s = true := fun w h => hts w (List.mem_cons_of_mem _ h)
  have hl : lv_has ls 3 [(0, .ref o), (1, .int (iI p)), (2, .int (iI what))] := hl
  obtain ⟨hPm, hf3, hvL⟩ := id hmod
  obtain ⟨hv20, hv21, hv22, hv23, hvp⟩ := id hvL
  refine lv_aload_n hx hb dX7_panel_0 rfl (lv_at hl 0 rfl) ?_
  refine lv_iload_n hx hb dX7_panel_1 rfl (lv_at hl 1 rfl) ?_
  refine vp_callSi (W.runV (As := [.int (iI p)]) (rest := []) ⟨hx, hb, hml, hown, hts⟩ (c_X7_isPanel l D cs o b fs v p (by omega)) (cwV 1 hts (gV tb_716 tb_718 tbs_20 tb_8 tb_719) rfl rfl rfl (by decide +kernel) ⟨Nat.le_of_ble_eq_true rfl, Nat.le_of_ble_eq_true rfl⟩) (preV_mod hK hmod) rfl rfl hl.1 rfl (lv_room (Nat.le_of_ble_eq_true rfl)) dX7_panel_2 ⟨Nat.le_of_ble_eq_true rfl, Nat.le_of_ble_eq_true rfl⟩) (fun r9 hr9 => ?_)
  rcases hr9 with ⟨rfl, hb2⟩ | ⟨rfl, hb2⟩
  · refine rv_if_eq (tgt := 20) hx hb dX7_panel_5 (by decide) (by decide) (fun q => absurd q (by decide)) (fun _ => ?_)
    obtain ⟨hvk, hvn, hvf, hvo, hvw⟩ := vL_p hvL hb2
    have hnb := isPr_bd hvn
    have hpb := per_bd (k := pv v p 0) hvn
    have hfb := fOK_bd hvk hvn hvf
    refine lv_iload_n hx hb dX7_panel_8 rfl (lv_at hl 2 rfl) ?_
    refine rv_i2l hx hb dX7_panel_9 (by omega) ?_
    refine rv_lconst (z := 0) hx hb dX7_panel_10 (by decide) ?_
    refine lv_ldc2 (v := lI 10) hx hb hown (ht _ tb_768) dX7_panel_11 ?_
    refine vp_callSi (W.runS (As := [.long (lI what), .long (lI 0), .long (lI 10)]) (rest := []) ⟨hx, hb, hml, hown, hts⟩ (c_X7_in l what 0 10 (by omega) (by omega) (by omega)) (va_cwS 3 hts (gS tb_649 tb_650 tb_8 tb_651) rfl rfl rfl (by decide +kernel) ⟨Nat.le_of_ble_eq_true rfl, Nat.le_of_ble_eq_true rfl⟩) preS0 rfl rfl hl.1 rfl (lv_room (Nat.le_of_ble_eq_true rfl)) dX7_panel_14 ⟨Nat.le_of_ble_eq_true rfl, Nat.le_of_ble_eq_true rfl⟩) (fun r9 hr9 => ?_)
    rcases hr9 with ⟨rfl, hb14⟩ | ⟨rfl, hb14⟩
    · refine rv_if_ne (tgt := 22) hx hb dX7_panel_17 (by decide) (by decide) (fun _ => ?_) (fun q => absurd q (by decide))
      refine lv_iload_n hx hb dX7_panel_22 rfl (lv_at hl 2 rfl) ?_
      refine rv_iconst hx hb dX7_panel_23 ?_
      refine rv_icmp_ge (tgt := 40) hx hb dX7_panel_24 (by decide) (by omega) (fun h24 => ?_) (fun h24 => ?_)
      · refine lv_iload_n hx hb dX7_panel_40 rfl (lv_at hl 2 rfl) ?_
        refine rv_iconst hx hb dX7_panel_41 ?_
        refine rv_icmp_ne (tgt := 53) hx hb dX7_panel_42 (by decide) (by omega) (fun h42 => ?_) (fun h42 => ?_)
        · refine lv_iload_n hx hb dX7_panel_53 rfl (lv_at hl 2 rfl) ?_
          refine rv_bipush hx hb dX7_panel_54 (by decide) ?_
          refine rv_icmp_ge (tgt := 68) hx hb dX7_panel_56 (by decide) (by omega) (fun h56 => ?_) (fun h56 => ?_)
          · refine lv_aload_n hx hb dX7_panel_68 rfl (lv_at hl 0 rfl) ?_
            refine lv_iload_n hx hb dX7_panel_69 rfl (lv_at hl 1 rfl) ?_
            refine vp_callSi (W.runV (As := [.int (iI p)]) (rest := []) ⟨hx, hb, hml, hown, hts⟩ (c_X7_even l D cs o b fs v p hb2) (cwV 1 hts (gV tb_773 tb_775 tbs_28 tb_8 tb_776) rfl rfl rfl (by decide +kernel) ⟨Nat.le_of_ble_eq_true rfl, Nat.le_of_ble_eq_true rfl⟩) (preV_mod hK hmod) rfl rfl hl.1 rfl (lv_room (Nat.le_of_ble_eq_true rfl)) dX7_panel_70 ⟨Nat.le_of_ble_eq_true rfl, Nat.le_of_ble_eq_true rfl⟩) (fun r9 hr9 => ?_)
            subst hr9
            subst hQ
            exact W.iret hx hb hr (fun t9 ht9 hW9 => ⟨_, rfl, by rw [aPanel, cif_pos ⟨hb2, by omega⟩, cif_neg (by omega), cif_neg (by omega), cif_neg (by omega)], ht9⟩) (fun _ h => absurd h List.not_mem_nil) dX7_panel_73
          · refine lv_aload_n hx hb dX7_panel_59 rfl (lv_at hl 0 rfl) ?_
            refine lv_iload_n hx hb dX7_panel_60 rfl (lv_at hl 1 rfl) ?_
            refine lv_iload_n hx hb dX7_panel_61 rfl (lv_at hl 2 rfl) ?_
            refine vp_callSi (W.runV (As := [.int (iI p), .int (iI what)]) (rest := []) ⟨hx, hb, hml, hown, hts⟩ (c_X7_sumOf l D cs o b fs v p what hb2 (by omega)) (cwV 2 hts (gV tb_769 tb_771 tbs_27 tb_8 tb_772) rfl rfl rfl (by decide +kernel) ⟨Nat.le_of_ble_eq_true rfl, Nat.le_of_ble_eq_true rfl⟩) (preV_mod hK hmod) rfl rfl hl.1 rfl (lv_room (Nat.le_of_ble_eq_true rfl)) dX7_panel_62 ⟨Nat.le_of_ble_eq_true rfl, Nat.le_of_ble_eq_true rfl⟩) (fun r9 hr9 => ?_)
            subst hr9
            refine lv_goto (tgt := 73) hx hb dX7_panel_65 (by decide) ?_
            subst hQ
            exact W.iret hx hb hr (fun t9 ht9 hW9 => ⟨_, rfl, by rw [aPanel, cif_pos ⟨hb2, by omega⟩, cif_neg (by omega), cif_neg (by omega), cif_pos (by omega)], ht9⟩) (fun _ h => absurd h List.not_mem_nil) dX7_panel_73
        · refine lv_aload_n hx hb dX7_panel_45 rfl (lv_at hl 0 rfl) ?_
          refine lv_iload_n hx hb dX7_panel_46 rfl (lv_at hl 1 rfl) ?_
          refine vp_callSi (W.runV (As := [.int (iI p)]) (rest := []) ⟨hx, hb, hml, hown, hts⟩ (c_X7_period l D cs o b fs v p hb2) (cwV 1 hts (gV tb_752 tb_754 tbs_25 tb_8 tb_755) rfl rfl rfl (by decide +kernel) ⟨Nat.le_of_ble_eq_true rfl, Nat.le_of_ble_eq_true rfl⟩) (preV_mod hK hmod) rfl rfl hl.1 rfl (lv_room (Nat.le_of_ble_eq_true rfl)) dX7_panel_47 ⟨Nat.le_of_ble_eq_true rfl, Nat.le_of_ble_eq_true rfl⟩) (fun r9 hr9 => ?_)
          obtain ⟨rfl, hx47_0⟩ := hr9
          refine lv_goto (tgt := 73) hx hb dX7_panel_50 (by decide) ?_
          subst hQ
          exact W.iret hx hb hr (fun t9 ht9 hW9 => ⟨_, rfl, by rw [aPanel, cif_pos ⟨hb2, by omega⟩, cif_neg (by omega), cif_pos (by omega)], ht9⟩) (fun _ h => absurd h List.not_mem_nil) dX7_panel_73
      · refine lv_aload_n hx hb dX7_panel_27 rfl (lv_at hl 0 rfl) ?_
        refine va_get (D := D) (ci := 6) (v := .ref b) (C := RX7) (T := TX7) (N := 16) hx hb ht inTB_X7 hown hK hPm 0 rfl rfl 3 (by decide) (ht _ tb_591) (fun _ h9 => h9) hf3 dX7_panel_28 ?_
        refine rv_iconst hx hb dX7_panel_31 ?_
        refine lv_iload_n hx hb dX7_panel_32 rfl (lv_at hl 1 rfl) ?_
        refine rv_imul hx hb dX7_panel_33 ?_
        refine lv_iload_n hx hb dX7_panel_34 rfl (lv_at hl 2 rfl) ?_
        refine rv_iadd hx hb dX7_panel_35 ?_
        refine rv_iald hx hb hK hPm 1 0 rfl rfl (5 * p.toNat + what.toNat) (by omega) (by omega) dX7_panel_36 ?_
        refine lv_goto (tgt := 73) hx hb dX7_panel_37 (by decide) ?_
        subst hQ
        exact W.iret hx hb hr (fun t9 ht9 hW9 => ⟨_, rfl, by rw [aPanel, cif_pos ⟨hb2, by omega⟩, cif_pos (by omega)]; rfl, ht9⟩) (fun _ h => absurd h List.not_mem_nil) dX7_panel_73
    · refine rv_if_ne (tgt := 22) hx hb dX7_panel_17 (by decide) (by decide) (fun q => absurd q (by decide)) (fun _ => ?_)
      refine rv_iconst hx hb dX7_panel_20 ?_
      subst hQ
      exact W.iret hx hb hr (fun t9 ht9 hW9 => ⟨_, rfl, by rw [aPanel, cif_neg (fun q => by first | exact hb2 q.1 | (have := q.2; omega))], ht9⟩) (fun _ h => absurd h List.not_mem_nil) dX7_panel_21
  · refine rv_if_eq (tgt := 20) hx hb dX7_panel_5 (by decide) (by decide) (fun _ => ?_) (fun q => absurd q (by decide))
    refine rv_iconst hx hb dX7_panel_20 ?_
    subst hQ
    exact W.iret hx hb hr (fun t9 ht9 hW9 => ⟨_, rfl, by rw [aPanel, cif_neg (fun q => by first | exact hb2 q.1 | (have := q.2; omega))], ht9⟩) (fun _ h => absurd h List.not_mem_nil) dX7_panel_21

abbrev rm_X7_count : Room := { frames := 0, cells := 0, slots := 0, locals := 0 }
set_option maxHeartbeats 4000000 in
set_option maxRecDepth 100000 in
/-- count -/
theorem c_X7_count (l : Launch) (D : va_G) (cs : Nat → ClassId) (o : Nat) (b : Nat) (fs : List Value) (v : Nat → Int) (un : Int) (len : Int) (what : Int) (hf6 : fs[6]? = some (.int (iI un))) (hf0 : fs[0]? = some (.int (iI len))) (hw : -2147483648 ≤ what ∧ what < 2147483648) : Met l yX7_count (Cond.code yX7_count cX7_count 4 (some .int) :: TB) rm_X7_count (va_Pc [.ref o, .int (iI what)] (fun U => KA D cs U ∧ ModAt D cs U.heap o b fs v)) (vp_Si (fun r => r = iI (aCount v un len what))) 0 0 (fun _ => False) := by
  refine enter (cc := cX7_count) (maxL := 4) (ret := (some .int)) (by decide) (Nat.le_of_ble_eq_true rfl) ?_
  intro pg ev s m below meth c Q ls hx hb hml hown hts hr hlocks hnm ⟨hK, hmod⟩ hl hQ
  have ht : ∀ w ∈ TB, w.before _ s = true := fun w h => hts w (List.mem_cons_of_mem _ h)
  have hl : lv_has ls 4 [(0, .ref o), (1, .int (iI what))] := hl
  obtain ⟨hPm, hf3, hvL⟩ := id hmod
  obtain ⟨hv20, hv21, hv22, hv23, hvp⟩ := id hvL
  refine rv_iconst hx hb dX7_count_0 ?_
  refine lv_istore_n (lv' := [(2, .int (iI 0)), (0, .ref o), (1, .int (iI what))]) hx hb dX7_count_1 rfl hl (by decide) rfl (fun ls hl => ?_)
  refine rv_iconst hx hb dX7_count_2 ?_
  refine lv_istore_n (lv' := [(3, .int (iI 0)), (2, .int (iI 0)), (0, .ref o), (1, .int (iI what))]) hx hb dX7_count_3 rfl hl (by decide) rfl (fun ls hl => ?_)
  have loop4 : ∀ (fuel4 : Nat) (q : Nat), ((q : Int) ≤ v 20) → (v 20 - (q : Int)).toNat < fuel4 → ∀ (x2 x3 : Int), x2 = wsum v q → x3 = (q : Int) → ∀ ls : Array Slot, lv_has ls 4 [(0, .ref o), (1, .int (iI what)), (2, .int (iI x2)), (3, .int (iI x3))] → W pg l ev rm_X7_count s m [.ref o, .int (iI what)].toArray below meth c s.heap [] 0 0 Q (F0 m 4 ls []) := by
    intro fuel4
    induction fuel4 with
    | zero => intro q hq hfuel4; exact absurd hfuel4 (Nat.not_lt_zero _)
    | succ fuel4 ih4 =>
      intro q hq hfuel4 x2 x3 ex2 ex3 ls hl
      subst ex2 ex3
      refine lv_iload_n hx hb dX7_count_4 rfl (lv_at hl 3 rfl) ?_
      refine lv_aload_n hx hb dX7_count_5 rfl (lv_at hl 0 rfl) ?_
      refine va_get (D := D) (ci := 6) (v := .ref b) (C := RX7) (T := TX7) (N := 16) hx hb ht inTB_X7 hown hK hPm 0 rfl rfl 3 (by decide) (ht _ tb_591) (fun _ h9 => h9) hf3 dX7_count_6 ?_
      refine rv_bipush hx hb dX7_count_9 (by decide) ?_
      refine rv_iald hx hb hK hPm 1 0 rfl rfl 20 rfl (by omega) dX7_count_11 ?_
      refine rv_icmp_ge (tgt := 34) hx hb dX7_count_12 (by decide) (by omega) (fun h12 => ?_) (fun h12 => ?_)
      · refine lv_iload_n hx hb dX7_count_34 rfl (lv_at hl 1 rfl) ?_
        by_cases hc0 : what = 0
        · refine rv_top (y := 0) hc0 ?_
          refine lv_tableIn (tgt := 76) hx hb dX7_count_35 (by decide) (by decide) rfl (by decide) ?_
          refine lv_aload_n hx hb dX7_count_76 rfl (lv_at hl 0 rfl) ?_
          refine va_get (D := D) (ci := 6) (v := .ref b) (C := RX7) (T := TX7) (N := 16) hx hb ht inTB_X7 hown hK hPm 0 rfl rfl 3 (by decide) (ht _ tb_591) (fun _ h9 => h9) hf3 dX7_count_77 ?_
          refine rv_bipush hx hb dX7_count_80 (by decide) ?_
          refine rv_iald hx hb hK hPm 1 0 rfl rfl 20 rfl (by omega) dX7_count_82 ?_
          subst hQ
          exact W.iret hx hb hr (fun t9 ht9 hW9 => ⟨_, rfl, by rw [aCount, cif_pos hc0], ht9⟩) (fun _ h => absurd h List.not_mem_nil) dX7_count_83
        by_cases hc1 : what = 1
        · refine rv_top (y := 1) hc1 ?_
          refine lv_tableIn (tgt := 84) hx hb dX7_count_35 (by decide) (by decide) rfl (by decide) ?_
          refine lv_aload_n hx hb dX7_count_84 rfl (lv_at hl 0 rfl) ?_
          refine va_get (D := D) (ci := 6) (v := .ref b) (C := RX7) (T := TX7) (N := 16) hx hb ht inTB_X7 hown hK hPm 0 rfl rfl 3 (by decide) (ht _ tb_591) (fun _ h9 => h9) hf3 dX7_count_85 ?_
          refine rv_bipush hx hb dX7_count_88 (by decide) ?_
          refine lv_iload_n hx hb dX7_count_90 rfl (lv_at hl 1 rfl) ?_
          refine rv_iadd hx hb dX7_count_91 ?_
          refine rv_iconst hx hb dX7_count_92 ?_
          refine rv_isub hx hb dX7_count_93 ?_
          refine rv_iald hx hb hK hPm 1 0 rfl rfl ((21 + what - 1).toNat) (by omega) (by omega) dX7_count_94 ?_
          subst hQ
          exact W.iret hx hb hr (fun t9 ht9 hW9 => ⟨_, rfl, by rw [aCount]; first | rw [cif_neg hc0, cif_pos hc1, show (21 + what - 1).toNat = 21 by omega] | rw [cif_neg hc0, cif_neg hc1, cif_pos hc2, show (21 + what - 1).toNat = 22 by omega] | rw [cif_neg hc0, cif_neg hc1, cif_neg hc2, cif_pos hc3, show (21 + what - 1).toNat = 23 by omega], ht9⟩) (fun _ h => absurd h List.not_mem_nil) dX7_count_95
        by_cases hc2 : what = 2
        · refine rv_top (y := 2) hc2 ?_
          refine lv_tableIn (tgt := 84) hx hb dX7_count_35 (by decide) (by decide) rfl (by decide) ?_
          refine lv_aload_n hx hb dX7_count_84 rfl (lv_at hl 0 rfl) ?_
          refine va_get (D := D) (ci := 6) (v := .ref b) (C := RX7) (T := TX7) (N := 16) hx hb ht inTB_X7 hown hK hPm 0 rfl rfl 3 (by decide) (ht _ tb_591) (fun _ h9 => h9) hf3 dX7_count_85 ?_
          refine rv_bipush hx hb dX7_count_88 (by decide) ?_
          refine lv_iload_n hx hb dX7_count_90 rfl (lv_at hl 1 rfl) ?_
          refine rv_iadd hx hb dX7_count_91 ?_
          refine rv_iconst hx hb dX7_count_92 ?_
          refine rv_isub hx hb dX7_count_93 ?_
          refine rv_iald hx hb hK hPm 1 0 rfl rfl ((21 + what - 1).toNat) (by omega) (by omega) dX7_count_94 ?_
          subst hQ
          exact W.iret hx hb hr (fun t9 ht9 hW9 => ⟨_, rfl, by rw [aCount]; first | rw [cif_neg hc0, cif_pos hc1, show (21 + what - 1).toNat = 21 by omega] | rw [cif_neg hc0, cif_neg hc1, cif_pos hc2, show (21 + what - 1).toNat = 22 by omega] | rw [cif_neg hc0, cif_neg hc1, cif_neg hc2, cif_pos hc3, show (21 + what - 1).toNat = 23 by omega], ht9⟩) (fun _ h => absurd h List.not_mem_nil) dX7_count_95
        by_cases hc3 : what = 3
        · refine rv_top (y := 3) hc3 ?_
          refine lv_tableIn (tgt := 84) hx hb dX7_count_35 (by decide) (by decide) rfl (by decide) ?_
          refine lv_aload_n hx hb dX7_count_84 rfl (lv_at hl 0 rfl) ?_
          refine va_get (D := D) (ci := 6) (v := .ref b) (C := RX7) (T := TX7) (N := 16) hx hb ht inTB_X7 hown hK hPm 0 rfl rfl 3 (by decide) (ht _ tb_591) (fun _ h9 => h9) hf3 dX7_count_85 ?_
          refine rv_bipush hx hb dX7_count_88 (by decide) ?_
          refine lv_iload_n hx hb dX7_count_90 rfl (lv_at hl 1 rfl) ?_
          refine rv_iadd hx hb dX7_count_91 ?_
          refine rv_iconst hx hb dX7_count_92 ?_
          refine rv_isub hx hb dX7_count_93 ?_
          refine rv_iald hx hb hK hPm 1 0 rfl rfl ((21 + what - 1).toNat) (by omega) (by omega) dX7_count_94 ?_
          subst hQ
          exact W.iret hx hb hr (fun t9 ht9 hW9 => ⟨_, rfl, by rw [aCount]; first | rw [cif_neg hc0, cif_pos hc1, show (21 + what - 1).toNat = 21 by omega] | rw [cif_neg hc0, cif_neg hc1, cif_pos hc2, show (21 + what - 1).toNat = 22 by omega] | rw [cif_neg hc0, cif_neg hc1, cif_neg hc2, cif_pos hc3, show (21 + what - 1).toNat = 23 by omega], ht9⟩) (fun _ h => absurd h List.not_mem_nil) dX7_count_95
        by_cases hc4 : what = 4
        · refine rv_top (y := 4) hc4 ?_
          refine lv_tableIn (tgt := 96) hx hb dX7_count_35 (by decide) (by decide) rfl (by decide) ?_
          refine lv_aload_n hx hb dX7_count_96 rfl (lv_at hl 0 rfl) ?_
          refine va_get (D := D) (ci := 6) (v := .int (iI un)) (C := RX7) (T := TX7) (N := 16) hx hb ht inTB_X7 hown hK hPm 0 rfl rfl 6 (by decide) (ht _ tb_594) (fun _ h9 => h9) hf6 dX7_count_97 ?_
          subst hQ
          exact W.iret hx hb hr (fun t9 ht9 hW9 => ⟨_, rfl, by rw [aCount, cif_neg hc0, cif_neg hc1, cif_neg hc2, cif_neg hc3, cif_pos hc4], ht9⟩) (fun _ h => absurd h List.not_mem_nil) dX7_count_100
        by_cases hc5 : what = 5
        · refine rv_top (y := 5) hc5 ?_
          refine lv_tableIn (tgt := 101) hx hb dX7_count_35 (by decide) (by decide) rfl (by decide) ?_
          refine lv_aload_n hx hb dX7_count_101 rfl (lv_at hl 0 rfl) ?_
          refine va_get (D := D) (ci := 6) (v := .int (iI len)) (C := RX7) (T := TX7) (N := 16) hx hb ht inTB_X7 hown hK hPm 0 rfl rfl 0 (by decide) (ht _ tb_588) (fun _ h9 => h9) hf0 dX7_count_102 ?_
          subst hQ
          exact W.iret hx hb hr (fun t9 ht9 hW9 => ⟨_, rfl, by rw [aCount, cif_neg hc0, cif_neg hc1, cif_neg hc2, cif_neg hc3, cif_neg hc4, cif_pos hc5], ht9⟩) (fun _ h => absurd h List.not_mem_nil) dX7_count_105
        by_cases hc6 : what = 6
        · refine rv_top (y := 6) hc6 ?_
          refine lv_tableIn (tgt := 106) hx hb dX7_count_35 (by decide) (by decide) rfl (by decide) ?_
          refine lv_iload_n hx hb dX7_count_106 rfl (lv_at hl 2 rfl) ?_
          subst hQ
          exact W.iret hx hb hr (fun t9 ht9 hW9 => ⟨_, rfl, by rw [aCount, cif_neg hc0, cif_neg hc1, cif_neg hc2, cif_neg hc3, cif_neg hc4, cif_neg hc5, cif_pos hc6, show (v 20).toNat = q by omega], ht9⟩) (fun _ h => absurd h List.not_mem_nil) dX7_count_107
        refine lv_tableOut (tgt := 108) hx hb dX7_count_35 (by rw [iI_toInt (by omega)]; omega) (by decide) ?_
        refine rv_iconst hx hb dX7_count_108 ?_
        subst hQ
        exact W.iret hx hb hr (fun t9 ht9 hW9 => ⟨_, rfl, by rw [aCount, cif_neg hc0, cif_neg hc1, cif_neg hc2, cif_neg hc3, cif_neg hc4, cif_neg hc5, cif_neg hc6], ht9⟩) (fun _ h => absurd h List.not_mem_nil) dX7_count_109
      · refine lv_iload_n hx hb dX7_count_15 rfl (lv_at hl 2 rfl) ?_
        refine lv_aload_n hx hb dX7_count_16 rfl (lv_at hl 0 rfl) ?_
        refine va_get (D := D) (ci := 6) (v := .ref b) (C := RX7) (T := TX7) (N := 16) hx hb ht inTB_X7 hown hK hPm 0 rfl rfl 3 (by decide) (ht _ tb_591) (fun _ h9 => h9) hf3 dX7_count_17 ?_
        refine rv_iconst hx hb dX7_count_20 ?_
        refine lv_iload_n hx hb dX7_count_21 rfl (lv_at hl 3 rfl) ?_
        refine rv_imul hx hb dX7_count_22 ?_
        refine rv_iconst hx hb dX7_count_23 ?_
        refine rv_iadd hx hb dX7_count_24 ?_
        refine rv_iald hx hb hK hPm 1 0 rfl rfl (5 * (q : Int).toNat + 4) (by omega) (by omega) dX7_count_25 ?_
        refine rv_top (y := pv v (q : Int) 4) rfl ?_
        refine rv_iadd hx hb dX7_count_26 ?_
        refine lv_istore_n (lv' := [(2, .int (iI (wsum v q + (pv v (q : Int) 4)))), (0, .ref o), (1, .int (iI what)), (3, .int (iI (q : Int)))]) hx hb dX7_count_27 rfl hl (by decide) rfl (fun ls hl => ?_)
        refine rv_iinc (k := 3) (lv' := [(3, .int (iI ((q : Int) + 1))), (2, .int (iI (wsum v q + (pv v (q : Int) 4)))), (0, .ref o), (1, .int (iI what))]) hx hb dX7_count_28 hl rfl (by decide) rfl (fun ls hl => ?_)
        refine lv_goto (tgt := 4) hx hb dX7_count_31 (by decide) ?_
        exact ih4 (q + 1) (by omega) (by omega) _ _ (by rw [wsum, pv, Int.toNat_natCast]) (by omega) ls (lv_sub hl [2, 3, 1, 0] rfl)
  exact loop4 (_ + 1) 0 (by omega) (Nat.lt_succ_self _) _ _ rfl rfl ls (lv_sub hl [2, 3, 1, 0] rfl)

