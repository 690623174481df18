/-! Panel: what it is asked -/
theorem preV_pan {D : va_G} {cs : Nat → ClassId} {A : Nat → Prop} {s : State} {H : Heap} {a : Nat} {k n f o w : Int} {vs : List Value} (hK : KA D cs s) (h : PanelAt D cs A H a k n f o w) : PreV s H "SoundWells$Panel" a (va_Pc (.ref a :: vs) (fun U => KA D cs U ∧ PanelAt D cs (fun _ => False) U.heap a k n f o w)) vs := preV_of (Bf := fun U H => KA D cs U ∧ PanelAt D cs (fun _ => False) H a k n f o w) (Stb_and (KA_stb D cs) Stb_H) (h.recv hK) ⟨hK, h.any⟩

abbrev rm_X1_factorFits : Room := { frames := 1, cells := 0, slots := 0, locals := 24 }
set_option maxHeartbeats 4000000 in
set_option maxRecDepth 100000 in
/-- factorFits -/
theorem c_X1_factorFits (l : Launch) (k : Int) (n : Int) (f : Int) (hk : 0 ≤ k ∧ k ≤ 2) (hn : isPr n) (hf : -2147483648 ≤ f ∧ f < 2147483648) : Met l yX1_factorFits (Cond.code yX1_factorFits cX1_factorFits 3 (some .boolean) :: TB) rm_X1_factorFits (va_Pc [.int (iI k), .int (iI n), .int (iI f)] (fun _ => True)) (vp_Si (fun r => (r = iI 1 ∧ (fOK k n f)) ∨ (r = iI 0 ∧ ¬ (fOK k n f)))) 0 0 (fun _ => False) := by
  refine enter (cc := cX1_factorFits) (maxL := 3) (ret := (some .boolean)) (by decide) (Nat.le_of_ble_eq_true rfl) ?_
  intro pg ev s m below meth c Q ls hx hb hml hown hts hr hlocks hnm _ hl hQ
  have ht : ∀ w ∈ TB, w.before _ s = true := fun w h => hts w (List.mem_cons_of_mem _ h)
  have hl : lv_has ls 3 [(0, .int (iI k)), (1, .int (iI n)), (2, .int (iI f))] := hl
  have hnb := isPr_bd hn
  refine lv_iload_n hx hb dX1_factorFits_0 rfl (lv_at hl 0 rfl) ?_
  refine rv_if_ne (tgt := 20) hx hb dX1_factorFits_1 (by decide) (by omega) (fun h1 => ?_) (fun h1 => ?_)
  · refine lv_iload_n hx hb dX1_factorFits_20 rfl (lv_at hl 0 rfl) ?_
    refine rv_iconst hx hb dX1_factorFits_21 ?_
    refine rv_icmp_ne (tgt := 31) hx hb dX1_factorFits_22 (by decide) (by omega) (fun h22 => ?_) (fun h22 => ?_)
    · refine lv_iload_n hx hb dX1_factorFits_31 rfl (lv_at hl 2 rfl) ?_
      refine rv_iconst hx hb dX1_factorFits_32 ?_
      refine rv_icmp_lt (tgt := 46) hx hb dX1_factorFits_33 (by decide) (by omega) (fun h33 => ?_) (fun h33 => ?_)
      · refine rv_iconst hx hb dX1_factorFits_46 ?_
        subst hQ
        exact W.zret (ty := .boolean) hx hb hr (by decide) (fun t9 ht9 hW9 => ⟨_, rfl, Or.inr ⟨rfl, fun q => by have := q.2.2 (by omega); omega⟩, ht9⟩) (fun _ h => absurd h List.not_mem_nil) dX1_factorFits_47
      · refine lv_iload_n hx hb dX1_factorFits_36 rfl (lv_at hl 2 rfl) ?_
        refine rv_bipush hx hb dX1_factorFits_37 (by decide) ?_
        refine rv_icmp_gt (tgt := 46) hx hb dX1_factorFits_39 (by decide) (by omega) (fun h39 => ?_) (fun h39 => ?_)
        · refine rv_iconst hx hb dX1_factorFits_46 ?_
          subst hQ
          exact W.zret (ty := .boolean) hx hb hr (by decide) (fun t9 ht9 hW9 => ⟨_, rfl, Or.inr ⟨rfl, fun q => by have := q.2.2 (by omega); omega⟩, ht9⟩) (fun _ h => absurd h List.not_mem_nil) dX1_factorFits_47
        · refine rv_iconst hx hb dX1_factorFits_42 ?_
          refine lv_goto (tgt := 47) hx hb dX1_factorFits_43 (by decide) ?_
          subst hQ
          exact W.zret (ty := .boolean) hx hb hr (by decide) (fun t9 ht9 hW9 => ⟨_, rfl, Or.inl ⟨rfl, fun q => by omega, fun q => by omega, fun _ => by omega⟩, ht9⟩) (fun _ h => absurd h List.not_mem_nil) dX1_factorFits_47
    · refine lv_iload_n hx hb dX1_factorFits_25 rfl (lv_at hl 2 rfl) ?_
      refine lv_iload_n hx hb dX1_factorFits_26 rfl (lv_at hl 1 rfl) ?_
      refine vp_callSi (W.runS (As := [.int (iI f), .int (iI n)]) (rest := []) ⟨hx, hb, hml, hown, hts⟩ (c_X0_isRoot l f n (by omega) hn) (va_cwS 2 hts (gS tb_280 tb_281 tb_6 tb_282) rfl rfl rfl (by decide +kernel) ⟨Nat.le_of_ble_eq_true rfl, Nat.le_of_ble_eq_true rfl⟩) preS0 rfl rfl hl.1 rfl (lv_room (Nat.le_of_ble_eq_true rfl)) dX1_factorFits_27 ⟨Nat.le_of_ble_eq_true rfl, Nat.le_of_ble_eq_true rfl⟩) (fun r9 hr9 => ?_)
      rcases hr9 with ⟨rfl, hb27⟩ | ⟨rfl, hb27⟩
      · subst hQ
        exact W.zret (ty := .boolean) hx hb hr (by decide) (fun t9 ht9 hW9 => ⟨_, rfl, Or.inl ⟨rfl, fun q => by omega, fun _ => hb27, fun q => by omega⟩, ht9⟩) (fun _ h => absurd h List.not_mem_nil) dX1_factorFits_30
      · subst hQ
        exact W.zret (ty := .boolean) hx hb hr (by decide) (fun t9 ht9 hW9 => ⟨_, rfl, Or.inr ⟨rfl, fun q => hb27 (q.2.1 (by omega))⟩, ht9⟩) (fun _ h => absurd h List.not_mem_nil) dX1_factorFits_30
  · refine lv_iload_n hx hb dX1_factorFits_4 rfl (lv_at hl 2 rfl) ?_
    refine rv_iconst hx hb dX1_factorFits_5 ?_
    refine rv_icmp_lt (tgt := 18) hx hb dX1_factorFits_6 (by decide) (by omega) (fun h6 => ?_) (fun h6 => ?_)
    · refine rv_iconst hx hb dX1_factorFits_18 ?_
      subst hQ
      exact W.zret (ty := .boolean) hx hb hr (by decide) (fun t9 ht9 hW9 => ⟨_, rfl, Or.inr ⟨rfl, fun q => by have := q.1 (by omega); omega⟩, ht9⟩) (fun _ h => absurd h List.not_mem_nil) dX1_factorFits_19
    · refine lv_iload_n hx hb dX1_factorFits_9 rfl (lv_at hl 2 rfl) ?_
      refine lv_iload_n hx hb dX1_factorFits_10 rfl (lv_at hl 1 rfl) ?_
      refine rv_icmp_ge (tgt := 18) hx hb dX1_factorFits_11 (by decide) (by omega) (fun h11 => ?_) (fun h11 => ?_)
      · refine rv_iconst hx hb dX1_factorFits_18 ?_
        subst hQ
        exact W.zret (ty := .boolean) hx hb hr (by decide) (fun t9 ht9 hW9 => ⟨_, rfl, Or.inr ⟨rfl, fun q => by have := q.1 (by omega); omega⟩, ht9⟩) (fun _ h => absurd h List.not_mem_nil) dX1_factorFits_19
      · refine rv_iconst hx hb dX1_factorFits_14 ?_
        refine lv_goto (tgt := 19) hx hb dX1_factorFits_15 (by decide) ?_
        subst hQ
        exact W.zret (ty := .boolean) hx hb hr (by decide) (fun t9 ht9 hW9 => ⟨_, rfl, Or.inl ⟨rfl, fun _ => by omega, fun q => by omega, fun q => by omega⟩, ht9⟩) (fun _ h => absurd h List.not_mem_nil) dX1_factorFits_19

abbrev rm_X1_offsetFits : Room := { frames := 0, cells := 0, slots := 0, locals := 0 }
set_option maxHeartbeats 4000000 in
set_option maxRecDepth 100000 in
/-- offsetFits -/
theorem c_X1_offsetFits (l : Launch) (n : Int) (o : Int) (hn : -2147483648 ≤ n ∧ n < 2147483648) (ho : -2147483648 ≤ o ∧ o < 2147483648) : Met l yX1_offsetFits (Cond.code yX1_offsetFits cX1_offsetFits 2 (some .boolean) :: TB) rm_X1_offsetFits (va_Pc [.int (iI n), .int (iI o)] (fun _ => True)) (vp_Si (fun r => (r = iI 1 ∧ (0 ≤ o ∧ o < n)) ∨ (r = iI 0 ∧ ¬ (0 ≤ o ∧ o < n)))) 0 0 (fun _ => False) := by
  refine enter (cc := cX1_offsetFits) (maxL := 2) (ret := (some .boolean)) (by decide) (Nat.le_of_ble_eq_true rfl) ?_
  intro pg ev s m below meth c Q ls hx hb hml hown hts hr hlocks hnm _ hl hQ
  have ht : ∀ w ∈ TB, w.before _ s = true := fun w h => hts w (List.mem_cons_of_mem _ h)
  have hl : lv_has ls 2 [(0, .int (iI n)), (1, .int (iI o))] := hl
  refine lv_iload_n hx hb dX1_offsetFits_0 rfl (lv_at hl 1 rfl) ?_
  refine rv_if_lt (tgt := 13) hx hb dX1_offsetFits_1 (by decide) (by omega) (fun h1 => ?_) (fun h1 => ?_)
  · refine rv_iconst hx hb dX1_offsetFits_13 ?_
    subst hQ
    exact W.zret (ty := .boolean) hx hb hr (by decide) (fun t9 ht9 hW9 => ⟨_, rfl, Or.inr ⟨rfl, fun q => by omega⟩, ht9⟩) (fun _ h => absurd h List.not_mem_nil) dX1_offsetFits_14
  · refine lv_iload_n hx hb dX1_offsetFits_4 rfl (lv_at hl 1 rfl) ?_
    refine lv_iload_n hx hb dX1_offsetFits_5 rfl (lv_at hl 0 rfl) ?_
    refine rv_icmp_ge (tgt := 13) hx hb dX1_offsetFits_6 (by decide) (by omega) (fun h6 => ?_) (fun h6 => ?_)
    · refine rv_iconst hx hb dX1_offsetFits_13 ?_
      subst hQ
      exact W.zret (ty := .boolean) hx hb hr (by decide) (fun t9 ht9 hW9 => ⟨_, rfl, Or.inr ⟨rfl, fun q => by omega⟩, ht9⟩) (fun _ h => absurd h List.not_mem_nil) dX1_offsetFits_14
    · refine rv_iconst hx hb dX1_offsetFits_9 ?_
      refine lv_goto (tgt := 14) hx hb dX1_offsetFits_10 (by decide) ?_
      subst hQ
      exact W.zret (ty := .boolean) hx hb hr (by decide) (fun t9 ht9 hW9 => ⟨_, rfl, Or.inl ⟨rfl, by omega⟩, ht9⟩) (fun _ h => absurd h List.not_mem_nil) dX1_offsetFits_14

abbrev rm_X1_wellsFit : Room := { frames := 0, cells := 0, slots := 0, locals := 0 }
set_option maxHeartbeats 4000000 in
set_option maxRecDepth 100000 in
/-- wellsFit -/
theorem c_X1_wellsFit (l : Launch) (w : Int) (hw : -2147483648 ≤ w ∧ w < 2147483648) : Met l yX1_wellsFit (Cond.code yX1_wellsFit cX1_wellsFit 1 (some .boolean) :: TB) rm_X1_wellsFit (va_Pc [.int (iI w)] (fun _ => True)) (vp_Si (fun r => (r = iI 1 ∧ (1 ≤ w ∧ w ≤ 40)) ∨ (r = iI 0 ∧ ¬ (1 ≤ w ∧ w ≤ 40)))) 0 0 (fun _ => False) := by
  refine enter (cc := cX1_wellsFit) (maxL := 1) (ret := (some .boolean)) (by decide) (Nat.le_of_ble_eq_true rfl) ?_
  intro pg ev s m below meth c Q ls hx hb hml hown hts hr hlocks hnm _ hl hQ
  have ht : ∀ w ∈ TB, w.before _ s = true := fun w h => hts w (List.mem_cons_of_mem _ h)
  have hl : lv_has ls 1 [(0, .int (iI w))] := hl
  refine lv_iload_n hx hb dX1_wellsFit_0 rfl (lv_at hl 0 rfl) ?_
  refine rv_iconst hx hb dX1_wellsFit_1 ?_
  refine rv_icmp_lt (tgt := 15) hx hb dX1_wellsFit_2 (by decide) (by omega) (fun h2 => ?_) (fun h2 => ?_)
  · refine rv_iconst hx hb dX1_wellsFit_15 ?_
    subst hQ
    exact W.zret (ty := .boolean) hx hb hr (by decide) (fun t9 ht9 hW9 => ⟨_, rfl, Or.inr ⟨rfl, fun q => by omega⟩, ht9⟩) (fun _ h => absurd h List.not_mem_nil) dX1_wellsFit_16
  · refine lv_iload_n hx hb dX1_wellsFit_5 rfl (lv_at hl 0 rfl) ?_
    refine rv_bipush hx hb dX1_wellsFit_6 (by decide) ?_
    refine rv_icmp_gt (tgt := 15) hx hb dX1_wellsFit_8 (by decide) (by omega) (fun h8 => ?_) (fun h8 => ?_)
    · refine rv_iconst hx hb dX1_wellsFit_15 ?_
      subst hQ
      exact W.zret (ty := .boolean) hx hb hr (by decide) (fun t9 ht9 hW9 => ⟨_, rfl, Or.inr ⟨rfl, fun q => by omega⟩, ht9⟩) (fun _ h => absurd h List.not_mem_nil) dX1_wellsFit_16
    · refine rv_iconst hx hb dX1_wellsFit_11 ?_
      refine lv_goto (tgt := 16) hx hb dX1_wellsFit_12 (by decide) ?_
      subst hQ
      exact W.zret (ty := .boolean) hx hb hr (by decide) (fun t9 ht9 hW9 => ⟨_, rfl, Or.inl ⟨rfl, by omega⟩, ht9⟩) (fun _ h => absurd h List.not_mem_nil) dX1_wellsFit_16

abbrev rm_X1_allows : Room := { frames := 2, cells := 0, slots := 0, locals := 46 }
set_option maxHeartbeats 4000000 in
set_option maxRecDepth 100000 in
/-- allows -/
theorem c_X1_allows (l : Launch) (D : va_G) (cs : Nat → ClassId) (a : Nat) (k : Int) (n : Int) (f : Int) (o : Int) (w : Int) (what : Int) (v : Int) (hw : -2147483648 ≤ what ∧ what < 2147483648) (hv0 : -2147483648 ≤ v ∧ v < 2147483648) : Met l yX1_allows (Cond.code yX1_allows cX1_allows 3 (some .boolean) :: TB) rm_X1_allows (va_Pc [.ref a, .int (iI what), .int (iI v)] (fun U => KA D cs U ∧ PanelAt D cs (fun _ => False) U.heap a k n f o w)) (vp_Si (fun r => (r = iI 1 ∧ ((what = 0 ∧ fOK k n v) ∨ (what = 1 ∧ 0 ≤ v ∧ v < n) ∨ (what = 2 ∧ 1 ≤ v ∧ v ≤ 40))) ∨ (r = iI 0 ∧ ¬ ((what = 0 ∧ fOK k n v) ∨ (what = 1 ∧ 0 ≤ v ∧ v < n) ∨ (what = 2 ∧ 1 ≤ v ∧ v ≤ 40))))) 0 0 (fun _ => False) := by
  refine enter (cc := cX1_allows) (maxL := 3) (ret := (some .boolean)) (by decide) (Nat.le_of_ble_eq_true rfl) ?_
  intro pg ev s m below meth c Q ls hx hb hml hown hts hr hlocks hnm ⟨hK, hpan⟩ hl hQ
  have ht : ∀ w ∈ TB, w.before _ s = true := fun w h => hts w (List.mem_cons_of_mem _ h)
  have hl : lv_has ls 3 [(0, .ref a), (1, .int (iI what)), (2, .int (iI v))] := hl
  obtain ⟨hv, r, row, hPn, -, -, hrow⟩ := id hpan
  obtain ⟨hvk, hvn, hvf, hvo, hvw⟩ := hv
  have hnb := isPr_bd hvn
  have hpb := per_bd (k := k) hvn
  have hfb := fOK_bd hvk hvn hvf
  refine lv_iload_n hx hb dX1_allows_0 rfl (lv_at hl 1 rfl) ?_
  by_cases hc0 : what = 0
  · refine rv_top (y := 0) hc0 ?_
    refine lv_tableIn (tgt := 28) hx hb dX1_allows_1 (by decide) (by decide) rfl (by decide) ?_
    refine lv_aload_n hx hb dX1_allows_28 rfl (lv_at hl 0 rfl) ?_
    refine va_get (D := D) (ci := 0) (v := .int (iI k)) (C := RX1) (T := TX1) (N := 7) hx hb ht inTB_X1 hown hK hPn 0 rfl rfl 0 (by decide) (ht _ tb_141) (fun _ h9 => h9) rfl dX1_allows_29 ?_
    refine lv_aload_n hx hb dX1_allows_32 rfl (lv_at hl 0 rfl) ?_
    refine va_get (D := D) (ci := 0) (v := .int (iI n)) (C := RX1) (T := TX1) (N := 7) hx hb ht inTB_X1 hown hK hPn 0 rfl rfl 1 (by decide) (ht _ tb_143) (fun _ h9 => h9) rfl dX1_allows_33 ?_
    refine lv_iload_n hx hb dX1_allows_36 rfl (lv_at hl 2 rfl) ?_
    refine vp_callSi (W.runS (As := [.int (iI k), .int (iI n), .int (iI v)]) (rest := []) ⟨hx, hb, hml, hown, hts⟩ (c_X1_factorFits l k n v hvk hvn (by omega)) (va_cwS 3 hts (gS tb_322 tb_278 tb_5 tb_279) rfl rfl rfl (by decide +kernel) ⟨Nat.le_of_ble_eq_true rfl, Nat.le_of_ble_eq_true rfl⟩) preS0 rfl rfl hl.1 rfl (lv_room (Nat.le_of_ble_eq_true rfl)) dX1_allows_37 ⟨Nat.le_of_ble_eq_true rfl, Nat.le_of_ble_eq_true rfl⟩) (fun r9 hr9 => ?_)
    rcases hr9 with ⟨rfl, hb37⟩ | ⟨rfl, hb37⟩
    · subst hQ
      exact W.zret (ty := .boolean) hx hb hr (by decide) (fun t9 ht9 hW9 => ⟨_, rfl, Or.inl ⟨rfl, Or.inl ⟨hc0, hb37⟩⟩, ht9⟩) (fun _ h => absurd h List.not_mem_nil) dX1_allows_40
    · subst hQ
      exact W.zret (ty := .boolean) hx hb hr (by decide) (fun t9 ht9 hW9 => ⟨_, rfl, Or.inr ⟨rfl, fun q => by rcases q with q | q | q; exact hb37 q.2; omega; omega⟩, ht9⟩) (fun _ h => absurd h List.not_mem_nil) dX1_allows_40
  by_cases hc1 : what = 1
  · refine rv_top (y := 1) hc1 ?_
    refine lv_tableIn (tgt := 41) hx hb dX1_allows_1 (by decide) (by decide) rfl (by decide) ?_
    refine lv_aload_n hx hb dX1_allows_41 rfl (lv_at hl 0 rfl) ?_
    refine va_get (D := D) (ci := 0) (v := .int (iI n)) (C := RX1) (T := TX1) (N := 7) hx hb ht inTB_X1 hown hK hPn 0 rfl rfl 1 (by decide) (ht _ tb_143) (fun _ h9 => h9) rfl dX1_allows_42 ?_
    refine lv_iload_n hx hb dX1_allows_45 rfl (lv_at hl 2 rfl) ?_
    refine vp_callSi (W.runS (As := [.int (iI n), .int (iI v)]) (rest := []) ⟨hx, hb, hml, hown, hts⟩ (c_X1_offsetFits l n v (by omega) (by omega)) (va_cwS 2 hts (gS tb_323 tb_284 tb_5 tb_285) rfl rfl rfl (by decide +kernel) ⟨Nat.le_of_ble_eq_true rfl, Nat.le_of_ble_eq_true rfl⟩) preS0 rfl rfl hl.1 rfl (lv_room (Nat.le_of_ble_eq_true rfl)) dX1_allows_46 ⟨Nat.le_of_ble_eq_true rfl, Nat.le_of_ble_eq_true rfl⟩) (fun r9 hr9 => ?_)
    rcases hr9 with ⟨rfl, hb46⟩ | ⟨rfl, hb46⟩
    · subst hQ
      exact W.zret (ty := .boolean) hx hb hr (by decide) (fun t9 ht9 hW9 => ⟨_, rfl, Or.inl ⟨rfl, Or.inr (Or.inl ⟨hc1, hb46⟩)⟩, ht9⟩) (fun _ h => absurd h List.not_mem_nil) dX1_allows_49
    · subst hQ
      exact W.zret (ty := .boolean) hx hb hr (by decide) (fun t9 ht9 hW9 => ⟨_, rfl, Or.inr ⟨rfl, fun q => by rcases q with q | q | q; exact hc0 q.1; exact hb46 q.2; omega⟩, ht9⟩) (fun _ h => absurd h List.not_mem_nil) dX1_allows_49
  by_cases hc2 : what = 2
  · refine rv_top (y := 2) hc2 ?_
    refine lv_tableIn (tgt := 50) hx hb dX1_allows_1 (by decide) (by decide) rfl (by decide) ?_
    refine lv_iload_n hx hb dX1_allows_50 rfl (lv_at hl 2 rfl) ?_
    refine vp_callSi (W.runS (As := [.int (iI v)]) (rest := []) ⟨hx, hb, hml, hown, hts⟩ (c_X1_wellsFit l v (by omega)) (va_cwS 1 hts (gS tb_324 tb_287 tb_5 tb_288) rfl rfl rfl (by decide +kernel) ⟨Nat.le_of_ble_eq_true rfl, Nat.le_of_ble_eq_true rfl⟩) preS0 rfl rfl hl.1 rfl (lv_room (Nat.le_of_ble_eq_true rfl)) dX1_allows_51 ⟨Nat.le_of_ble_eq_true rfl, Nat.le_of_ble_eq_true rfl⟩) (fun r9 hr9 => ?_)
    rcases hr9 with ⟨rfl, hb51⟩ | ⟨rfl, hb51⟩
    · subst hQ
      exact W.zret (ty := .boolean) hx hb hr (by decide) (fun t9 ht9 hW9 => ⟨_, rfl, Or.inl ⟨rfl, Or.inr (Or.inr ⟨hc2, hb51⟩)⟩, ht9⟩) (fun _ h => absurd h List.not_mem_nil) dX1_allows_54
    · subst hQ
      exact W.zret (ty := .boolean) hx hb hr (by decide) (fun t9 ht9 hW9 => ⟨_, rfl, Or.inr ⟨rfl, fun q => by rcases q with q | q | q; exact hc0 q.1; exact hc1 q.1; exact hb51 q.2⟩, ht9⟩) (fun _ h => absurd h List.not_mem_nil) dX1_allows_54
  refine lv_tableOut (tgt := 55) hx hb dX1_allows_1 (by rw [iI_toInt (by omega)]; omega) (by decide) ?_
  refine rv_iconst hx hb dX1_allows_55 ?_
  subst hQ
  exact W.zret (ty := .boolean) hx hb hr (by decide) (fun t9 ht9 hW9 => ⟨_, rfl, Or.inr ⟨rfl, fun q => by rcases q with q | q | q; exact hc0 q.1; exact hc1 q.1; exact hc2 q.1⟩, ht9⟩) (fun _ h => absurd h List.not_mem_nil) dX1_allows_56

abbrev rm_X1_measure : Room := { frames := 0, cells := 0, slots := 0, locals := 0 }
set_option maxHeartbeats 4000000 in
set_option maxRecDepth 100000 in
/-- measure -/
theorem c_X1_measure (l : Launch) (D : va_G) (cs : Nat → ClassId) (a : Nat) (k : Int) (n : Int) (f : Int) (o : Int) (w : Int) (what : Int) (hw : 0 ≤ what ∧ what ≤ 2) : Met l yX1_measure (Cond.code yX1_measure cX1_measure 2 (some .int) :: TB) rm_X1_measure (va_Pc [.ref a, .int (iI what)] (fun U => KA D cs U ∧ PanelAt D cs (fun _ => False) U.heap a k n f o w)) (vp_Si (fun r => r = iI (if what = 0 then f else if what = 1 then o else w))) 0 0 (fun _ => False) := by
  refine enter (cc := cX1_measure) (maxL := 2) (ret := (some .int)) (by decide) (Nat.le_of_ble_eq_true rfl) ?_
  intro pg ev s m below meth c Q ls hx hb hml hown hts hr hlocks hnm ⟨hK, hpan⟩ hl hQ
  have ht : ∀ w ∈ TB, w.before _ s = true := fun w h => hts w (List.mem_cons_of_mem _ h)
  have hl : lv_has ls 2 [(0, .ref a), (1, .int (iI what))] := hl
  obtain ⟨hv, r, row, hPn, -, -, hrow⟩ := id hpan
  obtain ⟨hvk, hvn, hvf, hvo, hvw⟩ := hv
  have hnb := isPr_bd hvn
  have hpb := per_bd (k := k) hvn
  have hfb := fOK_bd hvk hvn hvf
  refine lv_iload_n hx hb dX1_measure_0 rfl (lv_at hl 1 rfl) ?_
  by_cases hc0 : what = 0
  · refine rv_top (y := 0) hc0 ?_
    refine lv_lookup (tgt := 28) hx hb dX1_measure_1 (by decide) rfl (by decide) ?_
    refine lv_aload_n hx hb dX1_measure_28 rfl (lv_at hl 0 rfl) ?_
    refine va_get (D := D) (ci := 0) (v := .int (iI f)) (C := RX1) (T := TX1) (N := 7) hx hb ht inTB_X1 hown hK hPn 0 rfl rfl 2 (by decide) (ht _ tb_145) (fun _ h9 => h9) rfl dX1_measure_29 ?_
    subst hQ
    exact W.iret hx hb hr (fun t9 ht9 hW9 => ⟨_, rfl, by rw [if_pos hc0], ht9⟩) (fun _ h => absurd h List.not_mem_nil) dX1_measure_32
  by_cases hc1 : what = 1
  · refine rv_top (y := 1) hc1 ?_
    refine lv_lookup (tgt := 33) hx hb dX1_measure_1 (by decide) rfl (by decide) ?_
    refine lv_aload_n hx hb dX1_measure_33 rfl (lv_at hl 0 rfl) ?_
    refine va_get (D := D) (ci := 0) (v := .int (iI o)) (C := RX1) (T := TX1) (N := 7) hx hb ht inTB_X1 hown hK hPn 0 rfl rfl 3 (by decide) (ht _ tb_147) (fun _ h9 => h9) rfl dX1_measure_34 ?_
    subst hQ
    exact W.iret hx hb hr (fun t9 ht9 hW9 => ⟨_, rfl, by rw [if_neg hc0, if_pos hc1], ht9⟩) (fun _ h => absurd h List.not_mem_nil) dX1_measure_37
  refine lv_lookup (tgt := 38) (off := 37) hx hb dX1_measure_1 (by decide) (by rw [iI_toInt (by omega)]; show Op.lookupswitch.offset [(0, 27), (1, 32)] 37 _ = 37; rw [Op.lookupswitch.offset_cons, if_neg (by omega), Op.lookupswitch.offset_cons, if_neg (by omega)]; rfl) (by decide) ?_
  refine lv_aload_n hx hb dX1_measure_38 rfl (lv_at hl 0 rfl) ?_
  refine va_get (D := D) (ci := 0) (v := .int (iI w)) (C := RX1) (T := TX1) (N := 7) hx hb ht inTB_X1 hown hK hPn 0 rfl rfl 4 (by decide) (ht _ tb_150) (fun _ h9 => h9) rfl dX1_measure_39 ?_
  subst hQ
  exact W.iret hx hb hr (fun t9 ht9 hW9 => ⟨_, rfl, by rw [if_neg hc0, if_neg hc1], ht9⟩) (fun _ h => absurd h List.not_mem_nil) dX1_measure_42

abbrev rm_X1_hasWell : Room := { frames := 0, cells := 0, slots := 0, locals := 0 }
set_option maxHeartbeats 4000000 in
set_option maxRecDepth 100000 in
/-- hasWell -/
theorem c_X1_hasWell (l : Launch) (D : va_G) (cs : Nat → ClassId) (a : Nat) (k : Int) (n : Int) (f : Int) (o : Int) (w : Int) (i : Int) (hi : -2147483648 ≤ i ∧ i < 2147483648) : Met l yX1_hasWell (Cond.code yX1_hasWell cX1_hasWell 2 (some .boolean) :: TB) rm_X1_hasWell (va_Pc [.ref a, .int (iI i)] (fun U => KA D cs U ∧ PanelAt D cs (fun _ => False) U.heap a k n f o w)) (vp_Si (fun r => (r = iI 1 ∧ (0 ≤ i ∧ i < w)) ∨ (r = iI 0 ∧ ¬ (0 ≤ i ∧ i < w)))) 0 0 (fun _ => False) := by
  refine enter (cc := cX1_hasWell) (maxL := 2) (ret := (some .boolean)) (by decide) (Nat.le_of_ble_eq_true rfl) ?_
  intro pg ev s m below meth c Q ls hx hb hml hown hts hr hlocks hnm ⟨hK, hpan⟩ hl hQ
  have ht : ∀ w ∈ TB, w.before _ s = true := fun w h => hts w (List.mem_cons_of_mem _ h)
  have hl : lv_has ls 2 [(0, .ref a), (1, .int (iI i))] := hl
  obtain ⟨hv, r, row, hPn, -, -, hrow⟩ := id hpan
  obtain ⟨hvk, hvn, hvf, hvo, hvw⟩ := hv
  have hnb := isPr_bd hvn
  have hpb := per_bd (k := k) hvn
  have hfb := fOK_bd hvk hvn hvf
  refine lv_iload_n hx hb dX1_hasWell_0 rfl (lv_at hl 1 rfl) ?_
  refine rv_if_lt (tgt := 16) hx hb dX1_hasWell_1 (by decide) (by omega) (fun h1 => ?_) (fun h1 => ?_)
  · refine rv_iconst hx hb dX1_hasWell_16 ?_
    subst hQ
    exact W.zret (ty := .boolean) hx hb hr (by decide) (fun t9 ht9 hW9 => ⟨_, rfl, Or.inr ⟨rfl, fun q => by omega⟩, ht9⟩) (fun _ h => absurd h List.not_mem_nil) dX1_hasWell_17
  · refine lv_iload_n hx hb dX1_hasWell_4 rfl (lv_at hl 1 rfl) ?_
    refine lv_aload_n hx hb dX1_hasWell_5 rfl (lv_at hl 0 rfl) ?_
    refine va_get (D := D) (ci := 0) (v := .int (iI w)) (C := RX1) (T := TX1) (N := 7) hx hb ht inTB_X1 hown hK hPn 0 rfl rfl 4 (by decide) (ht _ tb_150) (fun _ h9 => h9) rfl dX1_hasWell_6 ?_
    refine rv_icmp_ge (tgt := 16) hx hb dX1_hasWell_9 (by decide) (by omega) (fun h9 => ?_) (fun h9 => ?_)
    · refine rv_iconst hx hb dX1_hasWell_16 ?_
      subst hQ
      exact W.zret (ty := .boolean) hx hb hr (by decide) (fun t9 ht9 hW9 => ⟨_, rfl, Or.inr ⟨rfl, fun q => by omega⟩, ht9⟩) (fun _ h => absurd h List.not_mem_nil) dX1_hasWell_17
    · refine rv_iconst hx hb dX1_hasWell_12 ?_
      refine lv_goto (tgt := 17) hx hb dX1_hasWell_13 (by decide) ?_
      subst hQ
      exact W.zret (ty := .boolean) hx hb hr (by decide) (fun t9 ht9 hW9 => ⟨_, rfl, Or.inl ⟨rfl, by omega⟩, ht9⟩) (fun _ h => absurd h List.not_mem_nil) dX1_hasWell_17

abbrev rm_X1_isRest : Room := { frames := 0, cells := 0, slots := 0, locals := 0 }
set_option maxHeartbeats 4000000 in
set_option maxRecDepth 100000 in
/-- isRest -/
theorem c_X1_isRest (l : Launch) (D : va_G) (cs : Nat → ClassId) (a : Nat) (k : Int) (n : Int) (f : Int) (o : Int) (w : Int) (i : Int) (hi : -2147483648 ≤ i ∧ i < 2147483648) : Met l yX1_isRest (Cond.code yX1_isRest cX1_isRest 2 (some .boolean) :: TB) rm_X1_isRest (va_Pc [.ref a, .int (iI i)] (fun U => KA D cs U ∧ PanelAt D cs (fun _ => False) U.heap a k n f o w)) (vp_Si (fun r => (r = iI 1 ∧ (0 ≤ i ∧ i < n)) ∨ (r = iI 0 ∧ ¬ (0 ≤ i ∧ i < n)))) 0 0 (fun _ => False) := by
  refine enter (cc := cX1_isRest) (maxL := 2) (ret := (some .boolean)) (by decide) (Nat.le_of_ble_eq_true rfl) ?_
  intro pg ev s m below meth c Q ls hx hb hml hown hts hr hlocks hnm ⟨hK, hpan⟩ hl hQ
  have ht : ∀ w ∈ TB, w.before _ s = true := fun w h => hts w (List.mem_cons_of_mem _ h)
  have hl : lv_has ls 2 [(0, .ref a), (1, .int (iI i))] := hl
  obtain ⟨hv, r, row, hPn, -, -, hrow⟩ := id hpan
  obtain ⟨hvk, hvn, hvf, hvo, hvw⟩ := hv
  have hnb := isPr_bd hvn
  have hpb := per_bd (k := k) hvn
  have hfb := fOK_bd hvk hvn hvf
  refine lv_iload_n hx hb dX1_isRest_0 rfl (lv_at hl 1 rfl) ?_
  refine rv_if_lt (tgt := 16) hx hb dX1_isRest_1 (by decide) (by omega) (fun h1 => ?_) (fun h1 => ?_)
  · refine rv_iconst hx hb dX1_isRest_16 ?_
    subst hQ
    exact W.zret (ty := .boolean) hx hb hr (by decide) (fun t9 ht9 hW9 => ⟨_, rfl, Or.inr ⟨rfl, fun q => by omega⟩, ht9⟩) (fun _ h => absurd h List.not_mem_nil) dX1_isRest_17
  · refine lv_iload_n hx hb dX1_isRest_4 rfl (lv_at hl 1 rfl) ?_
    refine lv_aload_n hx hb dX1_isRest_5 rfl (lv_at hl 0 rfl) ?_
    refine va_get (D := D) (ci := 0) (v := .int (iI n)) (C := RX1) (T := TX1) (N := 7) hx hb ht inTB_X1 hown hK hPn 0 rfl rfl 1 (by decide) (ht _ tb_143) (fun _ h9 => h9) rfl dX1_isRest_6 ?_
    refine rv_icmp_ge (tgt := 16) hx hb dX1_isRest_9 (by decide) (by omega) (fun h9 => ?_) (fun h9 => ?_)
    · refine rv_iconst hx hb dX1_isRest_16 ?_
      subst hQ
      exact W.zret (ty := .boolean) hx hb hr (by decide) (fun t9 ht9 hW9 => ⟨_, rfl, Or.inr ⟨rfl, fun q => by omega⟩, ht9⟩) (fun _ h => absurd h List.not_mem_nil) dX1_isRest_17
    · refine rv_iconst hx hb dX1_isRest_12 ?_
      refine lv_goto (tgt := 17) hx hb dX1_isRest_13 (by decide) ?_
      subst hQ
      exact W.zret (ty := .boolean) hx hb hr (by decide) (fun t9 ht9 hW9 => ⟨_, rfl, Or.inl ⟨rfl, by omega⟩, ht9⟩) (fun _ h => absurd h List.not_mem_nil) dX1_isRest_17

abbrev rm_X1_depthAt : Room := { frames := 1, cells := 0, slots := 0, locals := 22 }
set_option maxHeartbeats 4000000 in
set_option maxRecDepth 100000 in
/-- depthAt -/
theorem c_X1_depthAt (l : Launch) (D : va_G) (cs : Nat → ClassId) (a : Nat) (k : Int) (n : Int) (f : Int) (o : Int) (w : Int) (i : Int) (hi : 0 ≤ i ∧ i < 1000000) : Met l yX1_depthAt (Cond.code yX1_depthAt cX1_depthAt 3 (some .int) :: TB) rm_X1_depthAt (va_Pc [.ref a, .int (iI i)] (fun U => KA D cs U ∧ PanelAt D cs (fun _ => False) U.heap a k n f o w)) (vp_Si (fun r => r = iI (dpt k n f i) ∧ (0 ≤ dpt k n f i ∧ dpt k n f i ≤ 30))) 0 0 (fun _ => False) := by
  refine enter (cc := cX1_depthAt) (maxL := 3) (ret := (some .int)) (by decide) (Nat.le_of_ble_eq_true rfl) ?_
  intro pg ev s m below meth c Q ls hx hb hml hown hts hr hlocks hnm ⟨hK, hpan⟩ hl hQ
  have ht : ∀ w ∈ TB, w.before _ s = true := fun w h => hts w (List.mem_cons_of_mem _ h)
  have hl : lv_has ls 3 [(0, .ref a), (1, .int (iI i))] := hl
  obtain ⟨hv, r, row, hPn, -, -, hrow⟩ := id hpan
  obtain ⟨hvk, hvn, hvf, hvo, hvw⟩ := hv
  have hnb := isPr_bd hvn
  have hpb := per_bd (k := k) hvn
  have hfb := fOK_bd hvk hvn hvf
  refine lv_iload_n hx hb dX1_depthAt_0 rfl (lv_at hl 1 rfl) ?_
  refine lv_aload_n hx hb dX1_depthAt_1 rfl (lv_at hl 0 rfl) ?_
  refine va_get (D := D) (ci := 0) (v := .int (iI (per k n))) (C := RX1) (T := TX1) (N := 7) hx hb ht inTB_X1 hown hK hPn 0 rfl rfl 5 (by decide) (ht _ tb_154) (fun _ h9 => h9) rfl dX1_depthAt_2 ?_
  refine vp_callSi (W.runS (As := [.int (iI i), .int (iI (per k n))]) (rest := []) ⟨hx, hb, hml, hown, hts⟩ (c_X0_rest l i (per k n) (by omega) (by omega)) (va_cwS 2 hts (gS tb_138 tb_139 tb_6 tb_140) rfl rfl rfl (by decide +kernel) ⟨Nat.le_of_ble_eq_true rfl, Nat.le_of_ble_eq_true rfl⟩) preS0 rfl rfl hl.1 rfl (lv_room (Nat.le_of_ble_eq_true rfl)) dX1_depthAt_5 ⟨Nat.le_of_ble_eq_true rfl, Nat.le_of_ble_eq_true rfl⟩) (fun r9 hr9 => ?_)
  obtain ⟨rfl, hx5_0⟩ := hr9
  refine lv_istore_n (lv' := [(2, .int (iI (i % (per k n)))), (0, .ref a), (1, .int (iI i))]) hx hb dX1_depthAt_8 rfl hl (by decide) rfl (fun ls hl => ?_)
  refine lv_iload_n hx hb dX1_depthAt_9 rfl (lv_at hl 0 rfl) ?_
  refine lv_aload_n hx hb dX1_depthAt_10 rfl (lv_at hl 1 rfl) ?_
  refine va_get (D := D) (ci := 0) (v := .ref r) (C := RX1) (T := TX1) (N := 7) hx hb ht inTB_X1 hown hK hPn 0 rfl rfl 6 (by decide) (ht _ tb_156) (fun _ h9 => h9) rfl dX1_depthAt_11 ?_
  refine rv_alen hx hb hK hPn 1 0 rfl rfl dX1_depthAt_14 ?_
  refine rv_icmp_ge (tgt := 27) hx hb dX1_depthAt_15 (by decide) (by omega) (fun h15 => False.elim (by omega)) (fun h15 => ?_)
  refine lv_aload_n hx hb dX1_depthAt_18 rfl (lv_at hl 1 rfl) ?_
  refine va_get (D := D) (ci := 0) (v := .ref r) (C := RX1) (T := TX1) (N := 7) hx hb ht inTB_X1 hown hK hPn 0 rfl rfl 6 (by decide) (ht _ tb_156) (fun _ h9 => h9) rfl dX1_depthAt_19 ?_
  refine lv_iload_n hx hb dX1_depthAt_22 rfl (lv_at hl 0 rfl) ?_
  refine rv_iald hx hb hK hPn 1 0 rfl rfl ((i % per k n).toNat) (by omega) (by omega) dX1_depthAt_23 ?_
  refine lv_goto (tgt := 28) hx hb dX1_depthAt_24 (by decide) ?_
  subst hQ
  exact W.iret hx hb hr (fun t9 ht9 hW9 => ⟨_, rfl, ⟨by rw [hrow _ (by omega)]; rfl, dpt_bd hvk hvn hvf _⟩, ht9⟩) (fun _ h => absurd h List.not_mem_nil) dX1_depthAt_28

abbrev rm_X1_wellDepth : Room := { frames := 2, cells := 0, slots := 0, locals := 44 }
set_option maxHeartbeats 4000000 in
set_option maxRecDepth 100000 in
/-- wellDepth -/
theorem c_X1_wellDepth (l : Launch) (D : va_G) (cs : Nat → ClassId) (a : Nat) (k : Int) (n : Int) (f : Int) (o : Int) (w : Int) (i : Int) (hi : 0 ≤ i ∧ i < 40) : Met l yX1_wellDepth (Cond.code yX1_wellDepth cX1_wellDepth 2 (some .int) :: TB) rm_X1_wellDepth (va_Pc [.ref a, .int (iI i)] (fun U => KA D cs U ∧ PanelAt D cs (fun _ => False) U.heap a k n f o w)) (vp_Si (fun r => r = iI (dpt k n f (i + o)) ∧ (0 ≤ dpt k n f (i + o) ∧ dpt k n f (i + o) ≤ 30))) 0 0 (fun _ => False) := by
  refine enter (cc := cX1_wellDepth) (maxL := 2) (ret := (some .int)) (by decide) (Nat.le_of_ble_eq_true rfl) ?_
  intro pg ev s m below meth c Q ls hx hb hml hown hts hr hlocks hnm ⟨hK, hpan⟩ hl hQ
  have ht : ∀ w ∈ TB, w.before _ s = true := fun w h => hts w (List.mem_cons_of_mem _ h)
  have hl : lv_has ls 2 [(0, .ref a), (1, .int (iI i))] := hl
  obtain ⟨hv, r, row, hPn, -, -, hrow⟩ := id hpan
  obtain ⟨hvk, hvn, hvf, hvo, hvw⟩ := hv
  have hnb := isPr_bd hvn
  have hpb := per_bd (k := k) hvn
  have hfb := fOK_bd hvk hvn hvf
  refine lv_aload_n hx hb dX1_wellDepth_0 rfl (lv_at hl 0 rfl) ?_
  refine lv_iload_n hx hb dX1_wellDepth_1 rfl (lv_at hl 1 rfl) ?_
  refine lv_aload_n hx hb dX1_wellDepth_2 rfl (lv_at hl 0 rfl) ?_
  refine va_get (D := D) (ci := 0) (v := .int (iI o)) (C := RX1) (T := TX1) (N := 7) hx hb ht inTB_X1 hown hK hPn 0 rfl rfl 3 (by decide) (ht _ tb_147) (fun _ h9 => h9) rfl dX1_wellDepth_3 ?_
  refine rv_iadd hx hb dX1_wellDepth_6 ?_
  refine vp_callSi (W.runV (As := [.int (iI (i + o))]) (rest := []) ⟨hx, hb, hml, hown, hts⟩ (c_X1_depthAt l D cs a k n f o w (i + o) (by omega)) (cwV 1 hts (gV tb_428 tb_429 tb_430 tb_5 tb_431) rfl rfl rfl (by decide +kernel) ⟨Nat.le_of_ble_eq_true rfl, Nat.le_of_ble_eq_true rfl⟩) (preV_pan hK hpan) rfl rfl hl.1 rfl (lv_room (Nat.le_of_ble_eq_true rfl)) dX1_wellDepth_7 ⟨Nat.le_of_ble_eq_true rfl, Nat.le_of_ble_eq_true rfl⟩) (fun r9 hr9 => ?_)
  obtain ⟨rfl, hx7_0⟩ := hr9
  subst hQ
  exact W.iret hx hb hr (fun t9 ht9 hW9 => ⟨_, rfl, ⟨rfl, dpt_bd hvk hvn hvf _⟩, ht9⟩) (fun _ h => absurd h List.not_mem_nil) dX1_wellDepth_10

abbrev rm_X1_greatestDepth : Room := { frames := 3, cells := 0, slots := 0, locals := 65 }
set_option maxHeartbeats 4000000 in
set_option maxRecDepth 100000 in
/-- greatestDepth -/
theorem c_X1_greatestDepth (l : Launch) (D : va_G) (cs : Nat → ClassId) (a : Nat) (k : Int) (n : Int) (f : Int) (o : Int) (w : Int) : Met l yX1_greatestDepth (Cond.code yX1_greatestDepth cX1_greatestDepth 3 (some .int) :: TB) rm_X1_greatestDepth (va_Pc [.ref a] (fun U => KA D cs U ∧ PanelAt D cs (fun _ => False) U.heap a k n f o w)) (vp_Si (fun r => r = iI (mxW k n f o (w).toNat) ∧ (0 ≤ mxW k n f o (w).toNat ∧ mxW k n f o (w).toNat ≤ 30))) 0 0 (fun _ => False) := by
  refine enter (cc := cX1_greatestDepth) (maxL := 3) (ret := (some .int)) (by decide) (Nat.le_of_ble_eq_true rfl) ?_
  intro pg ev s m below meth c Q ls hx hb hml hown hts hr hlocks hnm ⟨hK, hpan⟩ hl hQ
  have ht : ∀ w ∈ TB, w.before _ s = true := fun w h => hts w (List.mem_cons_of_mem _ h)
  have hl : lv_has ls 3 [(0, .ref a)] := hl
  obtain ⟨hv, r, row, hPn, -, -, hrow⟩ := id hpan
  obtain ⟨hvk, hvn, hvf, hvo, hvw⟩ := hv
  have hnb := isPr_bd hvn
  have hpb := per_bd (k := k) hvn
  have hfb := fOK_bd hvk hvn hvf
  refine rv_iconst hx hb dX1_greatestDepth_0 ?_
  refine lv_istore_n (lv' := [(1, .int (iI 0)), (0, .ref a)]) hx hb dX1_greatestDepth_1 rfl hl (by decide) rfl (fun ls hl => ?_)
  refine rv_iconst hx hb dX1_greatestDepth_2 ?_
  refine lv_istore_n (lv' := [(2, .int (iI 0)), (1, .int (iI 0)), (0, .ref a)]) hx hb dX1_greatestDepth_3 rfl hl (by decide) rfl (fun ls hl => ?_)
  have loop4 : ∀ (fuel4 : Nat) (i : Nat), ((i : Int) ≤ w) → (w - (i : Int)).toNat < fuel4 → ∀ (x1 x2 : Int), x1 = mxW k n f o i → x2 = (i : Int) → ∀ ls : Array Slot, lv_has ls 3 [(0, .ref a), (1, .int (iI x1)), (2, .int (iI x2))] → W pg l ev rm_X1_greatestDepth s m [.ref a].toArray below meth c s.heap [] 0 0 Q (F0 m 4 ls []) := by
    intro fuel4
    induction fuel4 with
    | zero => intro i hi hfuel4; exact absurd hfuel4 (Nat.not_lt_zero _)
    | succ fuel4 ih4 =>
      intro i hi hfuel4 x1 x2 ex1 ex2 ls hl
      subst ex1 ex2
      have hab := mxW_bd (o := o) hvk hvn hvf i
      refine lv_iload_n hx hb dX1_greatestDepth_4 rfl (lv_at hl 2 rfl) ?_
      refine lv_aload_n hx hb dX1_greatestDepth_5 rfl (lv_at hl 0 rfl) ?_
      refine va_get (D := D) (ci := 0) (v := .int (iI w)) (C := RX1) (T := TX1) (N := 7) hx hb ht inTB_X1 hown hK hPn 0 rfl rfl 4 (by decide) (ht _ tb_150) (fun _ h9 => h9) rfl dX1_greatestDepth_6 ?_
      refine rv_icmp_ge (tgt := 28) hx hb dX1_greatestDepth_9 (by decide) (by omega) (fun h9 => ?_) (fun h9 => ?_)
      · refine lv_iload_n hx hb dX1_greatestDepth_28 rfl (lv_at hl 1 rfl) ?_
        subst hQ
        exact W.iret hx hb hr (fun t9 ht9 hW9 => ⟨_, rfl, ⟨by rw [show w.toNat = i by omega], mxW_bd hvk hvn hvf _⟩, ht9⟩) (fun _ h => absurd h List.not_mem_nil) dX1_greatestDepth_29
      · refine lv_iload_n hx hb dX1_greatestDepth_12 rfl (lv_at hl 1 rfl) ?_
        refine lv_aload_n hx hb dX1_greatestDepth_13 rfl (lv_at hl 0 rfl) ?_
        refine lv_iload_n hx hb dX1_greatestDepth_14 rfl (lv_at hl 2 rfl) ?_
        refine vp_callSi (W.runV (As := [.int (iI (i : Int))]) (rest := [.int (iI (mxW k n f o i))]) ⟨hx, hb, hml, hown, hts⟩ (c_X1_wellDepth l D cs a k n f o w (i : Int) (by omega)) (cwV 1 hts (gV tb_424 tb_425 tb_426 tb_5 tb_427) rfl rfl rfl (by decide +kernel) ⟨Nat.le_of_ble_eq_true rfl, Nat.le_of_ble_eq_true rfl⟩) (preV_pan hK hpan) rfl rfl hl.1 rfl (lv_room (Nat.le_of_ble_eq_true rfl)) dX1_greatestDepth_15 ⟨Nat.le_of_ble_eq_true rfl, Nat.le_of_ble_eq_true rfl⟩) (fun r9 hr9 => ?_)
        obtain ⟨rfl, hx15_0⟩ := hr9
        refine rv_mmax hx hb (hml.trans hl.1.symm) hown (ht _ tb_432) (ht _ tb_302) (ht _ tb_9) (ht _ tb_303) (Nat.le_of_ble_eq_true rfl) (Nat.le_of_ble_eq_true rfl) (Nat.le_of_ble_eq_true rfl) (Nat.le_of_ble_eq_true rfl) (by omega) dX1_greatestDepth_18 ?_
        refine lv_istore_n (lv' := [(1, .int (iI (mxI (mxW k n f o i) (dpt k n f ((i : Int) + o))))), (0, .ref a), (2, .int (iI (i : Int)))]) hx hb dX1_greatestDepth_21 rfl hl (by decide) rfl (fun ls hl => ?_)
        refine rv_iinc (k := 2) (lv' := [(2, .int (iI ((i : Int) + 1))), (1, .int (iI (mxI (mxW k n f o i) (dpt k n f ((i : Int) + o))))), (0, .ref a)]) hx hb dX1_greatestDepth_22 hl rfl (by decide) rfl (fun ls hl => ?_)
        refine lv_goto (tgt := 4) hx hb dX1_greatestDepth_25 (by decide) ?_
        exact ih4 (i + 1) (by omega) (by omega) _ _ rfl (by omega) ls (lv_sub hl [2, 1, 0] rfl)
  exact loop4 (_ + 1) 0 (by omega) (Nat.lt_succ_self _) _ _ rfl rfl ls (lv_sub hl [2, 1, 0] rfl)

abbrev rm_X1_depthsTogether : Room := { frames := 3, cells := 0, slots := 0, locals := 65 }
set_option maxHeartbeats 4000000 in
set_option maxRecDepth 100000 in
/-- depthsTogether -/
theorem c_X1_depthsTogether (l : Launch) (D : va_G) (cs : Nat → ClassId) (a : Nat) (k : Int) (n : Int) (f : Int) (o : Int) (w : Int) : Met l yX1_depthsTogether (Cond.code yX1_depthsTogether cX1_depthsTogether 3 (some .int) :: TB) rm_X1_depthsTogether (va_Pc [.ref a] (fun U => KA D cs U ∧ PanelAt D cs (fun _ => False) U.heap a k n f o w)) (vp_Si (fun r => r = iI (smW k n f o (w).toNat))) 0 0 (fun _ => False) := by
  refine enter (cc := cX1_depthsTogether) (maxL := 3) (ret := (some .int)) (by decide) (Nat.le_of_ble_eq_true rfl) ?_
  intro pg ev s m below meth c Q ls hx hb hml hown hts hr hlocks hnm ⟨hK, hpan⟩ hl hQ
  have ht : ∀ w ∈ TB, w.before _ s = true := fun w h => hts w (List.mem_cons_of_mem _ h)
  have hl : lv_has ls 3 [(0, .ref a)] := hl
  obtain ⟨hv, r, row, hPn, -, -, hrow⟩ := id hpan
  obtain ⟨hvk, hvn, hvf, hvo, hvw⟩ := hv
  have hnb := isPr_bd hvn
  have hpb := per_bd (k := k) hvn
  have hfb := fOK_bd hvk hvn hvf
  refine rv_iconst hx hb dX1_depthsTogether_0 ?_
  refine lv_istore_n (lv' := [(1, .int (iI 0)), (0, .ref a)]) hx hb dX1_depthsTogether_1 rfl hl (by decide) rfl (fun ls hl => ?_)
  refine rv_iconst hx hb dX1_depthsTogether_2 ?_
  refine lv_istore_n (lv' := [(2, .int (iI 0)), (1, .int (iI 0)), (0, .ref a)]) hx hb dX1_depthsTogether_3 rfl hl (by decide) rfl (fun ls hl => ?_)
  have loop4 : ∀ (fuel4 : Nat) (i : Nat), ((i : Int) ≤ w) → (w - (i : Int)).toNat < fuel4 → ∀ (x1 x2 : Int), x1 = smW k n f o i → x2 = (i : Int) → ∀ ls : Array Slot, lv_has ls 3 [(0, .ref a), (1, .int (iI x1)), (2, .int (iI x2))] → W pg l ev rm_X1_depthsTogether s m [.ref a].toArray below meth c s.heap [] 0 0 Q (F0 m 4 ls []) := by
    intro fuel4
    induction fuel4 with
    | zero => intro i hi hfuel4; exact absurd hfuel4 (Nat.not_lt_zero _)
    | succ fuel4 ih4 =>
      intro i hi hfuel4 x1 x2 ex1 ex2 ls hl
      subst ex1 ex2
      refine lv_iload_n hx hb dX1_depthsTogether_4 rfl (lv_at hl 2 rfl) ?_
      refine lv_aload_n hx hb dX1_depthsTogether_5 rfl (lv_at hl 0 rfl) ?_
      refine va_get (D := D) (ci := 0) (v := .int (iI w)) (C := RX1) (T := TX1) (N := 7) hx hb ht inTB_X1 hown hK hPn 0 rfl rfl 4 (by decide) (ht _ tb_150) (fun _ h9 => h9) rfl dX1_depthsTogether_6 ?_
      refine rv_icmp_ge (tgt := 26) hx hb dX1_depthsTogether_9 (by decide) (by omega) (fun h9 => ?_) (fun h9 => ?_)
      · refine lv_iload_n hx hb dX1_depthsTogether_26 rfl (lv_at hl 1 rfl) ?_
        subst hQ
        exact W.iret hx hb hr (fun t9 ht9 hW9 => ⟨_, rfl, by rw [show w.toNat = i by omega], ht9⟩) (fun _ h => absurd h List.not_mem_nil) dX1_depthsTogether_27
      · refine lv_iload_n hx hb dX1_depthsTogether_12 rfl (lv_at hl 1 rfl) ?_
        refine lv_aload_n hx hb dX1_depthsTogether_13 rfl (lv_at hl 0 rfl) ?_
        refine lv_iload_n hx hb dX1_depthsTogether_14 rfl (lv_at hl 2 rfl) ?_
        refine vp_callSi (W.runV (As := [.int (iI (i : Int))]) (rest := [.int (iI (smW k n f o i))]) ⟨hx, hb, hml, hown, hts⟩ (c_X1_wellDepth l D cs a k n f o w (i : Int) (by omega)) (cwV 1 hts (gV tb_424 tb_425 tb_426 tb_5 tb_427) rfl rfl rfl (by decide +kernel) ⟨Nat.le_of_ble_eq_true rfl, Nat.le_of_ble_eq_true rfl⟩) (preV_pan hK hpan) rfl rfl hl.1 rfl (lv_room (Nat.le_of_ble_eq_true rfl)) dX1_depthsTogether_15 ⟨Nat.le_of_ble_eq_true rfl, Nat.le_of_ble_eq_true rfl⟩) (fun r9 hr9 => ?_)
        obtain ⟨rfl, hx15_0⟩ := hr9
        refine rv_iadd hx hb dX1_depthsTogether_18 ?_
        refine lv_istore_n (lv' := [(1, .int (iI (smW k n f o i + dpt k n f ((i : Int) + o)))), (0, .ref a), (2, .int (iI (i : Int)))]) hx hb dX1_depthsTogether_19 rfl hl (by decide) rfl (fun ls hl => ?_)
        refine rv_iinc (k := 2) (lv' := [(2, .int (iI ((i : Int) + 1))), (1, .int (iI (smW k n f o i + dpt k n f ((i : Int) + o)))), (0, .ref a)]) hx hb dX1_depthsTogether_20 hl rfl (by decide) rfl (fun ls hl => ?_)
        refine lv_goto (tgt := 4) hx hb dX1_depthsTogether_23 (by decide) ?_
        exact ih4 (i + 1) (by omega) (by omega) _ _ rfl (by omega) ls (lv_sub hl [2, 1, 0] rfl)
  exact loop4 (_ + 1) 0 (by omega) (Nat.lt_succ_self _) _ _ rfl rfl ls (lv_sub hl [2, 1, 0] rfl)

abbrev rm_X1_isMirrored : Room := { frames := 3, cells := 0, slots := 0, locals := 65 }
set_option maxHeartbeats 4000000 in
set_option maxRecDepth 100000 in
/-- isMirrored -/
theorem c_X1_isMirrored (l : Launch) (D : va_G) (cs : Nat → ClassId) (a : Nat) (k : Int) (n : Int) (f : Int) (o : Int) (w : Int) : Met l yX1_isMirrored (Cond.code yX1_isMirrored cX1_isMirrored 2 (some .boolean) :: TB) rm_X1_isMirrored (va_Pc [.ref a] (fun U => KA D cs U ∧ PanelAt D cs (fun _ => False) U.heap a k n f o w)) (vp_Si (fun r => (r = iI 1 ∧ (mirP k n f o w)) ∨ (r = iI 0 ∧ ¬ (mirP k n f o w)))) 0 0 (fun _ => False) := by
  refine enter (cc := cX1_isMirrored) (maxL := 2) (ret := (some .boolean)) (by decide) (Nat.le_of_ble_eq_true rfl) ?_
  intro pg ev s m below meth c Q ls hx hb hml hown hts hr hlocks hnm ⟨hK, hpan⟩ hl hQ
  have ht : ∀ w ∈ TB, w.before _ s = true := fun w h => hts w (List.mem_cons_of_mem _ h)
  have hl : lv_has ls 2 [(0, .ref a)] := hl
  obtain ⟨hv, r, row, hPn, -, -, hrow⟩ := id hpan
  obtain ⟨hvk, hvn, hvf, hvo, hvw⟩ := hv
  have hnb := isPr_bd hvn
  have hpb := per_bd (k := k) hvn
  have hfb := fOK_bd hvk hvn hvf
  refine rv_iconst hx hb dX1_isMirrored_0 ?_
  refine lv_istore_n (lv' := [(1, .int (iI 0)), (0, .ref a)]) hx hb dX1_isMirrored_1 rfl hl (by decide) rfl (fun ls hl => ?_)
  have loop2 : ∀ (fuel2 : Nat) (i : Nat), ((i : Int) ≤ w) → (∀ j : Nat, j < i → dpt k n f ((j : Int) + o) = dpt k n f (w - 1 - (j : Int) + o)) → (w - (i : Int)).toNat < fuel2 → ∀ (x1 : Int), x1 = (i : Int) → ∀ ls : Array Slot, lv_has ls 2 [(0, .ref a), (1, .int (iI x1))] → W pg l ev rm_X1_isMirrored s m [.ref a].toArray below meth c s.heap [] 0 0 Q (F0 m 2 ls []) := by
    intro fuel2
    induction fuel2 with
    | zero => intro i hi hq hfuel2; exact absurd hfuel2 (Nat.not_lt_zero _)
    | succ fuel2 ih2 =>
      intro i hi hq hfuel2 x1 ex1 ls hl
      subst ex1
      refine lv_iload_n hx hb dX1_isMirrored_2 rfl (lv_at hl 1 rfl) ?_
      refine lv_aload_n hx hb dX1_isMirrored_3 rfl (lv_at hl 0 rfl) ?_
      refine va_get (D := D) (ci := 0) (v := .int (iI w)) (C := RX1) (T := TX1) (N := 7) hx hb ht inTB_X1 hown hK hPn 0 rfl rfl 4 (by decide) (ht _ tb_150) (fun _ h9 => h9) rfl dX1_isMirrored_4 ?_
      refine rv_icmp_ge (tgt := 38) hx hb dX1_isMirrored_7 (by decide) (by omega) (fun h7 => ?_) (fun h7 => ?_)
      · refine rv_iconst hx hb dX1_isMirrored_38 ?_
        subst hQ
        exact W.zret (ty := .boolean) hx hb hr (by decide) (fun t9 ht9 hW9 => ⟨_, rfl, Or.inl ⟨rfl, fun j h => hq j (by omega)⟩, ht9⟩) (fun _ h => absurd h List.not_mem_nil) dX1_isMirrored_39
      · refine lv_aload_n hx hb dX1_isMirrored_10 rfl (lv_at hl 0 rfl) ?_
        refine lv_iload_n hx hb dX1_isMirrored_11 rfl (lv_at hl 1 rfl) ?_
        refine vp_callSi (W.runV (As := [.int (iI (i : Int))]) (rest := []) ⟨hx, hb, hml, hown, hts⟩ (c_X1_wellDepth l D cs a k n f o w (i : Int) (by omega)) (cwV 1 hts (gV tb_424 tb_425 tb_426 tb_5 tb_427) rfl rfl rfl (by decide +kernel) ⟨Nat.le_of_ble_eq_true rfl, Nat.le_of_ble_eq_true rfl⟩) (preV_pan hK hpan) rfl rfl hl.1 rfl (lv_room (Nat.le_of_ble_eq_true rfl)) dX1_isMirrored_12 ⟨Nat.le_of_ble_eq_true rfl, Nat.le_of_ble_eq_true rfl⟩) (fun r9 hr9 => ?_)
        obtain ⟨rfl, hx12_0⟩ := hr9
        refine lv_aload_n hx hb dX1_isMirrored_15 rfl (lv_at hl 0 rfl) ?_
        refine lv_aload_n hx hb dX1_isMirrored_16 rfl (lv_at hl 0 rfl) ?_
        refine va_get (D := D) (ci := 0) (v := .int (iI w)) (C := RX1) (T := TX1) (N := 7) hx hb ht inTB_X1 hown hK hPn 0 rfl rfl 4 (by decide) (ht _ tb_150) (fun _ h9 => h9) rfl dX1_isMirrored_17 ?_
        refine rv_iconst hx hb dX1_isMirrored_20 ?_
        refine rv_isub hx hb dX1_isMirrored_21 ?_
        refine lv_iload_n hx hb dX1_isMirrored_22 rfl (lv_at hl 1 rfl) ?_
        refine rv_isub hx hb dX1_isMirrored_23 ?_
        refine vp_callSi (W.runV (As := [.int (iI ((w - 1) - (i : Int)))]) (rest := [.int (iI (dpt k n f ((i : Int) + o)))]) ⟨hx, hb, hml, hown, hts⟩ (c_X1_wellDepth l D cs a k n f o w ((w - 1) - (i : Int)) (by omega)) (cwV 1 hts (gV tb_424 tb_425 tb_426 tb_5 tb_427) rfl rfl rfl (by decide +kernel) ⟨Nat.le_of_ble_eq_true rfl, Nat.le_of_ble_eq_true rfl⟩) (preV_pan hK hpan) rfl rfl hl.1 rfl (lv_room (Nat.le_of_ble_eq_true rfl)) dX1_isMirrored_24 ⟨Nat.le_of_ble_eq_true rfl, Nat.le_of_ble_eq_true rfl⟩) (fun r9 hr9 => ?_)
        obtain ⟨rfl, hx24_0⟩ := hr9
        refine rv_icmp_eq (tgt := 32) hx hb dX1_isMirrored_27 (by decide) (by omega) (fun h27 => ?_) (fun h27 => ?_)
        · refine rv_iinc (k := 1) (lv' := [(1, .int (iI ((i : Int) + 1))), (0, .ref a)]) hx hb dX1_isMirrored_32 hl rfl (by decide) rfl (fun ls hl => ?_)
          refine lv_goto (tgt := 2) hx hb dX1_isMirrored_35 (by decide) ?_
          exact ih2 (i + 1) (by omega) (fun j h => by rcases Nat.lt_or_ge j i with q | q; exact hq j q; rw [show j = i by omega]; exact h27) (by omega) _ (by omega) ls (lv_sub hl [1, 0] rfl)
        · refine rv_iconst hx hb dX1_isMirrored_30 ?_
          subst hQ
          exact W.zret (ty := .boolean) hx hb hr (by decide) (fun t9 ht9 hW9 => ⟨_, rfl, Or.inr ⟨rfl, fun q => h27 (q i (by omega))⟩, ht9⟩) (fun _ h => absurd h List.not_mem_nil) dX1_isMirrored_31
  exact loop2 (_ + 1) 0 (by omega) (fun j h => absurd h (Nat.not_lt_zero _)) (Nat.lt_succ_self _) _ rfl ls (lv_sub hl [1, 0] rfl)

abbrev rm_X1_differenceAt : Room := { frames := 2, cells := 0, slots := 0, locals := 44 }
set_option maxHeartbeats 4000000 in
set_option maxRecDepth 100000 in
/-- differenceAt -/
theorem c_X1_differenceAt (l : Launch) (D : va_G) (cs : Nat → ClassId) (a : Nat) (k : Int) (n : Int) (f : Int) (o : Int) (w : Int) (i : Int) (sh : Int) (hi : 0 ≤ i ∧ i < 1000) (hsh : 0 ≤ sh ∧ sh < 1000) : Met l yX1_differenceAt (Cond.code yX1_differenceAt cX1_differenceAt 3 (some .int) :: TB) rm_X1_differenceAt (va_Pc [.ref a, .int (iI i), .int (iI sh)] (fun U => KA D cs U ∧ PanelAt D cs (fun _ => False) U.heap a k n f o w)) (vp_Si (fun r => r = iI ((dpt k n f (i + sh) - dpt k n f i) % n) ∧ (0 ≤ (dpt k n f (i + sh) - dpt k n f i) % n ∧ (dpt k n f (i + sh) - dpt k n f i) % n < n))) 0 0 (fun _ => False) := by
  refine enter (cc := cX1_differenceAt) (maxL := 3) (ret := (some .int)) (by decide) (Nat.le_of_ble_eq_true rfl) ?_
  intro pg ev s m below meth c Q ls hx hb hml hown hts hr hlocks hnm ⟨hK, hpan⟩ hl hQ
  have ht : ∀ w ∈ TB, w.before _ s = true := fun w h => hts w (List.mem_cons_of_mem _ h)
  have hl : lv_has ls 3 [(0, .ref a), (1, .int (iI i)), (2, .int (iI sh))] := hl
  obtain ⟨hv, r, row, hPn, -, -, hrow⟩ := id hpan
  obtain ⟨hvk, hvn, hvf, hvo, hvw⟩ := hv
  have hnb := isPr_bd hvn
  have hpb := per_bd (k := k) hvn
  have hfb := fOK_bd hvk hvn hvf
  refine lv_aload_n hx hb dX1_differenceAt_0 rfl (lv_at hl 0 rfl) ?_
  refine lv_iload_n hx hb dX1_differenceAt_1 rfl (lv_at hl 1 rfl) ?_
  refine lv_iload_n hx hb dX1_differenceAt_2 rfl (lv_at hl 2 rfl) ?_
  refine rv_iadd hx hb dX1_differenceAt_3 ?_
  refine vp_callSi (W.runV (As := [.int (iI (i + sh))]) (rest := []) ⟨hx, hb, hml, hown, hts⟩ (c_X1_depthAt l D cs a k n f o w (i + sh) (by omega)) (cwV 1 hts (gV tb_428 tb_429 tb_430 tb_5 tb_431) rfl rfl rfl (by decide +kernel) ⟨Nat.le_of_ble_eq_true rfl, Nat.le_of_ble_eq_true rfl⟩) (preV_pan hK hpan) rfl rfl hl.1 rfl (lv_room (Nat.le_of_ble_eq_true rfl)) dX1_differenceAt_4 ⟨Nat.le_of_ble_eq_true rfl, Nat.le_of_ble_eq_true rfl⟩) (fun r9 hr9 => ?_)
  obtain ⟨rfl, hx4_0⟩ := hr9
  refine lv_aload_n hx hb dX1_differenceAt_7 rfl (lv_at hl 0 rfl) ?_
  refine lv_iload_n hx hb dX1_differenceAt_8 rfl (lv_at hl 1 rfl) ?_
  refine vp_callSi (W.runV (As := [.int (iI i)]) (rest := [.int (iI (dpt k n f (i + sh)))]) ⟨hx, hb, hml, hown, hts⟩ (c_X1_depthAt l D cs a k n f o w i (by omega)) (cwV 1 hts (gV tb_428 tb_429 tb_430 tb_5 tb_431) rfl rfl rfl (by decide +kernel) ⟨Nat.le_of_ble_eq_true rfl, Nat.le_of_ble_eq_true rfl⟩) (preV_pan hK hpan) rfl rfl hl.1 rfl (lv_room (Nat.le_of_ble_eq_true rfl)) dX1_differenceAt_9 ⟨Nat.le_of_ble_eq_true rfl, Nat.le_of_ble_eq_true rfl⟩) (fun r9 hr9 => ?_)
  obtain ⟨rfl, hx9_0⟩ := hr9
  refine rv_isub hx hb dX1_differenceAt_12 ?_
  refine lv_aload_n hx hb dX1_differenceAt_13 rfl (lv_at hl 0 rfl) ?_
  refine va_get (D := D) (ci := 0) (v := .int (iI n)) (C := RX1) (T := TX1) (N := 7) hx hb ht inTB_X1 hown hK hPn 0 rfl rfl 1 (by decide) (ht _ tb_143) (fun _ h9 => h9) rfl dX1_differenceAt_14 ?_
  refine vp_callSi (W.runS (As := [.int (iI (dpt k n f (i + sh) - dpt k n f i)), .int (iI n)]) (rest := []) ⟨hx, hb, hml, hown, hts⟩ (c_X0_rest l (dpt k n f (i + sh) - dpt k n f i) n (by omega) (by omega)) (va_cwS 2 hts (gS tb_138 tb_139 tb_6 tb_140) rfl rfl rfl (by decide +kernel) ⟨Nat.le_of_ble_eq_true rfl, Nat.le_of_ble_eq_true rfl⟩) preS0 rfl rfl hl.1 rfl (lv_room (Nat.le_of_ble_eq_true rfl)) dX1_differenceAt_17 ⟨Nat.le_of_ble_eq_true rfl, Nat.le_of_ble_eq_true rfl⟩) (fun r9 hr9 => ?_)
  obtain ⟨rfl, hx17_0⟩ := hr9
  subst hQ
  exact W.iret hx hb hr (fun t9 ht9 hW9 => ⟨_, rfl, ⟨rfl, hx17_0⟩, ht9⟩) (fun _ h => absurd h List.not_mem_nil) dX1_differenceAt_20

abbrev rm_X1_countOf : Room := { frames := 3, cells := 0, slots := 0, locals := 66 }
set_option maxHeartbeats 4000000 in
set_option maxRecDepth 100000 in
/-- countOf -/
theorem c_X1_countOf (l : Launch) (D : va_G) (cs : Nat → ClassId) (a : Nat) (k : Int) (n : Int) (f : Int) (o : Int) (w : Int) (sh : Int) (d : Int) (hsh : 0 ≤ sh ∧ sh < 1000) (hd : -2147483648 ≤ d ∧ d < 2147483648) : Met l yX1_countOf (Cond.code yX1_countOf cX1_countOf 5 (some .int) :: TB) rm_X1_countOf (va_Pc [.ref a, .int (iI sh), .int (iI d)] (fun U => KA D cs U ∧ PanelAt D cs (fun _ => False) U.heap a k n f o w)) (vp_Si (fun r => r = iI (cnC k n f sh d (per k n).toNat))) 0 0 (fun _ => False) := by
  refine enter (cc := cX1_countOf) (maxL := 5) (ret := (some .int)) (by decide) (Nat.le_of_ble_eq_true rfl) ?_
  intro pg ev s m below meth c Q ls hx hb hml hown hts hr hlocks hnm ⟨hK, hpan⟩ hl hQ
  have ht : ∀ w ∈ TB, w.before _ s = true := fun w h => hts w (List.mem_cons_of_mem _ h)
  have hl : lv_has ls 5 [(0, .ref a), (1, .int (iI sh)), (2, .int (iI d))] := hl
  obtain ⟨hv, r, row, hPn, -, -, hrow⟩ := id hpan
  obtain ⟨hvk, hvn, hvf, hvo, hvw⟩ := hv
  have hnb := isPr_bd hvn
  have hpb := per_bd (k := k) hvn
  have hfb := fOK_bd hvk hvn hvf
  refine rv_iconst hx hb dX1_countOf_0 ?_
  refine lv_istore_n (lv' := [(3, .int (iI 0)), (0, .ref a), (1, .int (iI sh)), (2, .int (iI d))]) hx hb dX1_countOf_1 rfl hl (by decide) rfl (fun ls hl => ?_)
  refine rv_iconst hx hb dX1_countOf_2 ?_
  refine lv_istore (lv' := [(4, .int (iI 0)), (3, .int (iI 0)), (0, .ref a), (1, .int (iI sh)), (2, .int (iI d))]) hx hb dX1_countOf_3 hl (by decide) rfl (fun ls hl => ?_)
  have loop5 : ∀ (fuel5 : Nat) (i : Nat), ((i : Int) ≤ per k n) → (per k n - (i : Int)).toNat < fuel5 → ∀ (x3 x4 : Int), x3 = cnC k n f sh d i → x4 = (i : Int) → ∀ ls : Array Slot, lv_has ls 5 [(0, .ref a), (1, .int (iI sh)), (2, .int (iI d)), (3, .int (iI x3)), (4, .int (iI x4))] → W pg l ev rm_X1_countOf s m [.ref a, .int (iI sh), .int (iI d)].toArray below meth c s.heap [] 0 0 Q (F0 m 5 ls []) := by
    intro fuel5
    induction fuel5 with
    | zero => intro i hi hfuel5; exact absurd hfuel5 (Nat.not_lt_zero _)
    | succ fuel5 ih5 =>
      intro i hi hfuel5 x3 x4 ex3 ex4 ls hl
      subst ex3 ex4
      refine lv_iload hx hb dX1_countOf_5 (lv_at hl 4 rfl) ?_
      refine lv_aload_n hx hb dX1_countOf_7 rfl (lv_at hl 0 rfl) ?_
      refine va_get (D := D) (ci := 0) (v := .int (iI (per k n))) (C := RX1) (T := TX1) (N := 7) hx hb ht inTB_X1 hown hK hPn 0 rfl rfl 5 (by decide) (ht _ tb_154) (fun _ h9 => h9) rfl dX1_countOf_8 ?_
      refine rv_icmp_ge (tgt := 34) hx hb dX1_countOf_11 (by decide) (by omega) (fun h11 => ?_) (fun h11 => ?_)
      · refine lv_iload_n hx hb dX1_countOf_34 rfl (lv_at hl 3 rfl) ?_
        subst hQ
        exact W.iret hx hb hr (fun t9 ht9 hW9 => ⟨_, rfl, by rw [show (per k n).toNat = i by omega], ht9⟩) (fun _ h => absurd h List.not_mem_nil) dX1_countOf_35
      · refine lv_aload_n hx hb dX1_countOf_14 rfl (lv_at hl 0 rfl) ?_
        refine lv_iload hx hb dX1_countOf_15 (lv_at hl 4 rfl) ?_
        refine lv_iload_n hx hb dX1_countOf_17 rfl (lv_at hl 1 rfl) ?_
        refine vp_callSi (W.runV (As := [.int (iI (i : Int)), .int (iI sh)]) (rest := []) ⟨hx, hb, hml, hown, hts⟩ (c_X1_differenceAt l D cs a k n f o w (i : Int) sh (by omega) (by omega)) (cwV 2 hts (gV tb_458 tb_460 tbs_9 tb_5 tb_461) rfl rfl rfl (by decide +kernel) ⟨Nat.le_of_ble_eq_true rfl, Nat.le_of_ble_eq_true rfl⟩) (preV_pan hK hpan) rfl rfl hl.1 rfl (lv_room (Nat.le_of_ble_eq_true rfl)) dX1_countOf_18 ⟨Nat.le_of_ble_eq_true rfl, Nat.le_of_ble_eq_true rfl⟩) (fun r9 hr9 => ?_)
        obtain ⟨rfl, hx18_0⟩ := hr9
        refine lv_iload_n hx hb dX1_countOf_21 rfl (lv_at hl 2 rfl) ?_
        refine rv_icmp_ne (tgt := 28) hx hb dX1_countOf_22 (by decide) (by omega) (fun h22 => ?_) (fun h22 => ?_)
        · refine rv_iinc (k := 4) (lv' := [(4, .int (iI ((i : Int) + 1))), (0, .ref a), (1, .int (iI sh)), (2, .int (iI d)), (3, .int (iI (cnC k n f sh d i)))]) hx hb dX1_countOf_28 hl rfl (by decide) rfl (fun ls hl => ?_)
          refine lv_goto (tgt := 5) hx hb dX1_countOf_31 (by decide) ?_
          exact ih5 (i + 1) (by omega) (by omega) _ _ (by simp only [cnC]; first | rw [if_pos h22] | (rw [if_neg h22]; omega)) (by omega) ls (lv_sub hl [1, 2, 3, 4, 0] rfl)
        · refine rv_iinc (k := 3) (lv' := [(3, .int (iI (cnC k n f sh d i + 1))), (0, .ref a), (1, .int (iI sh)), (2, .int (iI d)), (4, .int (iI (i : Int)))]) hx hb dX1_countOf_25 hl rfl (by decide) rfl (fun ls hl => ?_)
          refine rv_iinc (k := 4) (lv' := [(4, .int (iI ((i : Int) + 1))), (3, .int (iI (cnC k n f sh d i + 1))), (0, .ref a), (1, .int (iI sh)), (2, .int (iI d))]) hx hb dX1_countOf_28 hl rfl (by decide) rfl (fun ls hl => ?_)
          refine lv_goto (tgt := 5) hx hb dX1_countOf_31 (by decide) ?_
          exact ih5 (i + 1) (by omega) (by omega) _ _ (by simp only [cnC]; first | rw [if_pos h22] | (rw [if_neg h22]; omega)) (by omega) ls (lv_sub hl [2, 3, 4, 1, 0] rfl)
  exact loop5 (_ + 1) 0 (by omega) (Nat.lt_succ_self _) _ _ rfl rfl ls (lv_sub hl [2, 3, 4, 1, 0] rfl)

abbrev rm_X1_planeDepth : Room := { frames := 2, cells := 0, slots := 0, locals := 44 }
set_option maxHeartbeats 4000000 in
set_option maxRecDepth 100000 in
/-- planeDepth -/
theorem c_X1_planeDepth (l : Launch) (D : va_G) (cs : Nat → ClassId) (a : Nat) (k : Int) (n : Int) (f : Int) (o : Int) (w : Int) (x : Int) (y : Int) (hx0 : 0 ≤ x ∧ x < 1000) (hy0 : 0 ≤ y ∧ y < 1000) : Met l yX1_planeDepth (Cond.code yX1_planeDepth cX1_planeDepth 3 (some .int) :: TB) rm_X1_planeDepth (va_Pc [.ref a, .int (iI x), .int (iI y)] (fun U => KA D cs U ∧ PanelAt D cs (fun _ => False) U.heap a k n f o w)) (vp_Si (fun r => r = iI (plD k n f x y) ∧ (0 ≤ plD k n f x y ∧ plD k n f x y < n))) 0 0 (fun _ => False) := by
  refine enter (cc := cX1_planeDepth) (maxL := 3) (ret := (some .int)) (by decide) (Nat.le_of_ble_eq_true rfl) ?_
  intro pg ev s m below meth c Q ls hx hb hml hown hts hr hlocks hnm ⟨hK, hpan⟩ hl hQ
  have ht : ∀ w ∈ TB, w.before _ s = true := fun w h => hts w (List.mem_cons_of_mem _ h)
  have hl : lv_has ls 3 [(0, .ref a), (1, .int (iI x)), (2, .int (iI y))] := hl
  obtain ⟨hv, r, row, hPn, -, -, hrow⟩ := id hpan
  obtain ⟨hvk, hvn, hvf, hvo, hvw⟩ := hv
  have hnb := isPr_bd hvn
  have hpb := per_bd (k := k) hvn
  have hfb := fOK_bd hvk hvn hvf
  refine lv_aload_n hx hb dX1_planeDepth_0 rfl (lv_at hl 0 rfl) ?_
  refine lv_iload_n hx hb dX1_planeDepth_1 rfl (lv_at hl 1 rfl) ?_
  refine vp_callSi (W.runV (As := [.int (iI x)]) (rest := []) ⟨hx, hb, hml, hown, hts⟩ (c_X1_depthAt l D cs a k n f o w x (by omega)) (cwV 1 hts (gV tb_428 tb_429 tb_430 tb_5 tb_431) rfl rfl rfl (by decide +kernel) ⟨Nat.le_of_ble_eq_true rfl, Nat.le_of_ble_eq_true rfl⟩) (preV_pan hK hpan) rfl rfl hl.1 rfl (lv_room (Nat.le_of_ble_eq_true rfl)) dX1_planeDepth_2 ⟨Nat.le_of_ble_eq_true rfl, Nat.le_of_ble_eq_true rfl⟩) (fun r9 hr9 => ?_)
  obtain ⟨rfl, hx2_0⟩ := hr9
  refine lv_aload_n hx hb dX1_planeDepth_5 rfl (lv_at hl 0 rfl) ?_
  refine lv_iload_n hx hb dX1_planeDepth_6 rfl (lv_at hl 2 rfl) ?_
  refine vp_callSi (W.runV (As := [.int (iI y)]) (rest := [.int (iI (dpt k n f x))]) ⟨hx, hb, hml, hown, hts⟩ (c_X1_depthAt l D cs a k n f o w y (by omega)) (cwV 1 hts (gV tb_428 tb_429 tb_430 tb_5 tb_431) rfl rfl rfl (by decide +kernel) ⟨Nat.le_of_ble_eq_true rfl, Nat.le_of_ble_eq_true rfl⟩) (preV_pan hK hpan) rfl rfl hl.1 rfl (lv_room (Nat.le_of_ble_eq_true rfl)) dX1_planeDepth_7 ⟨Nat.le_of_ble_eq_true rfl, Nat.le_of_ble_eq_true rfl⟩) (fun r9 hr9 => ?_)
  obtain ⟨rfl, hx7_0⟩ := hr9
  refine rv_iadd hx hb dX1_planeDepth_10 ?_
  refine lv_aload_n hx hb dX1_planeDepth_11 rfl (lv_at hl 0 rfl) ?_
  refine va_get (D := D) (ci := 0) (v := .int (iI n)) (C := RX1) (T := TX1) (N := 7) hx hb ht inTB_X1 hown hK hPn 0 rfl rfl 1 (by decide) (ht _ tb_143) (fun _ h9 => h9) rfl dX1_planeDepth_12 ?_
  refine vp_callSi (W.runS (As := [.int (iI (dpt k n f x + dpt k n f y)), .int (iI n)]) (rest := []) ⟨hx, hb, hml, hown, hts⟩ (c_X0_rest l (dpt k n f x + dpt k n f y) n (by omega) (by omega)) (va_cwS 2 hts (gS tb_138 tb_139 tb_6 tb_140) rfl rfl rfl (by decide +kernel) ⟨Nat.le_of_ble_eq_true rfl, Nat.le_of_ble_eq_true rfl⟩) preS0 rfl rfl hl.1 rfl (lv_room (Nat.le_of_ble_eq_true rfl)) dX1_planeDepth_15 ⟨Nat.le_of_ble_eq_true rfl, Nat.le_of_ble_eq_true rfl⟩) (fun r9 hr9 => ?_)
  obtain ⟨rfl, hx15_0⟩ := hr9
  subst hQ
  exact W.iret hx hb hr (fun t9 ht9 hW9 => ⟨_, rfl, ⟨rfl, hx15_0⟩, ht9⟩) (fun _ h => absurd h List.not_mem_nil) dX1_planeDepth_18

abbrev rm_X1_planePlaces : Room := { frames := 3, cells := 0, slots := 0, locals := 66 }
set_option maxHeartbeats 4000000 in
set_option maxRecDepth 100000 in
/-- planePlaces -/
theorem c_X1_planePlaces (l : Launch) (D : va_G) (cs : Nat → ClassId) (a : Nat) (k : Int) (n : Int) (f : Int) (o : Int) (w : Int) (d : Int) (hd : -2147483648 ≤ d ∧ d < 2147483648) : Met l yX1_planePlaces (Cond.code yX1_planePlaces cX1_planePlaces 5 (some .int) :: TB) rm_X1_planePlaces (va_Pc [.ref a, .int (iI d)] (fun U => KA D cs U ∧ PanelAt D cs (fun _ => False) U.heap a k n f o w)) (vp_Si (fun r => r = iI (ppO k n f d (n).toNat (n).toNat))) 0 0 (fun _ => False) := by
  refine enter (cc := cX1_planePlaces) (maxL := 5) (ret := (some .int)) (by decide) (Nat.le_of_ble_eq_true rfl) ?_
  intro pg ev s m below meth c Q ls hx hb hml hown hts hr hlocks hnm ⟨hK, hpan⟩ hl hQ
  have ht : ∀ w ∈ TB, w.before _ s = true := fun w h => hts w (List.mem_cons_of_mem _ h)
  have hl : lv_has ls 5 [(0, .ref a), (1, .int (iI d))] := hl
  obtain ⟨hv, r, row, hPn, -, -, hrow⟩ := id hpan
  obtain ⟨hvk, hvn, hvf, hvo, hvw⟩ := hv
  have hnb := isPr_bd hvn
  have hpb := per_bd (k := k) hvn
  have hfb := fOK_bd hvk hvn hvf
  refine rv_iconst hx hb dX1_planePlaces_0 ?_
  refine lv_istore_n (lv' := [(2, .int (iI 0)), (0, .ref a), (1, .int (iI d))]) hx hb dX1_planePlaces_1 rfl hl (by decide) rfl (fun ls hl => ?_)
  refine rv_iconst hx hb dX1_planePlaces_2 ?_
  refine lv_istore_n (lv' := [(3, .int (iI 0)), (2, .int (iI 0)), (0, .ref a), (1, .int (iI d))]) hx hb dX1_planePlaces_3 rfl hl (by decide) rfl (fun ls hl => ?_)
  have loop4 : ∀ (fuel4 : Nat) (x : Nat), ((x : Int) ≤ n) → (n - (x : Int)).toNat < fuel4 → ∀ (x2 x3 : Int), x2 = ppO k n f d n.toNat x → x3 = (x : Int) → ∀ ls : Array Slot, lv_has ls 5 [(0, .ref a), (1, .int (iI d)), (2, .int (iI x2)), (3, .int (iI x3))] → W pg l ev rm_X1_planePlaces s m [.ref a, .int (iI d)].toArray below meth c s.heap [] 0 0 Q (F0 m 4 ls []) := by
    intro fuel4
    induction fuel4 with
    | zero => intro x hx1 hfuel4; exact absurd hfuel4 (Nat.not_lt_zero _)
    | succ fuel4 ih4 =>
      intro x hx1 hfuel4 x2 x3 ex2 ex3 ls hl
      subst ex2 ex3
      have hpo := ppO_bd k n f d n.toNat x (by omega)
      refine lv_iload_n hx hb dX1_planePlaces_4 rfl (lv_at hl 3 rfl) ?_
      refine lv_aload_n hx hb dX1_planePlaces_5 rfl (lv_at hl 0 rfl) ?_
      refine va_get (D := D) (ci := 0) (v := .int (iI n)) (C := RX1) (T := TX1) (N := 7) hx hb ht inTB_X1 hown hK hPn 0 rfl rfl 1 (by decide) (ht _ tb_143) (fun _ h9 => h9) rfl dX1_planePlaces_6 ?_
      refine rv_icmp_ge (tgt := 50) hx hb dX1_planePlaces_9 (by decide) (by omega) (fun h9 => ?_) (fun h9 => ?_)
      · refine lv_iload_n hx hb dX1_planePlaces_50 rfl (lv_at hl 2 rfl) ?_
        subst hQ
        exact W.iret hx hb hr (fun t9 ht9 hW9 => ⟨_, rfl, by rw [show n.toNat = x by omega], ht9⟩) (fun _ h => absurd h List.not_mem_nil) dX1_planePlaces_51
      · refine rv_iconst hx hb dX1_planePlaces_12 ?_
        refine lv_istore (lv' := [(4, .int (iI 0)), (0, .ref a), (1, .int (iI d)), (2, .int (iI (ppO k n f d n.toNat x))), (3, .int (iI (x : Int)))]) hx hb dX1_planePlaces_13 hl (by decide) rfl (fun ls hl => ?_)
        have loop15 : ∀ (fuel15 : Nat) (y : Nat), ((y : Int) ≤ n) → (n - (y : Int)).toNat < fuel15 → ∀ (x2 x3 x4 : Int), x2 = (ppO k n f d n.toNat x + ppI k n f d (x : Int) y) → x3 = (x : Int) → x4 = (y : Int) → ∀ ls : Array Slot, lv_has ls 5 [(0, .ref a), (1, .int (iI d)), (2, .int (iI x2)), (3, .int (iI x3)), (4, .int (iI x4))] → W pg l ev rm_X1_planePlaces s m [.ref a, .int (iI d)].toArray below meth c s.heap [] 0 0 Q (F0 m 15 ls []) := by
          intro fuel15
          induction fuel15 with
          | zero => intro y hy1 hfuel15; exact absurd hfuel15 (Nat.not_lt_zero _)
          | succ fuel15 ih15 =>
            intro y hy1 hfuel15 x2 x3 x4 ex2 ex3 ex4 ls hl
            subst ex2 ex3 ex4
            have hpi := ppI_bd k n f d (x : Int) y
            refine lv_iload hx hb dX1_planePlaces_15 (lv_at hl 4 rfl) ?_
            refine lv_aload_n hx hb dX1_planePlaces_17 rfl (lv_at hl 0 rfl) ?_
            refine va_get (D := D) (ci := 0) (v := .int (iI n)) (C := RX1) (T := TX1) (N := 7) hx hb ht inTB_X1 hown hK hPn 0 rfl rfl 1 (by decide) (ht _ tb_143) (fun _ h9 => h9) rfl dX1_planePlaces_18 ?_
            refine rv_icmp_ge (tgt := 44) hx hb dX1_planePlaces_21 (by decide) (by omega) (fun h21 => ?_) (fun h21 => ?_)
            · refine rv_iinc (k := 3) (lv' := [(3, .int (iI ((x : Int) + 1))), (0, .ref a), (1, .int (iI d)), (2, .int (iI (ppO k n f d n.toNat x + ppI k n f d (x : Int) y))), (4, .int (iI (y : Int)))]) hx hb dX1_planePlaces_44 hl rfl (by decide) rfl (fun ls hl => ?_)
              refine lv_goto (tgt := 4) hx hb dX1_planePlaces_47 (by decide) ?_
              exact ih4 (x + 1) (by omega) (by omega) _ _ (by rw [ppO, show n.toNat = y by omega]) (by omega) ls (lv_sub hl [1, 2, 3, 0] rfl)
            · refine lv_aload_n hx hb dX1_planePlaces_24 rfl (lv_at hl 0 rfl) ?_
              refine lv_iload_n hx hb dX1_planePlaces_25 rfl (lv_at hl 3 rfl) ?_
              refine lv_iload hx hb dX1_planePlaces_26 (lv_at hl 4 rfl) ?_
              refine vp_callSi (W.runV (As := [.int (iI (x : Int)), .int (iI (y : Int))]) (rest := []) ⟨hx, hb, hml, hown, hts⟩ (c_X1_planeDepth l D cs a k n f o w (x : Int) (y : Int) (by omega) (by omega)) (cwV 2 hts (gV tb_500 tb_489 tb_490 tb_5 tb_491) rfl rfl rfl (by decide +kernel) ⟨Nat.le_of_ble_eq_true rfl, Nat.le_of_ble_eq_true rfl⟩) (preV_pan hK hpan) rfl rfl hl.1 rfl (lv_room (Nat.le_of_ble_eq_true rfl)) dX1_planePlaces_28 ⟨Nat.le_of_ble_eq_true rfl, Nat.le_of_ble_eq_true rfl⟩) (fun r9 hr9 => ?_)
              obtain ⟨rfl, hx28_0⟩ := hr9
              refine lv_iload_n hx hb dX1_planePlaces_31 rfl (lv_at hl 1 rfl) ?_
              refine rv_icmp_ne (tgt := 38) hx hb dX1_planePlaces_32 (by decide) (by omega) (fun h32 => ?_) (fun h32 => ?_)
              · refine rv_iinc (k := 4) (lv' := [(4, .int (iI ((y : Int) + 1))), (0, .ref a), (1, .int (iI d)), (2, .int (iI (ppO k n f d n.toNat x + ppI k n f d (x : Int) y))), (3, .int (iI (x : Int)))]) hx hb dX1_planePlaces_38 hl rfl (by decide) rfl (fun ls hl => ?_)
                refine lv_goto (tgt := 15) hx hb dX1_planePlaces_41 (by decide) ?_
                exact ih15 (y + 1) (by omega) (by omega) _ _ _ (by simp only [ppI]; first | (rw [if_pos h32]; omega) | (rw [if_neg h32]; omega)) rfl (by omega) ls (lv_sub hl [1, 2, 3, 4, 0] rfl)
              · refine rv_iinc (k := 2) (lv' := [(2, .int (iI ((ppO k n f d n.toNat x + ppI k n f d (x : Int) y) + 1))), (0, .ref a), (1, .int (iI d)), (3, .int (iI (x : Int))), (4, .int (iI (y : Int)))]) hx hb dX1_planePlaces_35 hl rfl (by decide) rfl (fun ls hl => ?_)
                refine rv_iinc (k := 4) (lv' := [(4, .int (iI ((y : Int) + 1))), (2, .int (iI ((ppO k n f d n.toNat x + ppI k n f d (x : Int) y) + 1))), (0, .ref a), (1, .int (iI d)), (3, .int (iI (x : Int)))]) hx hb dX1_planePlaces_38 hl rfl (by decide) rfl (fun ls hl => ?_)
                refine lv_goto (tgt := 15) hx hb dX1_planePlaces_41 (by decide) ?_
                exact ih15 (y + 1) (by omega) (by omega) _ _ _ (by simp only [ppI]; first | (rw [if_pos h32]; omega) | (rw [if_neg h32]; omega)) rfl (by omega) ls (lv_sub hl [2, 3, 1, 4, 0] rfl)
        exact loop15 (_ + 1) 0 (by omega) (Nat.lt_succ_self _) _ _ _ (by simp [ppI]) rfl rfl ls (lv_sub hl [1, 2, 3, 4, 0] rfl)
  exact loop4 (_ + 1) 0 (by omega) (Nat.lt_succ_self _) _ _ rfl rfl ls (lv_sub hl [2, 3, 1, 0] rfl)

