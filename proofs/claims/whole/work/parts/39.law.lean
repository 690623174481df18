/-! the law, from its entry -/
theorem chg_bd {un un2 : Int} {bf bf2 now now2 : Nat → Int} {P : Prop} {a_ : Nat} {x : Int} (hun : 0 ≤ un ∧ un ≤ 6) (h : (¬ P → now2 = now ∧ un2 = un ∧ bf2 = bf) ∧ (P → Beca now un bf a_ x now2 un2 bf2)) : 0 ≤ un2 ∧ un2 ≤ 6 := by
  by_cases q : P
  · obtain ⟨h1, h2⟩ := h.2 q
    by_cases z : now a_ = x
    · have := (h1 z).2.1; omega
    · obtain ⟨-, n1, n2, -⟩ := h2 z
      rcases (show un < 6 ∨ un = 6 by omega) with y | y
      · have := (n1 y).1; omega
      · have := (n2 y).1; omega
  · have := (h.1 q).2.1; omega
theorem take_bd {un un2 : Int} {bf bf2 now now2 w : Nat → Int} {P : Prop} (hun : 0 ≤ un ∧ un ≤ 6) (h : (¬ P → now2 = now ∧ un2 = un ∧ bf2 = bf) ∧ (P → (now2 = w) ∧ Noted un bf now un2 bf2)) : 0 ≤ un2 ∧ un2 ≤ 6 := by
  by_cases q : P
  · obtain ⟨-, n1, n2, -⟩ := h.2 q
    rcases (show un < 6 ∨ un = 6 by omega) with y | y
    · have := (n1 y).1; omega
    · have := (n2 y).1; omega
  · have := (h.1 q).2.1; omega
set_option maxHeartbeats 40000000 in
set_option maxRecDepth 100000 in
theorem whole_start {p : Program} {e : Env} {s : State} {m : MethodId} {below : List Frame} {meth : Method} {c : Code} (l : Launch) (hflags : l.flags = flags0) {b L : Nat} {xs : Nat → Int32} (hL : L ≤ 2048) (C0 : lw_At p s m meth c b L xs) : W p l e room_1 s m #[Value.ref b] below meth c s.heap [] 0 0 (lw_Z below #[Value.ref b] s) (entryFrame m ([Value.ref b] : List Value).toArray 4) := by
  obtain ⟨hx, hb, hr, hml, hown, hts, hX, hbl, hlocks, hgv⟩ := id C0
  have hb : c.code = cL_law := hb
  have hown : s.vm.findClass "SoundWellsLaw" = some m.cls := hown
  have ht : ∀ w ∈ TB, w.before _ s = true := fun w h => hts w (tb_in h)
  obtain ⟨D, cs, hK⟩ := law_known hts
  have hST := law_ST hts
  have hNS := law_NS hts
  have hPZ0 := law_PZ hts hgv
  obtain ⟨A, hAe⟩ : ∃ A, (fun q : Nat => s.heap.size ≤ q) = A := ⟨_, rfl⟩
  have hA : ∀ q : Nat, s.heap.size ≤ q → A q := fun q h => by rw [← hAe]; exact h
  have hbA : ¬ A b := by rw [← hAe]; exact Nat.not_le.mpr hbl
  have hS0 : va_S A s.heap s.heap [] := va_S.rf
  have hP0 : va_P D classes ([] : va_W) s.heap := fun k q h => by simp at h
  have hD : va_D A ([] : va_W) := ⟨fun i j p q h => by simp at h, fun k q h => by simp at h⟩
  have hl := lv_entry ([.ref b]) (n := 4) (Nat.le_of_ble_eq_true rfl)
  rw [lg_entry_eq]
  generalize (lg_sl ([.ref b]) ++ List.replicate (4 - (lg_sl ([.ref b])).length) Slot.unset).toArray = ls at hl ⊢
  have hl : lv_has ls 4 [(0, .ref b)] := hl
  obtain ⟨H, hH⟩ : ∃ H, H = s.heap := ⟨_, rfl⟩
  obtain ⟨locs, hlocs⟩ : ∃ locs : List Loc, locs = [] := ⟨_, rfl⟩
  have hS : va_S A s.heap H locs := by rw [hH, hlocs]; exact hS0
  have hP : va_P D classes ([] : va_W) H := by rw [hH]; exact hP0
  suffices hgo : W p l e room_1 s m #[Value.ref b] below meth c H locs 0 0 (lw_Z below #[Value.ref b] s) (F0 m 0 ls []) by rw [hH, hlocs] at hgo; exact hgo
  refine va_new (ci := 5) (fs := [.null, .null, .null, .null, .int (iI 0), .null]) (C := RX6) (T := TX6) (N := 6) hx hb ht inTB_X6 tyX6 tyX6_ok hown (ht _ tb_12) (ht _ tb_13) (ht _ tb_1) hK hP hD hS hA rfl (fun j hj => by rcases (show j = 0 ∨ j = 1 ∨ j = 2 ∨ j = 3 ∨ j = 4 ∨ j = 5 by omega) with rfl | rfl | rfl | rfl | rfl | rfl <;> rfl) (Nat.le_of_ble_eq_true rfl) (Nat.le_of_ble_eq_true rfl) dL_law_0 (fun q0 H hP hD hS => ?_)
  have hP : va_P D classes ([(q0, .inr (5, [.null, .null, .null, .null, .int (iI 0), .null]))]) H := hP
  have hD : va_D A ([(q0, .inr (5, [.null, .null, .null, .null, .int (iI 0), .null]))]) := hD
  refine lv_dup hx hb dL_law_3 rfl ?_
  have hFc := va_free (wc := [(q0, .inr (5, [.null, .null, .null, .null, .int (iI 0), .null]))]) hD hS hA [0] rfl
  have hPc := hP.sub (ws' := [(q0, .inr (5, [.null, .null, .null, .null, .int (iI 0), .null]))]) [0] rfl
  have hDc := hD.sub (ws' := [(q0, .inr (5, [.null, .null, .null, .null, .int (iI 0), .null]))]) [0] (by decide) rfl
  refine va_callv (va_runI (As := []) (rest := [.ref q0]) ⟨hx, hb, hml, hown, hts⟩ (c_X6_init l D cs H.size q0) (cwI 0 hts (gTBl tb_16) rfl rfl rfl (ht _ tb_1) (ht _ tb_14) (ht _ tb_15) rfl (by decide +kernel) ⟨Nat.le_of_ble_eq_true rfl, Nat.le_of_ble_eq_true rfl⟩) (preS_M (X := fun U H => ST U ∧ NS U) (Stb_and ST_stb NS_stb) hK hPc hDc ⟨hST, hNS⟩) rfl rfl hl.1 rfl (lv_room (Nat.le_of_ble_eq_true rfl)) dL_law_4 ⟨Nat.le_of_ble_eq_true rfl, Nat.le_of_ble_eq_true rfl⟩) hS (fun q _ h => hFc q h) hFc (fun u9 t9 H9 locs ht9 hvm9 hw9 hB9 hz9 hk9 hS => ?_)
  obtain ⟨xt_4, xr_4, xrp_4, xrn_4, xp_4, xpp_4, xs_4, xs1_4, xs2_4, xs3_4, xs4_4, xs5_4, xs6_4, xg_4, y0_4, w0_4, ro0_4, y1_4, w1_4, ro1_4, y2_4, w2_4, ro2_4, pl_4, hf4_0, hf4_1, hf4_2, hP1, hD1⟩ := hB9
  rw [ht9] at hP1
  obtain ⟨hPj, hDj⟩ := va_join (wr := []) hP hD [0] [] rfl rfl (by decide) (by decide) hk9 hFc hP1 hD1
  generalize H9 = H at *
  have hP : va_P D classes ([(q0, .inr (5, [.ref xt_4, .ref xr_4, .ref xp_4, .ref xs_4, .int (iI 0), .ref pl_4])), (xt_4, caC cs 200 (fun _ => 0)), (xr_4, .inr (3, [.ref xrp_4, .ref xrn_4, .null, .int (iI 0), .int (iI 0), .int (iI 0), .int (iI 0), .int (iI 0)])), (xrp_4, raC (cs 2) 4 (fun _ => none)), (xrn_4, iaC cs 4 (fun _ => 0)), (xp_4, .inr (1, [.ref xpp_4, .int (iI 0)])), (xpp_4, raC (cs 3) 6 (fun _ => none)), (xs_4, .inr (4, [.ref xs1_4, .ref xs2_4, .ref xs3_4, .ref xs4_4, .ref xs5_4, .ref xs6_4, .int (iI 0), .int (iI 0), .int (iI 0), .int (iI 0), .int (iI 0), .int (iI 0), .int (iI 0), .int (iI 0)])), (xs1_4, iaC cs 160 (fun _ => 0)), (xs2_4, iaC cs 31 (fun _ => 0)), (xs3_4, iaC cs 160 (fun _ => 0)), (xs4_4, iaC cs 160 (fun _ => 0)), (xs5_4, iaC cs 160 (fun _ => 0)), (xs6_4, iaC cs 160 (fun _ => 0)), (xg_4, raC (cs 2) 3 (va_up (va_up (va_up (fun _ => none) 0 (some y0_4)) 1 (some y1_4)) 2 (some y2_4))), (y0_4, .inr (0, [.int (iI 0), .int (iI 7), .int (iI 1), .int (iI 0), .int (iI 14), .int (iI (per 0 7)), .ref w0_4])), (w0_4, iaC cs 31 ro0_4), (y1_4, .inr (0, [.int (iI 1), .int (iI 11), .int (iI 2), .int (iI 3), .int (iI 10), .int (iI (per 1 11)), .ref w1_4])), (w1_4, iaC cs 31 ro1_4), (y2_4, .inr (0, [.int (iI 2), .int (iI 13), .int (iI 4), .int (iI 0), .int (iI 13), .int (iI (per 2 13)), .ref w2_4])), (w2_4, iaC cs 31 ro2_4), (pl_4, .inr (2, [.ref xg_4, .int (iI 3), .int (iI 40), .int (iI 1)]))]) H := hPj
  have hD : va_D A ([(q0, .inr (5, [.ref xt_4, .ref xr_4, .ref xp_4, .ref xs_4, .int (iI 0), .ref pl_4])), (xt_4, caC cs 200 (fun _ => 0)), (xr_4, .inr (3, [.ref xrp_4, .ref xrn_4, .null, .int (iI 0), .int (iI 0), .int (iI 0), .int (iI 0), .int (iI 0)])), (xrp_4, raC (cs 2) 4 (fun _ => none)), (xrn_4, iaC cs 4 (fun _ => 0)), (xp_4, .inr (1, [.ref xpp_4, .int (iI 0)])), (xpp_4, raC (cs 3) 6 (fun _ => none)), (xs_4, .inr (4, [.ref xs1_4, .ref xs2_4, .ref xs3_4, .ref xs4_4, .ref xs5_4, .ref xs6_4, .int (iI 0), .int (iI 0), .int (iI 0), .int (iI 0), .int (iI 0), .int (iI 0), .int (iI 0), .int (iI 0)])), (xs1_4, iaC cs 160 (fun _ => 0)), (xs2_4, iaC cs 31 (fun _ => 0)), (xs3_4, iaC cs 160 (fun _ => 0)), (xs4_4, iaC cs 160 (fun _ => 0)), (xs5_4, iaC cs 160 (fun _ => 0)), (xs6_4, iaC cs 160 (fun _ => 0)), (xg_4, raC (cs 2) 3 (va_up (va_up (va_up (fun _ => none) 0 (some y0_4)) 1 (some y1_4)) 2 (some y2_4))), (y0_4, .inr (0, [.int (iI 0), .int (iI 7), .int (iI 1), .int (iI 0), .int (iI 14), .int (iI (per 0 7)), .ref w0_4])), (w0_4, iaC cs 31 ro0_4), (y1_4, .inr (0, [.int (iI 1), .int (iI 11), .int (iI 2), .int (iI 3), .int (iI 10), .int (iI (per 1 11)), .ref w1_4])), (w1_4, iaC cs 31 ro1_4), (y2_4, .inr (0, [.int (iI 2), .int (iI 13), .int (iI 4), .int (iI 0), .int (iI 13), .int (iI (per 2 13)), .ref w2_4])), (w2_4, iaC cs 31 ro2_4), (pl_4, .inr (2, [.ref xg_4, .int (iI 3), .int (iI 40), .int (iI 1)]))]) := hDj
  refine lv_astore_n (lv' := [(1, .ref q0), (0, .ref b)]) hx hb dL_law_7 rfl hl (by decide) rfl (fun ls hl => ?_)
  refine va_new (ci := 6) (fs := [.int (iI 0), .null, .int (iI 0), .null, .null, .null, .int (iI 0), .null, .null, .null, .null, .null, .int (iI 0), .int (iI 0), .int (iI 0), .int (iI 0)]) (C := RX7) (T := TX7) (N := 16) hx hb ht inTB_X7 tyX7 tyX7_ok hown (ht _ tb_578) (ht _ tb_579) (ht _ tb_8) hK hP hD hS hA rfl (fun j hj => by rcases (show j = 0 ∨ j = 1 ∨ j = 2 ∨ j = 3 ∨ j = 4 ∨ j = 5 ∨ j = 6 ∨ j = 7 ∨ j = 8 ∨ j = 9 ∨ j = 10 ∨ j = 11 ∨ j = 12 ∨ j = 13 ∨ j = 14 ∨ j = 15 by omega) with rfl | rfl | rfl | rfl | rfl | rfl | rfl | rfl | rfl | rfl | rfl | rfl | rfl | rfl | rfl | rfl <;> rfl) (Nat.le_of_ble_eq_true rfl) (Nat.le_of_ble_eq_true rfl) dL_law_8 (fun q8 H hP hD hS => ?_)
  have hP : va_P D classes ([(q0, .inr (5, [.ref xt_4, .ref xr_4, .ref xp_4, .ref xs_4, .int (iI 0), .ref pl_4])), (xt_4, caC cs 200 (fun _ => 0)), (xr_4, .inr (3, [.ref xrp_4, .ref xrn_4, .null, .int (iI 0), .int (iI 0), .int (iI 0), .int (iI 0), .int (iI 0)])), (xrp_4, raC (cs 2) 4 (fun _ => none)), (xrn_4, iaC cs 4 (fun _ => 0)), (xp_4, .inr (1, [.ref xpp_4, .int (iI 0)])), (xpp_4, raC (cs 3) 6 (fun _ => none)), (xs_4, .inr (4, [.ref xs1_4, .ref xs2_4, .ref xs3_4, .ref xs4_4, .ref xs5_4, .ref xs6_4, .int (iI 0), .int (iI 0), .int (iI 0), .int (iI 0), .int (iI 0), .int (iI 0), .int (iI 0), .int (iI 0)])), (xs1_4, iaC cs 160 (fun _ => 0)), (xs2_4, iaC cs 31 (fun _ => 0)), (xs3_4, iaC cs 160 (fun _ => 0)), (xs4_4, iaC cs 160 (fun _ => 0)), (xs5_4, iaC cs 160 (fun _ => 0)), (xs6_4, iaC cs 160 (fun _ => 0)), (xg_4, raC (cs 2) 3 (va_up (va_up (va_up (fun _ => none) 0 (some y0_4)) 1 (some y1_4)) 2 (some y2_4))), (y0_4, .inr (0, [.int (iI 0), .int (iI 7), .int (iI 1), .int (iI 0), .int (iI 14), .int (iI (per 0 7)), .ref w0_4])), (w0_4, iaC cs 31 ro0_4), (y1_4, .inr (0, [.int (iI 1), .int (iI 11), .int (iI 2), .int (iI 3), .int (iI 10), .int (iI (per 1 11)), .ref w1_4])), (w1_4, iaC cs 31 ro1_4), (y2_4, .inr (0, [.int (iI 2), .int (iI 13), .int (iI 4), .int (iI 0), .int (iI 13), .int (iI (per 2 13)), .ref w2_4])), (w2_4, iaC cs 31 ro2_4), (pl_4, .inr (2, [.ref xg_4, .int (iI 3), .int (iI 40), .int (iI 1)])), (q8, .inr (6, [.int (iI 0), .null, .int (iI 0), .null, .null, .null, .int (iI 0), .null, .null, .null, .null, .null, .int (iI 0), .int (iI 0), .int (iI 0), .int (iI 0)]))]) H := hP
  have hD : va_D A ([(q0, .inr (5, [.ref xt_4, .ref xr_4, .ref xp_4, .ref xs_4, .int (iI 0), .ref pl_4])), (xt_4, caC cs 200 (fun _ => 0)), (xr_4, .inr (3, [.ref xrp_4, .ref xrn_4, .null, .int (iI 0), .int (iI 0), .int (iI 0), .int (iI 0), .int (iI 0)])), (xrp_4, raC (cs 2) 4 (fun _ => none)), (xrn_4, iaC cs 4 (fun _ => 0)), (xp_4, .inr (1, [.ref xpp_4, .int (iI 0)])), (xpp_4, raC (cs 3) 6 (fun _ => none)), (xs_4, .inr (4, [.ref xs1_4, .ref xs2_4, .ref xs3_4, .ref xs4_4, .ref xs5_4, .ref xs6_4, .int (iI 0), .int (iI 0), .int (iI 0), .int (iI 0), .int (iI 0), .int (iI 0), .int (iI 0), .int (iI 0)])), (xs1_4, iaC cs 160 (fun _ => 0)), (xs2_4, iaC cs 31 (fun _ => 0)), (xs3_4, iaC cs 160 (fun _ => 0)), (xs4_4, iaC cs 160 (fun _ => 0)), (xs5_4, iaC cs 160 (fun _ => 0)), (xs6_4, iaC cs 160 (fun _ => 0)), (xg_4, raC (cs 2) 3 (va_up (va_up (va_up (fun _ => none) 0 (some y0_4)) 1 (some y1_4)) 2 (some y2_4))), (y0_4, .inr (0, [.int (iI 0), .int (iI 7), .int (iI 1), .int (iI 0), .int (iI 14), .int (iI (per 0 7)), .ref w0_4])), (w0_4, iaC cs 31 ro0_4), (y1_4, .inr (0, [.int (iI 1), .int (iI 11), .int (iI 2), .int (iI 3), .int (iI 10), .int (iI (per 1 11)), .ref w1_4])), (w1_4, iaC cs 31 ro1_4), (y2_4, .inr (0, [.int (iI 2), .int (iI 13), .int (iI 4), .int (iI 0), .int (iI 13), .int (iI (per 2 13)), .ref w2_4])), (w2_4, iaC cs 31 ro2_4), (pl_4, .inr (2, [.ref xg_4, .int (iI 3), .int (iI 40), .int (iI 1)])), (q8, .inr (6, [.int (iI 0), .null, .int (iI 0), .null, .null, .null, .int (iI 0), .null, .null, .null, .null, .null, .int (iI 0), .int (iI 0), .int (iI 0), .int (iI 0)]))]) := hD
  refine lv_dup hx hb dL_law_11 rfl ?_
  have hFc := va_free (wc := [(q8, .inr (6, [.int (iI 0), .null, .int (iI 0), .null, .null, .null, .int (iI 0), .null, .null, .null, .null, .null, .int (iI 0), .int (iI 0), .int (iI 0), .int (iI 0)]))]) hD hS hA [22] rfl
  have hPc := hP.sub (ws' := [(q8, .inr (6, [.int (iI 0), .null, .int (iI 0), .null, .null, .null, .int (iI 0), .null, .null, .null, .null, .null, .int (iI 0), .int (iI 0), .int (iI 0), .int (iI 0)]))]) [22] rfl
  have hDc := hD.sub (ws' := [(q8, .inr (6, [.int (iI 0), .null, .int (iI 0), .null, .null, .null, .int (iI 0), .null, .null, .null, .null, .null, .int (iI 0), .int (iI 0), .int (iI 0), .int (iI 0)]))]) [22] (by decide) rfl
  refine va_callv (va_runI (As := []) (rest := [.ref q8]) ⟨hx, hb, hml, hown, hts⟩ (c_X7_init l D cs H.size q8) (cwI 0 hts (gTBl tb_582) rfl rfl rfl (ht _ tb_8) (ht _ tb_580) (ht _ tb_581) rfl (by decide +kernel) ⟨Nat.le_of_ble_eq_true rfl, Nat.le_of_ble_eq_true rfl⟩) (preS_M (X := fun _ _ => True) Stb_T hK hPc hDc trivial) rfl rfl hl.1 rfl (lv_room (Nat.le_of_ble_eq_true rfl)) dL_law_12 ⟨Nat.le_of_ble_eq_true rfl, Nat.le_of_ble_eq_true rfl⟩) hS (fun q _ h => hFc q h) hFc (fun u9 t9 H9 locs ht9 hvm9 hw9 hB9 hz9 hk9 hS => ?_)
  obtain ⟨m1_12, m2_12, m3_12, m4_12, m5_12, m6_12, m7_12, m8_12, m9_12, nw_12, hf12_0, hP1, hD1⟩ := hB9
  rw [ht9] at hP1
  obtain ⟨hPj, hDj⟩ := va_join (wr := [_, _, _, _, _, _, _, _, _, _, _, _, _, _, _, _, _, _, _, _, _, _]) hP hD [22] [0, 1, 2, 3, 4, 5, 6, 7, 8, 9, 10, 11, 12, 13, 14, 15, 16, 17, 18, 19, 20, 21] rfl rfl (by decide) (by decide) hk9 hFc hP1 hD1
  generalize H9 = H at *
  have hP : va_P D classes ([(q0, .inr (5, [.ref xt_4, .ref xr_4, .ref xp_4, .ref xs_4, .int (iI 0), .ref pl_4])), (xt_4, caC cs 200 (fun _ => 0)), (xr_4, .inr (3, [.ref xrp_4, .ref xrn_4, .null, .int (iI 0), .int (iI 0), .int (iI 0), .int (iI 0), .int (iI 0)])), (xrp_4, raC (cs 2) 4 (fun _ => none)), (xrn_4, iaC cs 4 (fun _ => 0)), (xp_4, .inr (1, [.ref xpp_4, .int (iI 0)])), (xpp_4, raC (cs 3) 6 (fun _ => none)), (xs_4, .inr (4, [.ref xs1_4, .ref xs2_4, .ref xs3_4, .ref xs4_4, .ref xs5_4, .ref xs6_4, .int (iI 0), .int (iI 0), .int (iI 0), .int (iI 0), .int (iI 0), .int (iI 0), .int (iI 0), .int (iI 0)])), (xs1_4, iaC cs 160 (fun _ => 0)), (xs2_4, iaC cs 31 (fun _ => 0)), (xs3_4, iaC cs 160 (fun _ => 0)), (xs4_4, iaC cs 160 (fun _ => 0)), (xs5_4, iaC cs 160 (fun _ => 0)), (xs6_4, iaC cs 160 (fun _ => 0)), (xg_4, raC (cs 2) 3 (va_up (va_up (va_up (fun _ => none) 0 (some y0_4)) 1 (some y1_4)) 2 (some y2_4))), (y0_4, .inr (0, [.int (iI 0), .int (iI 7), .int (iI 1), .int (iI 0), .int (iI 14), .int (iI (per 0 7)), .ref w0_4])), (w0_4, iaC cs 31 ro0_4), (y1_4, .inr (0, [.int (iI 1), .int (iI 11), .int (iI 2), .int (iI 3), .int (iI 10), .int (iI (per 1 11)), .ref w1_4])), (w1_4, iaC cs 31 ro1_4), (y2_4, .inr (0, [.int (iI 2), .int (iI 13), .int (iI 4), .int (iI 0), .int (iI 13), .int (iI (per 2 13)), .ref w2_4])), (w2_4, iaC cs 31 ro2_4), (pl_4, .inr (2, [.ref xg_4, .int (iI 3), .int (iI 40), .int (iI 1)])), (q8, .inr (6, [.int (iI 0), .ref m1_12, .int (iI 0), .ref m2_12, .ref m3_12, .ref m4_12, .int (iI 0), .ref m5_12, .ref m6_12, .ref m7_12, .ref m8_12, .ref m9_12, .int (iI 0), .int (iI 0), .int (iI 0), .int (iI 0)])), (m1_12, iaC cs 200 (fun _ => 0)), (m2_12, iaC cs 24 nw_12), (m3_12, iaC cs 24 (fun _ => 0)), (m4_12, iaC cs 144 (fun _ => 0)), (m5_12, iaC cs 160 (fun _ => 0)), (m6_12, iaC cs 160 (fun _ => 0)), (m7_12, iaC cs 160 (fun _ => 0)), (m8_12, iaC cs 160 (fun _ => 0)), (m9_12, iaC cs 160 (fun _ => 0))]) H := hPj
  have hD : va_D A ([(q0, .inr (5, [.ref xt_4, .ref xr_4, .ref xp_4, .ref xs_4, .int (iI 0), .ref pl_4])), (xt_4, caC cs 200 (fun _ => 0)), (xr_4, .inr (3, [.ref xrp_4, .ref xrn_4, .null, .int (iI 0), .int (iI 0), .int (iI 0), .int (iI 0), .int (iI 0)])), (xrp_4, raC (cs 2) 4 (fun _ => none)), (xrn_4, iaC cs 4 (fun _ => 0)), (xp_4, .inr (1, [.ref xpp_4, .int (iI 0)])), (xpp_4, raC (cs 3) 6 (fun _ => none)), (xs_4, .inr (4, [.ref xs1_4, .ref xs2_4, .ref xs3_4, .ref xs4_4, .ref xs5_4, .ref xs6_4, .int (iI 0), .int (iI 0), .int (iI 0), .int (iI 0), .int (iI 0), .int (iI 0), .int (iI 0), .int (iI 0)])), (xs1_4, iaC cs 160 (fun _ => 0)), (xs2_4, iaC cs 31 (fun _ => 0)), (xs3_4, iaC cs 160 (fun _ => 0)), (xs4_4, iaC cs 160 (fun _ => 0)), (xs5_4, iaC cs 160 (fun _ => 0)), (xs6_4, iaC cs 160 (fun _ => 0)), (xg_4, raC (cs 2) 3 (va_up (va_up (va_up (fun _ => none) 0 (some y0_4)) 1 (some y1_4)) 2 (some y2_4))), (y0_4, .inr (0, [.int (iI 0), .int (iI 7), .int (iI 1), .int (iI 0), .int (iI 14), .int (iI (per 0 7)), .ref w0_4])), (w0_4, iaC cs 31 ro0_4), (y1_4, .inr (0, [.int (iI 1), .int (iI 11), .int (iI 2), .int (iI 3), .int (iI 10), .int (iI (per 1 11)), .ref w1_4])), (w1_4, iaC cs 31 ro1_4), (y2_4, .inr (0, [.int (iI 2), .int (iI 13), .int (iI 4), .int (iI 0), .int (iI 13), .int (iI (per 2 13)), .ref w2_4])), (w2_4, iaC cs 31 ro2_4), (pl_4, .inr (2, [.ref xg_4, .int (iI 3), .int (iI 40), .int (iI 1)])), (q8, .inr (6, [.int (iI 0), .ref m1_12, .int (iI 0), .ref m2_12, .ref m3_12, .ref m4_12, .int (iI 0), .ref m5_12, .ref m6_12, .ref m7_12, .ref m8_12, .ref m9_12, .int (iI 0), .int (iI 0), .int (iI 0), .int (iI 0)])), (m1_12, iaC cs 200 (fun _ => 0)), (m2_12, iaC cs 24 nw_12), (m3_12, iaC cs 24 (fun _ => 0)), (m4_12, iaC cs 144 (fun _ => 0)), (m5_12, iaC cs 160 (fun _ => 0)), (m6_12, iaC cs 160 (fun _ => 0)), (m7_12, iaC cs 160 (fun _ => 0)), (m8_12, iaC cs 160 (fun _ => 0)), (m9_12, iaC cs 160 (fun _ => 0))]) := hDj
  refine lv_astore_n (lv' := [(2, .ref q8), (1, .ref q0), (0, .ref b)]) hx hb dL_law_15 rfl hl (by decide) rfl (fun ls hl => ?_)
  refine rv_iconst hx hb dL_law_16 ?_
  refine lv_istore_n (lv' := [(3, .int (iI 0)), (2, .ref q8), (1, .ref q0), (0, .ref b)]) hx hb dL_law_17 rfl hl (by decide) rfl (fun ls hl => ?_)
  obtain ⟨ad, ea0, ea1, ea2, ea3, ea4, ea5, ea6, ea7, ea8, ea9, ea10, ea11, ea12, ea13⟩ : ∃ ad : Nat → Nat, ad 0 = q0 ∧ ad 1 = xt_4 ∧ ad 2 = xr_4 ∧ ad 3 = xrp_4 ∧ ad 4 = xrn_4 ∧ ad 5 = xp_4 ∧ ad 6 = xpp_4 ∧ ad 7 = xs_4 ∧ ad 8 = xs1_4 ∧ ad 9 = xs2_4 ∧ ad 10 = xs3_4 ∧ ad 11 = xs4_4 ∧ ad 12 = xs5_4 ∧ ad 13 = xs6_4 := ⟨fun i => [q0, xt_4, xr_4, xrp_4, xrn_4, xp_4, xpp_4, xs_4, xs1_4, xs2_4, xs3_4, xs4_4, xs5_4, xs6_4].getD i 0, rfl, rfl, rfl, rfl, rfl, rfl, rfl, rfl, rfl, rfl, rfl, rfl, rfl, rfl⟩
  subst ea0 ea1 ea2 ea3 ea4 ea5 ea6 ea7 ea8 ea9 ea10 ea11 ea12 ea13
  obtain ⟨ad2, eb0, eb1, eb2, eb3, eb4, eb5, eb6, eb7, eb8, eb9⟩ : ∃ ad2 : Nat → Nat, ad2 0 = q8 ∧ ad2 1 = m1_12 ∧ ad2 2 = m2_12 ∧ ad2 3 = m3_12 ∧ ad2 4 = m4_12 ∧ ad2 5 = m5_12 ∧ ad2 6 = m6_12 ∧ ad2 7 = m7_12 ∧ ad2 8 = m8_12 ∧ ad2 9 = m9_12 := ⟨fun i => [q8, m1_12, m2_12, m3_12, m4_12, m5_12, m6_12, m7_12, m8_12, m9_12].getD i 0, rfl, rfl, rfl, rfl, rfl, rfl, rfl, rfl, rfl, rfl⟩
  subst eb0 eb1 eb2 eb3 eb4 eb5 eb6 eb7 eb8 eb9
  obtain ⟨M, hMe⟩ : ∃ M : Nat → Prop, M = fun q => inAd ad 0 14 q ∨ inAd ad2 0 10 q := ⟨_, rfl⟩
  have hM1 : ∀ q, inAd ad 0 14 q → M q := fun q z => by rw [hMe]; exact Or.inl z
  have hM2 : ∀ q, inAd ad2 0 10 q → M q := fun q z => by rw [hMe]; exact Or.inr z
  have hat : ∀ q, M q → ∃ (k : Nat) (y : va_E), (k < 14 ∨ 22 ≤ k) ∧ ([((ad 0), .inr (5, [.ref (ad 1), .ref (ad 2), .ref (ad 5), .ref (ad 7), .int (iI 0), .ref pl_4])), ((ad 1), caC cs 200 (fun _ => 0)), ((ad 2), .inr (3, [.ref (ad 3), .ref (ad 4), .null, .int (iI 0), .int (iI 0), .int (iI 0), .int (iI 0), .int (iI 0)])), ((ad 3), raC (cs 2) 4 (fun _ => none)), ((ad 4), iaC cs 4 (fun _ => 0)), ((ad 5), .inr (1, [.ref (ad 6), .int (iI 0)])), ((ad 6), raC (cs 3) 6 (fun _ => none)), ((ad 7), .inr (4, [.ref (ad 8), .ref (ad 9), .ref (ad 10), .ref (ad 11), .ref (ad 12), .ref (ad 13), .int (iI 0), .int (iI 0), .int (iI 0), .int (iI 0), .int (iI 0), .int (iI 0), .int (iI 0), .int (iI 0)])), ((ad 8), iaC cs 160 (fun _ => 0)), ((ad 9), iaC cs 31 (fun _ => 0)), ((ad 10), iaC cs 160 (fun _ => 0)), ((ad 11), iaC cs 160 (fun _ => 0)), ((ad 12), iaC cs 160 (fun _ => 0)), ((ad 13), iaC cs 160 (fun _ => 0)), (xg_4, raC (cs 2) 3 (va_up (va_up (va_up (fun _ => none) 0 (some y0_4)) 1 (some y1_4)) 2 (some y2_4))), (y0_4, .inr (0, [.int (iI 0), .int (iI 7), .int (iI 1), .int (iI 0), .int (iI 14), .int (iI (per 0 7)), .ref w0_4])), (w0_4, iaC cs 31 ro0_4), (y1_4, .inr (0, [.int (iI 1), .int (iI 11), .int (iI 2), .int (iI 3), .int (iI 10), .int (iI (per 1 11)), .ref w1_4])), (w1_4, iaC cs 31 ro1_4), (y2_4, .inr (0, [.int (iI 2), .int (iI 13), .int (iI 4), .int (iI 0), .int (iI 13), .int (iI (per 2 13)), .ref w2_4])), (w2_4, iaC cs 31 ro2_4), (pl_4, .inr (2, [.ref xg_4, .int (iI 3), .int (iI 40), .int (iI 1)])), ((ad2 0), .inr (6, [.int (iI 0), .ref (ad2 1), .int (iI 0), .ref (ad2 2), .ref (ad2 3), .ref (ad2 4), .int (iI 0), .ref (ad2 5), .ref (ad2 6), .ref (ad2 7), .ref (ad2 8), .ref (ad2 9), .int (iI 0), .int (iI 0), .int (iI 0), .int (iI 0)])), ((ad2 1), iaC cs 200 (fun _ => 0)), ((ad2 2), iaC cs 24 nw_12), ((ad2 3), iaC cs 24 (fun _ => 0)), ((ad2 4), iaC cs 144 (fun _ => 0)), ((ad2 5), iaC cs 160 (fun _ => 0)), ((ad2 6), iaC cs 160 (fun _ => 0)), ((ad2 7), iaC cs 160 (fun _ => 0)), ((ad2 8), iaC cs 160 (fun _ => 0)), ((ad2 9), iaC cs 160 (fun _ => 0))] : va_W)[k]? = some (q, y) := by
    intro q hq
    rw [hMe] at hq
    rcases hq with ⟨j, _, hj, rfl⟩ | ⟨j, _, hj, rfl⟩
    · rcases (show j = 0 ∨ j = 1 ∨ j = 2 ∨ j = 3 ∨ j = 4 ∨ j = 5 ∨ j = 6 ∨ j = 7 ∨ j = 8 ∨ j = 9 ∨ j = 10 ∨ j = 11 ∨ j = 12 ∨ j = 13 by omega) with rfl | rfl | rfl | rfl | rfl | rfl | rfl | rfl | rfl | rfl | rfl | rfl | rfl | rfl
      · exact ⟨0, _, Or.inl (by decide), rfl⟩
      · exact ⟨1, _, Or.inl (by decide), rfl⟩
      · exact ⟨2, _, Or.inl (by decide), rfl⟩
      · exact ⟨3, _, Or.inl (by decide), rfl⟩
      · exact ⟨4, _, Or.inl (by decide), rfl⟩
      · exact ⟨5, _, Or.inl (by decide), rfl⟩
      · exact ⟨6, _, Or.inl (by decide), rfl⟩
      · exact ⟨7, _, Or.inl (by decide), rfl⟩
      · exact ⟨8, _, Or.inl (by decide), rfl⟩
      · exact ⟨9, _, Or.inl (by decide), rfl⟩
      · exact ⟨10, _, Or.inl (by decide), rfl⟩
      · exact ⟨11, _, Or.inl (by decide), rfl⟩
      · exact ⟨12, _, Or.inl (by decide), rfl⟩
      · exact ⟨13, _, Or.inl (by decide), rfl⟩
    · rcases (show j = 0 ∨ j = 1 ∨ j = 2 ∨ j = 3 ∨ j = 4 ∨ j = 5 ∨ j = 6 ∨ j = 7 ∨ j = 8 ∨ j = 9 by omega) with rfl | rfl | rfl | rfl | rfl | rfl | rfl | rfl | rfl | rfl
      · exact ⟨22, _, Or.inr (by decide), rfl⟩
      · exact ⟨23, _, Or.inr (by decide), rfl⟩
      · exact ⟨24, _, Or.inr (by decide), rfl⟩
      · exact ⟨25, _, Or.inr (by decide), rfl⟩
      · exact ⟨26, _, Or.inr (by decide), rfl⟩
      · exact ⟨27, _, Or.inr (by decide), rfl⟩
      · exact ⟨28, _, Or.inr (by decide), rfl⟩
      · exact ⟨29, _, Or.inr (by decide), rfl⟩
      · exact ⟨30, _, Or.inr (by decide), rfl⟩
      · exact ⟨31, _, Or.inr (by decide), rfl⟩
  have hno : ∀ (i q : Nat) (y : va_E), 14 ≤ i → i < 22 → ([((ad 0), .inr (5, [.ref (ad 1), .ref (ad 2), .ref (ad 5), .ref (ad 7), .int (iI 0), .ref pl_4])), ((ad 1), caC cs 200 (fun _ => 0)), ((ad 2), .inr (3, [.ref (ad 3), .ref (ad 4), .null, .int (iI 0), .int (iI 0), .int (iI 0), .int (iI 0), .int (iI 0)])), ((ad 3), raC (cs 2) 4 (fun _ => none)), ((ad 4), iaC cs 4 (fun _ => 0)), ((ad 5), .inr (1, [.ref (ad 6), .int (iI 0)])), ((ad 6), raC (cs 3) 6 (fun _ => none)), ((ad 7), .inr (4, [.ref (ad 8), .ref (ad 9), .ref (ad 10), .ref (ad 11), .ref (ad 12), .ref (ad 13), .int (iI 0), .int (iI 0), .int (iI 0), .int (iI 0), .int (iI 0), .int (iI 0), .int (iI 0), .int (iI 0)])), ((ad 8), iaC cs 160 (fun _ => 0)), ((ad 9), iaC cs 31 (fun _ => 0)), ((ad 10), iaC cs 160 (fun _ => 0)), ((ad 11), iaC cs 160 (fun _ => 0)), ((ad 12), iaC cs 160 (fun _ => 0)), ((ad 13), iaC cs 160 (fun _ => 0)), (xg_4, raC (cs 2) 3 (va_up (va_up (va_up (fun _ => none) 0 (some y0_4)) 1 (some y1_4)) 2 (some y2_4))), (y0_4, .inr (0, [.int (iI 0), .int (iI 7), .int (iI 1), .int (iI 0), .int (iI 14), .int (iI (per 0 7)), .ref w0_4])), (w0_4, iaC cs 31 ro0_4), (y1_4, .inr (0, [.int (iI 1), .int (iI 11), .int (iI 2), .int (iI 3), .int (iI 10), .int (iI (per 1 11)), .ref w1_4])), (w1_4, iaC cs 31 ro1_4), (y2_4, .inr (0, [.int (iI 2), .int (iI 13), .int (iI 4), .int (iI 0), .int (iI 13), .int (iI (per 2 13)), .ref w2_4])), (w2_4, iaC cs 31 ro2_4), (pl_4, .inr (2, [.ref xg_4, .int (iI 3), .int (iI 40), .int (iI 1)])), ((ad2 0), .inr (6, [.int (iI 0), .ref (ad2 1), .int (iI 0), .ref (ad2 2), .ref (ad2 3), .ref (ad2 4), .int (iI 0), .ref (ad2 5), .ref (ad2 6), .ref (ad2 7), .ref (ad2 8), .ref (ad2 9), .int (iI 0), .int (iI 0), .int (iI 0), .int (iI 0)])), ((ad2 1), iaC cs 200 (fun _ => 0)), ((ad2 2), iaC cs 24 nw_12), ((ad2 3), iaC cs 24 (fun _ => 0)), ((ad2 4), iaC cs 144 (fun _ => 0)), ((ad2 5), iaC cs 160 (fun _ => 0)), ((ad2 6), iaC cs 160 (fun _ => 0)), ((ad2 7), iaC cs 160 (fun _ => 0)), ((ad2 8), iaC cs 160 (fun _ => 0)), ((ad2 9), iaC cs 160 (fun _ => 0))] : va_W)[i]? = some (q, y) → ¬ M q := fun i q y h1 h2 hi hq => by obtain ⟨k, y2, hk, hk2⟩ := hat q hq; have := hD.1 k i _ _ hk2 hi rfl; omega
  have hplan : PlanAt D cs M H pl_4 v0 := by
    refine ⟨vL_v0, xg_4, _, va_P.of2 (hP 21 _ rfl) (hP 14 _ rfl), hno 21 _ _ (by decide) (by decide) rfl, hno 14 _ _ (by decide) (by decide) rfl, fun q hq => ?_⟩
    have hq : (q : Int) < 3 := hq
    rcases (show q = 0 ∨ q = 1 ∨ q = 2 by omega) with e | e | e <;> subst e
    · exact ⟨_, rfl, ⟨p0_ok, _, _, va_P.of2 (hP 15 _ rfl) (hP 16 _ rfl), hno 15 _ _ (by decide) (by decide) rfl, hno 16 _ _ (by decide) (by decide) rfl, hf4_0⟩⟩
    · exact ⟨_, rfl, ⟨p1_ok, _, _, va_P.of2 (hP 17 _ rfl) (hP 18 _ rfl), hno 17 _ _ (by decide) (by decide) rfl, hno 18 _ _ (by decide) (by decide) rfl, hf4_1⟩⟩
    · exact ⟨_, rfl, ⟨p2_ok, _, _, va_P.of2 (hP 19 _ rfl) (hP 20 _ rfl), hno 19 _ _ (by decide) (by decide) rfl, hno 20 _ _ (by decide) (by decide) rfl, hf4_2⟩⟩
  have hMA : ∀ q, M q → s.heap.size ≤ q := fun q hq => by obtain ⟨k, y, _, hk⟩ := hat q hq; have hz := hD.2 k _ hk; rw [← hAe] at hz; exact hz
  have hMs : ∀ q, M q → q < H.size := fun q hq => by obtain ⟨k, y, _, hk⟩ := hat q hq; exact (hP k _ hk).lt
  have hPZ : PZ s H M := (hPZ0.narrow (B := M) hMA).kept (fun q h1 _ => hS.2.1 q h1 (fun z => by rw [← hAe] at z; have z : s.heap.size ≤ q := z; omega))
  have hXI : XI D cs M pl_4 nw_12 0 (fun _ => none) (fun _ => 0) s H := ⟨⟨hMs, hplan.agr hf12_0, fun i hi => by omega⟩, hPZ, hST⟩
  have hP : va_P D classes (xW cs ad 0 pl_4 0 0 0 0 0 (.null) (fun _ => 0) (fun _ => none) (fun _ => 0) 0 (fun _ => none) 0 0 0 0 0 0 0 0 (fun _ => 0) (fun _ => 0) (fun _ => 0) (fun _ => 0) (fun _ => 0) (fun _ => 0) ++ mW cs ad2 0 0 0 0 0 0 0 (fun _ => 0) nw_12 (fun _ => 0) (fun _ => 0) (fun _ => 0) (fun _ => 0) (fun _ => 0) (fun _ => 0) (fun _ => 0)) H := hP.sub [0, 1, 2, 3, 4, 5, 6, 7, 8, 9, 10, 11, 12, 13, 22, 23, 24, 25, 26, 27, 28, 29, 30, 31] rfl
  have hD : va_D A (xW cs ad 0 pl_4 0 0 0 0 0 (.null) (fun _ => 0) (fun _ => none) (fun _ => 0) 0 (fun _ => none) 0 0 0 0 0 0 0 0 (fun _ => 0) (fun _ => 0) (fun _ => 0) (fun _ => 0) (fun _ => 0) (fun _ => 0) ++ mW cs ad2 0 0 0 0 0 0 0 (fun _ => 0) nw_12 (fun _ => 0) (fun _ => 0) (fun _ => 0) (fun _ => 0) (fun _ => 0) (fun _ => 0) (fun _ => 0)) := hD.sub [0, 1, 2, 3, 4, 5, 6, 7, 8, 9, 10, 11, 12, 13, 22, 23, 24, 25, 26, 27, 28, 29, 30, 31] (by decide) rfl
  have hl : lv_has ls 4 [(3, .int (iI 0)), (2, .ref (ad2 0)), (1, .ref (ad 0)), (0, .ref b)] := hl
  have htx : okTx (fun _ => 0) 0 := fun j hj => by omega
  have hnu : ∀ j : Nat, j < 4 → 0 ≤ (fun _ : Nat => (0 : Int)) j ∧ (fun _ : Nat => (0 : Int)) j ≤ 999 := fun j _ => (show (0 : Int) ≤ 0 ∧ (0 : Int) ≤ 999 by decide)
  have loop18 : ∀ (fuel18 : Nat) (n : Nat) (pl : Nat) (rlen : Int) (rpc : Int) (run_ : Int) (rbo : Int) (rcw : Int) (rt : Value) (gp : Nat → Option Nat) (nu : Nat → Int) (gq : Nat → Option Nat) (swl : Int) (sun : Int) (sbo : Int) (scw : Int) (bo : Int) (cu : Int) (lo : Int) (wh : Int) (dps : Nat → Int) (alk : Nat → Int) (bof : Nat → Int) (us : Nat → Int) (bl : Nat → Int) (lg : Nat → Int) (m_spot : Int) (m_bo : Int) (m_cu : Int) (m_lo : Int) (m_wh : Int) (m_rd : Nat → Int) (m_bl : Nat → Int) (m_us : Nat → Int) (m_lg : Nat → Int) (m_bd : Nat → Int) (m_dp : Nat → Int) (len : Int) (un : Int) (tx : Nat → Int) (now : Nat → Int) (bf : Nat → Int), (4 * n ≤ L) → (okTx tx len) → (0 ≤ len ∧ len ≤ 200) → (0 ≤ un ∧ un ≤ 6) → (∀ j : Nat, j < 4 → 0 ≤ nu j ∧ nu j ≤ 999) → (L + 1 - 4 * n) < fuel18 → ∀ (x3 : Int), x3 = ((4 * n : Nat) : Int) → ∀ (H : Heap) (locs : List Loc), va_P D classes (xW cs ad len pl rlen rpc run_ rbo rcw rt tx gp nu un gq swl sun sbo scw bo cu lo wh dps alk bof us bl lg ++ mW cs ad2 len m_spot un m_bo m_cu m_lo m_wh tx now m_rd bf m_bl m_us m_lg m_bd m_dp) H → va_D A (xW cs ad len pl rlen rpc run_ rbo rcw rt tx gp nu un gq swl sun sbo scw bo cu lo wh dps alk bof us bl lg ++ mW cs ad2 len m_spot un m_bo m_cu m_lo m_wh tx now m_rd bf m_bl m_us m_lg m_bd m_dp) → va_S A s.heap H locs → (XI D cs M pl now un gq bf s H) → ∀ ls : Array Slot, lv_has ls 4 [(0, .ref b), (1, .ref (ad 0)), (2, .ref (ad2 0)), (3, .int (iI x3))] → W p l e room_1 s m #[Value.ref b] below meth c H locs (32 + 236 * n) (2404 + 4454 * n) (lw_Z below #[Value.ref b] s) (F0 m 18 ls []) := by
    intro fuel18
    induction fuel18 with
    | zero => intro n pl rlen rpc run_ rbo rcw rt gp nu gq swl sun sbo scw bo cu lo wh dps alk bof us bl lg m_spot m_bo m_cu m_lo m_wh m_rd m_bl m_us m_lg m_bd m_dp len un tx now bf hn htx hlen hun hnu hfuel18; exact absurd hfuel18 (Nat.not_lt_zero _)
    | succ fuel18 ih18 =>
      intro n pl rlen rpc run_ rbo rcw rt gp nu gq swl sun sbo scw bo cu lo wh dps alk bof us bl lg m_spot m_bo m_cu m_lo m_wh m_rd m_bl m_us m_lg m_bd m_dp len un tx now bf hn htx hlen hun hnu hfuel18 x3 ex3 H locs hP hD hS hXI ls hl
      subst ex3
      refine lv_iload_n hx hb dL_law_18 rfl (lv_at hl 3 rfl) ?_
      refine lv_aload_n hx hb dL_law_19 rfl (lv_at hl 0 rfl) ?_
      refine rv_slen hx hb hX hbl hbA hS dL_law_20 ?_
      refine rv_iconst hx hb dL_law_21 ?_
      refine rv_isub hx hb dL_law_22 ?_
      refine rv_icmp_gt (tgt := 768) hx hb dL_law_23 (by decide) (by omega) (fun h23 => ?_) (fun h23 => ?_)
      · refine rv_iconst hx hb dL_law_768 ?_
        refine W.widen (k := room_1.cells) (n := room_1.slots) (Nat.le_trans (m := 200000) (by omega) lw_rmC) (Nat.le_trans (m := 2500000) (by omega) lw_rmS) ?_
        refine va_forget (fun q hq => by have hz := hS.2.2 q hq; rw [← hAe] at hz; exact hz) ?_
        exact lw_ret hx hb hr hlocks dL_law_769
      · obtain ⟨z0, hz0, ez0⟩ := iI_of (xs (4 * n))
        obtain ⟨z1, hz1, ez1⟩ := iI_of (xs (4 * n + 1))
        obtain ⟨z2, hz2, ez2⟩ := iI_of (xs (4 * n + 2))
        obtain ⟨z3, hz3, ez3⟩ := iI_of (xs (4 * n + 3))
        have hvL := hXI.1.2.1.1
        refine lv_aload_n hx hb dL_law_26 rfl (lv_at hl 0 rfl) ?_
        refine lv_iload_n hx hb dL_law_27 rfl (lv_at hl 3 rfl) ?_
        refine rv_sld hx hb hX hbl hbA hS (4 * n) (by omega) (by omega) ez0 dL_law_28 ?_
        refine rv_bipush hx hb dL_law_29 (by decide) ?_
        refine rv_iand hx hb dL_law_31 ?_
        have hab := andI_bd z0 31
        by_cases hc0 : (andI z0 31) = 0
        · refine rv_top (y := 0) hc0 ?_
          refine lv_tableIn (tgt := 136) hx hb dL_law_32 (by decide) (by decide) rfl (by decide) ?_
          refine lv_aload_n hx hb dL_law_136 rfl (lv_at hl 1 rfl) ?_
          refine lv_aload_n hx hb dL_law_137 rfl (lv_at hl 0 rfl) ?_
          refine lv_iload_n hx hb dL_law_138 rfl (lv_at hl 3 rfl) ?_
          refine rv_iconst hx hb dL_law_139 ?_
          refine rv_iadd hx hb dL_law_140 ?_
          refine rv_sld hx hb hX hbl hbA hS (4 * n + 1) (by omega) (by omega) ez1 dL_law_141 ?_
          have hFc := va_free (wc := (xW cs ad len pl rlen rpc run_ rbo rcw rt tx gp nu un gq swl sun sbo scw bo cu lo wh dps alk bof us bl lg)) hD hS hA [0, 1, 2, 3, 4, 5, 6, 7, 8, 9, 10, 11, 12, 13] rfl
          have hPc := hP.sub (ws' := (xW cs ad len pl rlen rpc run_ rbo rcw rt tx gp nu un gq swl sun sbo scw bo cu lo wh dps alk bof us bl lg)) [0, 1, 2, 3, 4, 5, 6, 7, 8, 9, 10, 11, 12, 13] rfl
          have hDc := hD.sub (ws' := (xW cs ad len pl rlen rpc run_ rbo rcw rt tx gp nu un gq swl sun sbo scw bo cu lo wh dps alk bof us bl lg)) [0, 1, 2, 3, 4, 5, 6, 7, 8, 9, 10, 11, 12, 13] (by decide) rfl
          refine va_calli (va_runV (As := [.int (iI z1)]) (rest := []) ⟨hx, hb, hml, hown, hts⟩ (c_X6_write l D cs ad H.size len pl rlen rpc run_ rbo rcw rt tx gp nu un gq swl sun sbo scw bo cu lo wh dps alk bof us bl lg M now bf z1 hM1 hun hlen (by omega)) (cwV 1 hts (gVl tb_218 tb_219 tb_220 tb_1 tb_221) rfl rfl rfl (by decide +kernel) ⟨Nat.le_of_ble_eq_true rfl, Nat.le_of_ble_eq_true rfl⟩) (preV_M (X := fun U H => XI D cs M pl now un gq bf U H) XI_stb hK (va_recv hK hPc (ci := 5) (q0 := 0) rfl rfl) hPc hDc hXI) rfl rfl hl.1 rfl (lv_room (Nat.le_of_ble_eq_true rfl)) dL_law_142 ⟨by exact Nat.le_trans (m := 200000) (by omega) lw_rmC, by exact Nat.le_trans (m := 2500000) (by omega) lw_rmS⟩) hS (fun q _ h => hFc q h) hFc (fun r9 u9 t9 H9 locs ht9 hvm9 hw9 hB9 hz9 hk9 hS => ?_)
          obtain rfl := hw9
          obtain ⟨hf142_0, hP1, hD1⟩ := hB9
          rw [ht9] at hP1
          obtain ⟨hPj, hDj⟩ := va_join (wr := [_, _, _, _, _, _, _, _, _, _]) hP hD [0, 1, 2, 3, 4, 5, 6, 7, 8, 9, 10, 11, 12, 13] [14, 15, 16, 17, 18, 19, 20, 21, 22, 23] rfl rfl (by decide) (by decide) hk9 hFc hP1 hD1
          have hXI2 := XI.call hXI (fun q z => hM1 q (Mw_xW q z)) hz9 hk9
          generalize H9 = H at *
          have hP : va_P D classes (xW cs ad (nLen len z1) pl rlen rpc run_ rbo rcw rt (nTx len z1 tx) gp nu un gq swl sun sbo scw bo cu lo wh dps alk bof us bl lg ++ mW cs ad2 len m_spot un m_bo m_cu m_lo m_wh tx now m_rd bf m_bl m_us m_lg m_bd m_dp) H := hPj.sub [10, 11, 12, 13, 14, 15, 16, 17, 18, 19, 20, 21, 22, 23, 0, 1, 2, 3, 4, 5, 6, 7, 8, 9] rfl
          have hD : va_D A (xW cs ad (nLen len z1) pl rlen rpc run_ rbo rcw rt (nTx len z1 tx) gp nu un gq swl sun sbo scw bo cu lo wh dps alk bof us bl lg ++ mW cs ad2 len m_spot un m_bo m_cu m_lo m_wh tx now m_rd bf m_bl m_us m_lg m_bd m_dp) := hDj.sub [10, 11, 12, 13, 14, 15, 16, 17, 18, 19, 20, 21, 22, 23, 0, 1, 2, 3, 4, 5, 6, 7, 8, 9] (by decide) rfl
          have hXI := hXI2
          subst hf142_0
          refine lv_aload_n hx hb dL_law_145 rfl (lv_at hl 2 rfl) ?_
          refine lv_aload_n hx hb dL_law_146 rfl (lv_at hl 0 rfl) ?_
          refine lv_iload_n hx hb dL_law_147 rfl (lv_at hl 3 rfl) ?_
          refine rv_iconst hx hb dL_law_148 ?_
          refine rv_iadd hx hb dL_law_149 ?_
          refine rv_sld hx hb hX hbl hbA hS (4 * n + 1) (by omega) (by omega) ez1 dL_law_150 ?_
          have hFc := va_free (wc := (mW cs ad2 len m_spot un m_bo m_cu m_lo m_wh tx now m_rd bf m_bl m_us m_lg m_bd m_dp)) hD hS hA [14, 15, 16, 17, 18, 19, 20, 21, 22, 23] rfl
          have hPc := hP.sub (ws' := (mW cs ad2 len m_spot un m_bo m_cu m_lo m_wh tx now m_rd bf m_bl m_us m_lg m_bd m_dp)) [14, 15, 16, 17, 18, 19, 20, 21, 22, 23] rfl
          have hDc := hD.sub (ws' := (mW cs ad2 len m_spot un m_bo m_cu m_lo m_wh tx now m_rd bf m_bl m_us m_lg m_bd m_dp)) [14, 15, 16, 17, 18, 19, 20, 21, 22, 23] (by decide) rfl
          refine va_calli (va_runV (As := [.int (iI z1)]) (rest := [.int (iI (aWrite len z1))]) ⟨hx, hb, hml, hown, hts⟩ (c_X7_write l D cs ad2 H.size len m_spot un m_bo m_cu m_lo m_wh tx now m_rd bf m_bl m_us m_lg m_bd m_dp z1 (by omega) hlen) (cwV 1 hts (gVl tb_667 tb_668 tb_669 tb_8 tb_670) rfl rfl rfl (by decide +kernel) ⟨Nat.le_of_ble_eq_true rfl, Nat.le_of_ble_eq_true rfl⟩) (preV_M (X := fun _ _ => True) Stb_T hK (va_recv hK hPc (ci := 6) (q0 := 0) rfl rfl) hPc hDc trivial) rfl rfl hl.1 rfl (lv_room (Nat.le_of_ble_eq_true rfl)) dL_law_151 ⟨by exact Nat.le_trans (m := 200000) (by omega) lw_rmC, by exact Nat.le_trans (m := 2500000) (by omega) lw_rmS⟩) hS (fun q _ h => hFc q h) hFc (fun r9 u9 t9 H9 locs ht9 hvm9 hw9 hB9 hz9 hk9 hS => ?_)
          obtain rfl := hw9
          obtain ⟨hf151_0, hP1, hD1⟩ := hB9
          rw [ht9] at hP1
          obtain ⟨hPj, hDj⟩ := va_join (wr := [_, _, _, _, _, _, _, _, _, _, _, _, _, _]) hP hD [14, 15, 16, 17, 18, 19, 20, 21, 22, 23] [0, 1, 2, 3, 4, 5, 6, 7, 8, 9, 10, 11, 12, 13] rfl rfl (by decide) (by decide) hk9 hFc hP1 hD1
          have hXI2 := XI.call hXI (fun q z => hM2 q (Mw_mW q z)) hz9 hk9
          generalize H9 = H at *
          have hP : va_P D classes (xW cs ad (nLen len z1) pl rlen rpc run_ rbo rcw rt (nTx len z1 tx) gp nu un gq swl sun sbo scw bo cu lo wh dps alk bof us bl lg ++ mW cs ad2 (nLen len z1) m_spot un m_bo m_cu m_lo m_wh (nTx len z1 tx) now m_rd bf m_bl m_us m_lg m_bd m_dp) H := hPj.sub [0, 1, 2, 3, 4, 5, 6, 7, 8, 9, 10, 11, 12, 13, 14, 15, 16, 17, 18, 19, 20, 21, 22, 23] rfl
          have hD : va_D A (xW cs ad (nLen len z1) pl rlen rpc run_ rbo rcw rt (nTx len z1 tx) gp nu un gq swl sun sbo scw bo cu lo wh dps alk bof us bl lg ++ mW cs ad2 (nLen len z1) m_spot un m_bo m_cu m_lo m_wh (nTx len z1 tx) now m_rd bf m_bl m_us m_lg m_bd m_dp) := hDj.sub [0, 1, 2, 3, 4, 5, 6, 7, 8, 9, 10, 11, 12, 13, 14, 15, 16, 17, 18, 19, 20, 21, 22, 23] (by decide) rfl
          have hXI := hXI2
          have htw := okTx_w (x := z1) htx hlen
          have htx := htw.1
          have hlen := htw.2
          subst hf151_0
          refine lv_icmp_eq (tgt := 762) hx hb dL_law_154 (by decide) (fun _ => ?_) (fun h => absurd rfl h)
          refine rv_iinc (k := 3) (lv' := [(3, .int (iI (((4 * n : Nat) : Int) + 4))), (0, .ref b), (1, .ref (ad 0)), (2, .ref (ad2 0))]) hx hb dL_law_762 hl rfl (by decide) rfl (fun ls hl => ?_)
          refine lv_goto (tgt := 18) hx hb dL_law_765 (by decide) ?_
          refine W.widen (k := 32 + 236 * (n + 1)) (n := 2404 + 4454 * (n + 1)) (by omega) (by omega) ?_
          exact ih18 (n + 1) pl rlen rpc run_ rbo rcw rt gp nu gq swl sun sbo scw bo cu lo wh dps alk bof us bl lg m_spot m_bo m_cu m_lo m_wh m_rd m_bl m_us m_lg m_bd m_dp (nLen len z1) un (nTx len z1 tx) now bf (by omega) htx hlen hun hnu (by omega) _ (by omega) H locs hP hD hS hXI ls (lv_sub hl [1, 2, 3, 0] rfl)
        by_cases hc1 : (andI z0 31) = 1
        · refine rv_top (y := 1) hc1 ?_
          refine lv_tableIn (tgt := 159) hx hb dL_law_32 (by decide) (by decide) rfl (by decide) ?_
          refine lv_aload_n hx hb dL_law_159 rfl (lv_at hl 1 rfl) ?_
          have hFc := va_free (wc := (xW cs ad len pl rlen rpc run_ rbo rcw rt tx gp nu un gq swl sun sbo scw bo cu lo wh dps alk bof us bl lg)) hD hS hA [0, 1, 2, 3, 4, 5, 6, 7, 8, 9, 10, 11, 12, 13] rfl
          have hPc := hP.sub (ws' := (xW cs ad len pl rlen rpc run_ rbo rcw rt tx gp nu un gq swl sun sbo scw bo cu lo wh dps alk bof us bl lg)) [0, 1, 2, 3, 4, 5, 6, 7, 8, 9, 10, 11, 12, 13] rfl
          have hDc := hD.sub (ws' := (xW cs ad len pl rlen rpc run_ rbo rcw rt tx gp nu un gq swl sun sbo scw bo cu lo wh dps alk bof us bl lg)) [0, 1, 2, 3, 4, 5, 6, 7, 8, 9, 10, 11, 12, 13] (by decide) rfl
          refine va_calli (va_runV (As := []) (rest := []) ⟨hx, hb, hml, hown, hts⟩ (c_X6_wipe l D cs ad H.size len pl rlen rpc run_ rbo rcw rt tx gp nu un gq swl sun sbo scw bo cu lo wh dps alk bof us bl lg M now bf hM1 hun hlen) (cwV 0 hts (gVl tb_222 tb_223 tb_224 tb_1 tb_225) rfl rfl rfl (by decide +kernel) ⟨Nat.le_of_ble_eq_true rfl, Nat.le_of_ble_eq_true rfl⟩) (preV_M (X := fun U H => XI D cs M pl now un gq bf U H) XI_stb hK (va_recv hK hPc (ci := 5) (q0 := 0) rfl rfl) hPc hDc hXI) rfl rfl hl.1 rfl (lv_room (Nat.le_of_ble_eq_true rfl)) dL_law_160 ⟨by exact Nat.le_trans (m := 200000) (by omega) lw_rmC, by exact Nat.le_trans (m := 2500000) (by omega) lw_rmS⟩) hS (fun q _ h => hFc q h) hFc (fun r9 u9 t9 H9 locs ht9 hvm9 hw9 hB9 hz9 hk9 hS => ?_)
          obtain rfl := hw9
          obtain ⟨hf160_0, hP1, hD1⟩ := hB9
          rw [ht9] at hP1
          obtain ⟨hPj, hDj⟩ := va_join (wr := [_, _, _, _, _, _, _, _, _, _]) hP hD [0, 1, 2, 3, 4, 5, 6, 7, 8, 9, 10, 11, 12, 13] [14, 15, 16, 17, 18, 19, 20, 21, 22, 23] rfl rfl (by decide) (by decide) hk9 hFc hP1 hD1
          have hXI2 := XI.call hXI (fun q z => hM1 q (Mw_xW q z)) hz9 hk9
          generalize H9 = H at *
          have hP : va_P D classes (xW cs ad 0 pl rlen rpc run_ rbo rcw rt tx gp nu un gq swl sun sbo scw bo cu lo wh dps alk bof us bl lg ++ mW cs ad2 len m_spot un m_bo m_cu m_lo m_wh tx now m_rd bf m_bl m_us m_lg m_bd m_dp) H := hPj.sub [10, 11, 12, 13, 14, 15, 16, 17, 18, 19, 20, 21, 22, 23, 0, 1, 2, 3, 4, 5, 6, 7, 8, 9] rfl
          have hD : va_D A (xW cs ad 0 pl rlen rpc run_ rbo rcw rt tx gp nu un gq swl sun sbo scw bo cu lo wh dps alk bof us bl lg ++ mW cs ad2 len m_spot un m_bo m_cu m_lo m_wh tx now m_rd bf m_bl m_us m_lg m_bd m_dp) := hDj.sub [10, 11, 12, 13, 14, 15, 16, 17, 18, 19, 20, 21, 22, 23, 0, 1, 2, 3, 4, 5, 6, 7, 8, 9] (by decide) rfl
          have hXI := hXI2
          subst hf160_0
          refine lv_aload_n hx hb dL_law_163 rfl (lv_at hl 2 rfl) ?_
          have hFc := va_free (wc := (mW cs ad2 len m_spot un m_bo m_cu m_lo m_wh tx now m_rd bf m_bl m_us m_lg m_bd m_dp)) hD hS hA [14, 15, 16, 17, 18, 19, 20, 21, 22, 23] rfl
          have hPc := hP.sub (ws' := (mW cs ad2 len m_spot un m_bo m_cu m_lo m_wh tx now m_rd bf m_bl m_us m_lg m_bd m_dp)) [14, 15, 16, 17, 18, 19, 20, 21, 22, 23] rfl
          have hDc := hD.sub (ws' := (mW cs ad2 len m_spot un m_bo m_cu m_lo m_wh tx now m_rd bf m_bl m_us m_lg m_bd m_dp)) [14, 15, 16, 17, 18, 19, 20, 21, 22, 23] (by decide) rfl
          refine va_calli (va_runV (As := []) (rest := [.int (iI len)]) ⟨hx, hb, hml, hown, hts⟩ (c_X7_wipe l D cs ad2 H.size len m_spot un m_bo m_cu m_lo m_wh tx now m_rd bf m_bl m_us m_lg m_bd m_dp) (cwV 0 hts (gVl tb_673 tb_674 tb_675 tb_8 tb_676) rfl rfl rfl (by decide +kernel) ⟨Nat.le_of_ble_eq_true rfl, Nat.le_of_ble_eq_true rfl⟩) (preV_M (X := fun _ _ => True) Stb_T hK (va_recv hK hPc (ci := 6) (q0 := 0) rfl rfl) hPc hDc trivial) rfl rfl hl.1 rfl (lv_room (Nat.le_of_ble_eq_true rfl)) dL_law_164 ⟨by exact Nat.le_trans (m := 200000) (by omega) lw_rmC, by exact Nat.le_trans (m := 2500000) (by omega) lw_rmS⟩) hS (fun q _ h => hFc q h) hFc (fun r9 u9 t9 H9 locs ht9 hvm9 hw9 hB9 hz9 hk9 hS => ?_)
          obtain rfl := hw9
          obtain ⟨hf164_0, hP1, hD1⟩ := hB9
          rw [ht9] at hP1
          obtain ⟨hPj, hDj⟩ := va_join (wr := [_, _, _, _, _, _, _, _, _, _, _, _, _, _]) hP hD [14, 15, 16, 17, 18, 19, 20, 21, 22, 23] [0, 1, 2, 3, 4, 5, 6, 7, 8, 9, 10, 11, 12, 13] rfl rfl (by decide) (by decide) hk9 hFc hP1 hD1
          have hXI2 := XI.call hXI (fun q z => hM2 q (Mw_mW q z)) hz9 hk9
          generalize H9 = H at *
          have hP : va_P D classes (xW cs ad 0 pl rlen rpc run_ rbo rcw rt tx gp nu un gq swl sun sbo scw bo cu lo wh dps alk bof us bl lg ++ mW cs ad2 0 m_spot un m_bo m_cu m_lo m_wh tx now m_rd bf m_bl m_us m_lg m_bd m_dp) H := hPj.sub [0, 1, 2, 3, 4, 5, 6, 7, 8, 9, 10, 11, 12, 13, 14, 15, 16, 17, 18, 19, 20, 21, 22, 23] rfl
          have hD : va_D A (xW cs ad 0 pl rlen rpc run_ rbo rcw rt tx gp nu un gq swl sun sbo scw bo cu lo wh dps alk bof us bl lg ++ mW cs ad2 0 m_spot un m_bo m_cu m_lo m_wh tx now m_rd bf m_bl m_us m_lg m_bd m_dp) := hDj.sub [0, 1, 2, 3, 4, 5, 6, 7, 8, 9, 10, 11, 12, 13, 14, 15, 16, 17, 18, 19, 20, 21, 22, 23] (by decide) rfl
          have hXI := hXI2
          have htx : okTx tx 0 := fun j hj => by omega
          have hlen : (0 : Int) ≤ 0 ∧ (0 : Int) ≤ 200 := by decide
          subst hf164_0
          refine lv_icmp_eq (tgt := 762) hx hb dL_law_167 (by decide) (fun _ => ?_) (fun h => absurd rfl h)
          refine rv_iinc (k := 3) (lv' := [(3, .int (iI (((4 * n : Nat) : Int) + 4))), (0, .ref b), (1, .ref (ad 0)), (2, .ref (ad2 0))]) hx hb dL_law_762 hl rfl (by decide) rfl (fun ls hl => ?_)
          refine lv_goto (tgt := 18) hx hb dL_law_765 (by decide) ?_
          refine W.widen (k := 32 + 236 * (n + 1)) (n := 2404 + 4454 * (n + 1)) (by omega) (by omega) ?_
          exact ih18 (n + 1) pl rlen rpc run_ rbo rcw rt gp nu gq swl sun sbo scw bo cu lo wh dps alk bof us bl lg m_spot m_bo m_cu m_lo m_wh m_rd m_bl m_us m_lg m_bd m_dp 0 un tx now bf (by omega) htx hlen hun hnu (by omega) _ (by omega) H locs hP hD hS hXI ls (lv_sub hl [1, 2, 3, 0] rfl)
        by_cases hc2 : (andI z0 31) = 2
        · refine rv_top (y := 2) hc2 ?_
          refine lv_tableIn (tgt := 172) hx hb dL_law_32 (by decide) (by decide) rfl (by decide) ?_
          refine lv_aload_n hx hb dL_law_172 rfl (lv_at hl 1 rfl) ?_
          have hFc := va_free (wc := (xW cs ad len pl rlen rpc run_ rbo rcw rt tx gp nu un gq swl sun sbo scw bo cu lo wh dps alk bof us bl lg)) hD hS hA [0, 1, 2, 3, 4, 5, 6, 7, 8, 9, 10, 11, 12, 13] rfl
          have hPc := hP.sub (ws' := (xW cs ad len pl rlen rpc run_ rbo rcw rt tx gp nu un gq swl sun sbo scw bo cu lo wh dps alk bof us bl lg)) [0, 1, 2, 3, 4, 5, 6, 7, 8, 9, 10, 11, 12, 13] rfl
          have hDc := hD.sub (ws' := (xW cs ad len pl rlen rpc run_ rbo rcw rt tx gp nu un gq swl sun sbo scw bo cu lo wh dps alk bof us bl lg)) [0, 1, 2, 3, 4, 5, 6, 7, 8, 9, 10, 11, 12, 13] (by decide) rfl
          refine va_calli (va_runV (As := []) (rest := []) ⟨hx, hb, hml, hown, hts⟩ (c_X6_fault l D cs ad H.size len pl rlen rpc run_ rbo rcw rt tx gp nu un gq swl sun sbo scw bo cu lo wh dps alk bof us bl lg M now bf hM1 hun hlen hnu htx) (cwV 0 hts (gVl tb_226 tb_227 tb_228 tb_1 tb_229) rfl rfl rfl (by decide +kernel) ⟨Nat.le_of_ble_eq_true rfl, Nat.le_of_ble_eq_true rfl⟩) (preV_M (X := fun U H => XI D cs M pl now un gq bf U H) XI_stb hK (va_recv hK hPc (ci := 5) (q0 := 0) rfl rfl) hPc hDc hXI) rfl rfl hl.1 rfl (lv_room (Nat.le_of_ble_eq_true rfl)) dL_law_173 ⟨by exact Nat.le_trans (m := 200000) (by omega) lw_rmC, by exact Nat.le_trans (m := 2500000) (by omega) lw_rmS⟩) hS (fun q _ h => hFc q h) hFc (fun r9 u9 t9 H9 locs ht9 hvm9 hw9 hB9 hz9 hk9 hS => ?_)
          obtain rfl := hw9
          obtain ⟨rlen2_173, rpc2_173, run2_173, rbo2_173, rcw2_173, rt2_173, gp2_173, nu2_173, hf173_0, hf173_1, hP1, hD1⟩ := hB9
          rw [ht9] at hP1
          obtain ⟨hPj, hDj⟩ := va_join (wr := [_, _, _, _, _, _, _, _, _, _]) hP hD [0, 1, 2, 3, 4, 5, 6, 7, 8, 9, 10, 11, 12, 13] [14, 15, 16, 17, 18, 19, 20, 21, 22, 23] rfl rfl (by decide) (by decide) hk9 hFc hP1 hD1
          have hXI2 := XI.call hXI (fun q z => hM1 q (Mw_xW q z)) hz9 hk9
          generalize H9 = H at *
          have hP : va_P D classes (xW cs ad len pl rlen2_173 rpc2_173 run2_173 rbo2_173 rcw2_173 rt2_173 tx gp2_173 nu2_173 un gq swl sun sbo scw bo cu lo wh dps alk bof us bl lg ++ mW cs ad2 len m_spot un m_bo m_cu m_lo m_wh tx now m_rd bf m_bl m_us m_lg m_bd m_dp) H := hPj.sub [10, 11, 12, 13, 14, 15, 16, 17, 18, 19, 20, 21, 22, 23, 0, 1, 2, 3, 4, 5, 6, 7, 8, 9] rfl
          have hD : va_D A (xW cs ad len pl rlen2_173 rpc2_173 run2_173 rbo2_173 rcw2_173 rt2_173 tx gp2_173 nu2_173 un gq swl sun sbo scw bo cu lo wh dps alk bof us bl lg ++ mW cs ad2 len m_spot un m_bo m_cu m_lo m_wh tx now m_rd bf m_bl m_us m_lg m_bd m_dp) := hDj.sub [10, 11, 12, 13, 14, 15, 16, 17, 18, 19, 20, 21, 22, 23, 0, 1, 2, 3, 4, 5, 6, 7, 8, 9] (by decide) rfl
          have hXI := hXI2
          have hnu := hf173_1
          subst hf173_0
          refine lv_aload_n hx hb dL_law_176 rfl (lv_at hl 2 rfl) ?_
          have hFc := va_free (wc := (mW cs ad2 len m_spot un m_bo m_cu m_lo m_wh tx now m_rd bf m_bl m_us m_lg m_bd m_dp)) hD hS hA [14, 15, 16, 17, 18, 19, 20, 21, 22, 23] rfl
          have hPc := hP.sub (ws' := (mW cs ad2 len m_spot un m_bo m_cu m_lo m_wh tx now m_rd bf m_bl m_us m_lg m_bd m_dp)) [14, 15, 16, 17, 18, 19, 20, 21, 22, 23] rfl
          have hDc := hD.sub (ws' := (mW cs ad2 len m_spot un m_bo m_cu m_lo m_wh tx now m_rd bf m_bl m_us m_lg m_bd m_dp)) [14, 15, 16, 17, 18, 19, 20, 21, 22, 23] (by decide) rfl
          refine va_calli (va_runV (As := []) (rest := [.int (iI (flt tx len 201 0 0))]) ⟨hx, hb, hml, hown, hts⟩ (c_X7_fault l D cs ad2 H.size len m_spot un m_bo m_cu m_lo m_wh tx now m_rd bf m_bl m_us m_lg m_bd m_dp hlen htx) (cwV 0 hts (gVl tb_677 tb_678 tb_679 tb_8 tb_680) rfl rfl rfl (by decide +kernel) ⟨Nat.le_of_ble_eq_true rfl, Nat.le_of_ble_eq_true rfl⟩) (preV_M (X := fun _ _ => True) Stb_T hK (va_recv hK hPc (ci := 6) (q0 := 0) rfl rfl) hPc hDc trivial) rfl rfl hl.1 rfl (lv_room (Nat.le_of_ble_eq_true rfl)) dL_law_177 ⟨by exact Nat.le_trans (m := 200000) (by omega) lw_rmC, by exact Nat.le_trans (m := 2500000) (by omega) lw_rmS⟩) hS (fun q _ h => hFc q h) hFc (fun r9 u9 t9 H9 locs ht9 hvm9 hw9 hB9 hz9 hk9 hS => ?_)
          obtain rfl := hw9
          obtain ⟨rd2_177, spot2_177, hf177_0, hf177_1, hf177_2, hP1, hD1⟩ := hB9
          rw [ht9] at hP1
          obtain ⟨hPj, hDj⟩ := va_join (wr := [_, _, _, _, _, _, _, _, _, _, _, _, _, _]) hP hD [14, 15, 16, 17, 18, 19, 20, 21, 22, 23] [0, 1, 2, 3, 4, 5, 6, 7, 8, 9, 10, 11, 12, 13] rfl rfl (by decide) (by decide) hk9 hFc hP1 hD1
          have hXI2 := XI.call hXI (fun q z => hM2 q (Mw_mW q z)) hz9 hk9
          generalize H9 = H at *
          have hP : va_P D classes (xW cs ad len pl rlen2_173 rpc2_173 run2_173 rbo2_173 rcw2_173 rt2_173 tx gp2_173 nu2_173 un gq swl sun sbo scw bo cu lo wh dps alk bof us bl lg ++ mW cs ad2 len spot2_177 un m_bo m_cu m_lo m_wh tx now rd2_177 bf m_bl m_us m_lg m_bd m_dp) H := hPj.sub [0, 1, 2, 3, 4, 5, 6, 7, 8, 9, 10, 11, 12, 13, 14, 15, 16, 17, 18, 19, 20, 21, 22, 23] rfl
          have hD : va_D A (xW cs ad len pl rlen2_173 rpc2_173 run2_173 rbo2_173 rcw2_173 rt2_173 tx gp2_173 nu2_173 un gq swl sun sbo scw bo cu lo wh dps alk bof us bl lg ++ mW cs ad2 len spot2_177 un m_bo m_cu m_lo m_wh tx now rd2_177 bf m_bl m_us m_lg m_bd m_dp) := hDj.sub [0, 1, 2, 3, 4, 5, 6, 7, 8, 9, 10, 11, 12, 13, 14, 15, 16, 17, 18, 19, 20, 21, 22, 23] (by decide) rfl
          have hXI := hXI2
          subst hf177_0
          refine lv_icmp_eq (tgt := 762) hx hb dL_law_180 (by decide) (fun _ => ?_) (fun h => absurd rfl h)
          refine rv_iinc (k := 3) (lv' := [(3, .int (iI (((4 * n : Nat) : Int) + 4))), (0, .ref b), (1, .ref (ad 0)), (2, .ref (ad2 0))]) hx hb dL_law_762 hl rfl (by decide) rfl (fun ls hl => ?_)
          refine lv_goto (tgt := 18) hx hb dL_law_765 (by decide) ?_
          refine W.widen (k := 32 + 236 * (n + 1)) (n := 2404 + 4454 * (n + 1)) (by omega) (by omega) ?_
          exact ih18 (n + 1) pl rlen2_173 rpc2_173 run2_173 rbo2_173 rcw2_173 rt2_173 gp2_173 nu2_173 gq swl sun sbo scw bo cu lo wh dps alk bof us bl lg spot2_177 m_bo m_cu m_lo m_wh rd2_177 m_bl m_us m_lg m_bd m_dp len un tx now bf (by omega) htx hlen hun hnu (by omega) _ (by omega) H locs hP hD hS hXI ls (lv_sub hl [1, 2, 3, 0] rfl)
        by_cases hc3 : (andI z0 31) = 3
        · refine rv_top (y := 3) hc3 ?_
          refine lv_tableIn (tgt := 185) hx hb dL_law_32 (by decide) (by decide) rfl (by decide) ?_
          refine lv_aload_n hx hb dL_law_185 rfl (lv_at hl 1 rfl) ?_
          have hFc := va_free (wc := (xW cs ad len pl rlen rpc run_ rbo rcw rt tx gp nu un gq swl sun sbo scw bo cu lo wh dps alk bof us bl lg)) hD hS hA [0, 1, 2, 3, 4, 5, 6, 7, 8, 9, 10, 11, 12, 13] rfl
          have hPc := hP.sub (ws' := (xW cs ad len pl rlen rpc run_ rbo rcw rt tx gp nu un gq swl sun sbo scw bo cu lo wh dps alk bof us bl lg)) [0, 1, 2, 3, 4, 5, 6, 7, 8, 9, 10, 11, 12, 13] rfl
          have hDc := hD.sub (ws' := (xW cs ad len pl rlen rpc run_ rbo rcw rt tx gp nu un gq swl sun sbo scw bo cu lo wh dps alk bof us bl lg)) [0, 1, 2, 3, 4, 5, 6, 7, 8, 9, 10, 11, 12, 13] (by decide) rfl
          refine va_calli (va_runV (As := []) (rest := []) ⟨hx, hb, hml, hown, hts⟩ (c_X6_lay l D cs ad H.size len pl rlen rpc run_ rbo rcw rt tx gp nu un gq swl sun sbo scw bo cu lo wh dps alk bof us bl lg M now bf hM1 hun hlen hnu htx) (cwV 0 hts (gVl tb_290 tb_291 tb_292 tb_1 tb_293) rfl rfl rfl (by decide +kernel) ⟨Nat.le_of_ble_eq_true rfl, Nat.le_of_ble_eq_true rfl⟩) (preV_M (X := fun U H => XI D cs M pl now un gq bf U H) XI_stb hK (va_recv hK hPc (ci := 5) (q0 := 0) rfl rfl) hPc hDc hXI) rfl rfl hl.1 rfl (lv_room (Nat.le_of_ble_eq_true rfl)) dL_law_186 ⟨by exact Nat.le_trans (m := 200000) (by omega) lw_rmC, by exact Nat.le_trans (m := 2500000) (by omega) lw_rmS⟩) hS (fun q _ h => hFc q h) hFc (fun r9 u9 t9 H9 locs ht9 hvm9 hw9 hB9 hz9 hk9 hS => ?_)
          obtain rfl := hw9
          obtain ⟨rlen2_186, rpc2_186, run2_186, rbo2_186, rcw2_186, rt2_186, gp2_186, nu2_186, pl2_186, kept2_186, gq2_186, hf186_0, hf186_1, hf186_2, hP1, hD1⟩ := hB9
          rw [ht9] at hP1
          rw [ht9] at hf186_2
          obtain ⟨hPj, hDj⟩ := va_join (wr := [_, _, _, _, _, _, _, _, _, _]) hP hD [0, 1, 2, 3, 4, 5, 6, 7, 8, 9, 10, 11, 12, 13] [14, 15, 16, 17, 18, 19, 20, 21, 22, 23] rfl rfl (by decide) (by decide) hk9 hFc hP1 hD1
          have hXI2 := XI.call hXI (fun q z => hM1 q (Mw_xW q z)) hz9 hk9
          generalize H9 = H at *
          have hP : va_P D classes (xW cs ad len pl2_186 rlen2_186 rpc2_186 run2_186 rbo2_186 rcw2_186 rt2_186 tx gp2_186 nu2_186 kept2_186 gq2_186 swl sun sbo scw bo cu lo wh dps alk bof us bl lg ++ mW cs ad2 len m_spot un m_bo m_cu m_lo m_wh tx now m_rd bf m_bl m_us m_lg m_bd m_dp) H := hPj.sub [10, 11, 12, 13, 14, 15, 16, 17, 18, 19, 20, 21, 22, 23, 0, 1, 2, 3, 4, 5, 6, 7, 8, 9] rfl
          have hD : va_D A (xW cs ad len pl2_186 rlen2_186 rpc2_186 run2_186 rbo2_186 rcw2_186 rt2_186 tx gp2_186 nu2_186 kept2_186 gq2_186 swl sun sbo scw bo cu lo wh dps alk bof us bl lg ++ mW cs ad2 len m_spot un m_bo m_cu m_lo m_wh tx now m_rd bf m_bl m_us m_lg m_bd m_dp) := hDj.sub [10, 11, 12, 13, 14, 15, 16, 17, 18, 19, 20, 21, 22, 23, 0, 1, 2, 3, 4, 5, 6, 7, 8, 9] (by decide) rfl
          have hXI := hXI2
          have hnu := hf186_1
          subst hf186_0
          refine lv_aload_n hx hb dL_law_189 rfl (lv_at hl 2 rfl) ?_
          have hFc := va_free (wc := (mW cs ad2 len m_spot un m_bo m_cu m_lo m_wh tx now m_rd bf m_bl m_us m_lg m_bd m_dp)) hD hS hA [14, 15, 16, 17, 18, 19, 20, 21, 22, 23] rfl
          have hPc := hP.sub (ws' := (mW cs ad2 len m_spot un m_bo m_cu m_lo m_wh tx now m_rd bf m_bl m_us m_lg m_bd m_dp)) [14, 15, 16, 17, 18, 19, 20, 21, 22, 23] rfl
          have hDc := hD.sub (ws' := (mW cs ad2 len m_spot un m_bo m_cu m_lo m_wh tx now m_rd bf m_bl m_us m_lg m_bd m_dp)) [14, 15, 16, 17, 18, 19, 20, 21, 22, 23] (by decide) rfl
          refine va_calli (va_runV (As := []) (rest := [.int (iI (cif (flt tx len 201 0 0 = -4) (lst tx len 201 0 rd0 20) (-2)))]) ⟨hx, hb, hml, hown, hts⟩ (c_X7_lay l D cs ad2 H.size len m_spot un m_bo m_cu m_lo m_wh tx now m_rd bf m_bl m_us m_lg m_bd m_dp hlen htx) (cwV 0 hts (gVl tb_703 tb_704 tb_705 tb_8 tb_706) rfl rfl rfl (by decide +kernel) ⟨Nat.le_of_ble_eq_true rfl, Nat.le_of_ble_eq_true rfl⟩) (preV_M (X := fun _ _ => True) Stb_T hK (va_recv hK hPc (ci := 6) (q0 := 0) rfl rfl) hPc hDc trivial) rfl rfl hl.1 rfl (lv_room (Nat.le_of_ble_eq_true rfl)) dL_law_190 ⟨by exact Nat.le_trans (m := 200000) (by omega) lw_rmC, by exact Nat.le_trans (m := 2500000) (by omega) lw_rmS⟩) hS (fun q _ h => hFc q h) hFc (fun r9 u9 t9 H9 locs ht9 hvm9 hw9 hB9 hz9 hk9 hS => ?_)
          obtain rfl := hw9
          obtain ⟨rd2_190, spot2_190, now2_190, un2_190, hf190_0, hf190_1, hP1, hD1⟩ := hB9
          rw [ht9] at hP1
          obtain ⟨hPj, hDj⟩ := va_join (wr := [_, _, _, _, _, _, _, _, _, _, _, _, _, _]) hP hD [14, 15, 16, 17, 18, 19, 20, 21, 22, 23] [0, 1, 2, 3, 4, 5, 6, 7, 8, 9, 10, 11, 12, 13] rfl rfl (by decide) (by decide) hk9 hFc hP1 hD1
          have hXI2 := XI.call hXI (fun q z => hM2 q (Mw_mW q z)) hz9 hk9
          have hXK := XK.call (hf186_2 now2_190 un2_190 hf190_1) (fun q z => hM2 q (Mw_mW q z)) hk9
          generalize H9 = H at *
          have hP : va_P D classes (xW cs ad len pl2_186 rlen2_186 rpc2_186 run2_186 rbo2_186 rcw2_186 rt2_186 tx gp2_186 nu2_186 kept2_186 gq2_186 swl sun sbo scw bo cu lo wh dps alk bof us bl lg ++ mW cs ad2 len spot2_190 un2_190 m_bo m_cu m_lo m_wh tx now2_190 rd2_190 bf m_bl m_us m_lg m_bd m_dp) H := hPj.sub [0, 1, 2, 3, 4, 5, 6, 7, 8, 9, 10, 11, 12, 13, 14, 15, 16, 17, 18, 19, 20, 21, 22, 23] rfl
          have hD : va_D A (xW cs ad len pl2_186 rlen2_186 rpc2_186 run2_186 rbo2_186 rcw2_186 rt2_186 tx gp2_186 nu2_186 kept2_186 gq2_186 swl sun sbo scw bo cu lo wh dps alk bof us bl lg ++ mW cs ad2 len spot2_190 un2_190 m_bo m_cu m_lo m_wh tx now2_190 rd2_190 bf m_bl m_us m_lg m_bd m_dp) := hDj.sub [0, 1, 2, 3, 4, 5, 6, 7, 8, 9, 10, 11, 12, 13, 14, 15, 16, 17, 18, 19, 20, 21, 22, 23] (by decide) rfl
          obtain ⟨hpl, hke, hpa⟩ := hXK
          have hke2 := hke.symm
          subst hke2
          have hun : 0 ≤ un2_190 ∧ un2_190 ≤ 6 := by by_cases zz : flt tx len 201 0 0 = -4; (have hzz := (hf190_1.1 zz).2; omega); (have hzz := (hf190_1.2 zz).2; omega)
          have hXI : XI D cs M pl2_186 now2_190 un2_190 gq2_186 bf s H := ⟨⟨hXI2.1.1, hpl, hpa⟩, hXI2.2⟩
          subst hf190_0
          refine lv_icmp_eq (tgt := 762) hx hb dL_law_193 (by decide) (fun _ => ?_) (fun h => absurd rfl h)
          refine rv_iinc (k := 3) (lv' := [(3, .int (iI (((4 * n : Nat) : Int) + 4))), (0, .ref b), (1, .ref (ad 0)), (2, .ref (ad2 0))]) hx hb dL_law_762 hl rfl (by decide) rfl (fun ls hl => ?_)
          refine lv_goto (tgt := 18) hx hb dL_law_765 (by decide) ?_
          refine W.widen (k := 32 + 236 * (n + 1)) (n := 2404 + 4454 * (n + 1)) (by omega) (by omega) ?_
          exact ih18 (n + 1) pl2_186 rlen2_186 rpc2_186 run2_186 rbo2_186 rcw2_186 rt2_186 gp2_186 nu2_186 gq2_186 swl sun sbo scw bo cu lo wh dps alk bof us bl lg spot2_190 m_bo m_cu m_lo m_wh rd2_190 m_bl m_us m_lg m_bd m_dp len un2_190 tx now2_190 bf (by omega) htx hlen hun hnu (by omega) _ (by omega) H locs hP hD hS hXI ls (lv_sub hl [1, 2, 3, 0] rfl)
        by_cases hc4 : (andI z0 31) = 4
        · refine rv_top (y := 4) hc4 ?_
          refine lv_tableIn (tgt := 198) hx hb dL_law_32 (by decide) (by decide) rfl (by decide) ?_
          refine lv_aload_n hx hb dL_law_198 rfl (lv_at hl 1 rfl) ?_
          refine lv_aload_n hx hb dL_law_199 rfl (lv_at hl 0 rfl) ?_
          refine lv_iload_n hx hb dL_law_200 rfl (lv_at hl 3 rfl) ?_
          refine rv_iconst hx hb dL_law_201 ?_
          refine rv_iadd hx hb dL_law_202 ?_
          refine rv_sld hx hb hX hbl hbA hS (4 * n + 1) (by omega) (by omega) ez1 dL_law_203 ?_
          refine lv_aload_n hx hb dL_law_204 rfl (lv_at hl 0 rfl) ?_
          refine lv_iload_n hx hb dL_law_205 rfl (lv_at hl 3 rfl) ?_
          refine rv_iconst hx hb dL_law_206 ?_
          refine rv_iadd hx hb dL_law_207 ?_
          refine rv_sld hx hb hX hbl hbA hS (4 * n + 2) (by omega) (by omega) ez2 dL_law_208 ?_
          refine lv_aload_n hx hb dL_law_209 rfl (lv_at hl 0 rfl) ?_
          refine lv_iload_n hx hb dL_law_210 rfl (lv_at hl 3 rfl) ?_
          refine rv_iconst hx hb dL_law_211 ?_
          refine rv_iadd hx hb dL_law_212 ?_
          refine rv_sld hx hb hX hbl hbA hS (4 * n + 3) (by omega) (by omega) ez3 dL_law_213 ?_
          have hFc := va_free (wc := (xW cs ad len pl rlen rpc run_ rbo rcw rt tx gp nu un gq swl sun sbo scw bo cu lo wh dps alk bof us bl lg)) hD hS hA [0, 1, 2, 3, 4, 5, 6, 7, 8, 9, 10, 11, 12, 13] rfl
          have hPc := hP.sub (ws' := (xW cs ad len pl rlen rpc run_ rbo rcw rt tx gp nu un gq swl sun sbo scw bo cu lo wh dps alk bof us bl lg)) [0, 1, 2, 3, 4, 5, 6, 7, 8, 9, 10, 11, 12, 13] rfl
          have hDc := hD.sub (ws' := (xW cs ad len pl rlen rpc run_ rbo rcw rt tx gp nu un gq swl sun sbo scw bo cu lo wh dps alk bof us bl lg)) [0, 1, 2, 3, 4, 5, 6, 7, 8, 9, 10, 11, 12, 13] (by decide) rfl
          refine va_calli (va_runV (As := [.int (iI z1), .int (iI z2), .int (iI z3)]) (rest := []) ⟨hx, hb, hml, hown, hts⟩ (c_X6_set l D cs ad H.size len pl rlen rpc run_ rbo rcw rt tx gp nu un gq swl sun sbo scw bo cu lo wh dps alk bof us bl lg M now bf z1 z2 z3 hM1 hun hlen (by omega) (by omega) (by omega)) (cwV 3 hts (gVl tb_310 tb_311 tb_312 tb_1 tb_313) rfl rfl rfl (by decide +kernel) ⟨Nat.le_of_ble_eq_true rfl, Nat.le_of_ble_eq_true rfl⟩) (preV_M (X := fun U H => XI D cs M pl now un gq bf U H) XI_stb hK (va_recv hK hPc (ci := 5) (q0 := 0) rfl rfl) hPc hDc hXI) rfl rfl hl.1 rfl (lv_room (Nat.le_of_ble_eq_true rfl)) dL_law_214 ⟨by exact Nat.le_trans (m := 200000) (by omega) lw_rmC, by exact Nat.le_trans (m := 2500000) (by omega) lw_rmS⟩) hS (fun q _ h => hFc q h) hFc (fun r9 u9 t9 H9 locs ht9 hvm9 hw9 hB9 hz9 hk9 hS => ?_)
          obtain rfl := hw9
          obtain ⟨pl2_214, kept2_214, gq2_214, hf214_0, hf214_1, hP1, hD1⟩ := hB9
          rw [ht9] at hP1
          rw [ht9] at hf214_1
          obtain ⟨hPj, hDj⟩ := va_join (wr := [_, _, _, _, _, _, _, _, _, _]) hP hD [0, 1, 2, 3, 4, 5, 6, 7, 8, 9, 10, 11, 12, 13] [14, 15, 16, 17, 18, 19, 20, 21, 22, 23] rfl rfl (by decide) (by decide) hk9 hFc hP1 hD1
          have hXI2 := XI.call hXI (fun q z => hM1 q (Mw_xW q z)) hz9 hk9
          generalize H9 = H at *
          have hP : va_P D classes (xW cs ad len pl2_214 rlen rpc run_ rbo rcw rt tx gp nu kept2_214 gq2_214 swl sun sbo scw bo cu lo wh dps alk bof us bl lg ++ mW cs ad2 len m_spot un m_bo m_cu m_lo m_wh tx now m_rd bf m_bl m_us m_lg m_bd m_dp) H := hPj.sub [10, 11, 12, 13, 14, 15, 16, 17, 18, 19, 20, 21, 22, 23, 0, 1, 2, 3, 4, 5, 6, 7, 8, 9] rfl
          have hD : va_D A (xW cs ad len pl2_214 rlen rpc run_ rbo rcw rt tx gp nu kept2_214 gq2_214 swl sun sbo scw bo cu lo wh dps alk bof us bl lg ++ mW cs ad2 len m_spot un m_bo m_cu m_lo m_wh tx now m_rd bf m_bl m_us m_lg m_bd m_dp) := hDj.sub [10, 11, 12, 13, 14, 15, 16, 17, 18, 19, 20, 21, 22, 23, 0, 1, 2, 3, 4, 5, 6, 7, 8, 9] (by decide) rfl
          have hXI := hXI2
          subst hf214_0
          refine lv_aload_n hx hb dL_law_217 rfl (lv_at hl 2 rfl) ?_
          refine lv_aload_n hx hb dL_law_218 rfl (lv_at hl 0 rfl) ?_
          refine lv_iload_n hx hb dL_law_219 rfl (lv_at hl 3 rfl) ?_
          refine rv_iconst hx hb dL_law_220 ?_
          refine rv_iadd hx hb dL_law_221 ?_
          refine rv_sld hx hb hX hbl hbA hS (4 * n + 1) (by omega) (by omega) ez1 dL_law_222 ?_
          refine lv_aload_n hx hb dL_law_223 rfl (lv_at hl 0 rfl) ?_
          refine lv_iload_n hx hb dL_law_224 rfl (lv_at hl 3 rfl) ?_
          refine rv_iconst hx hb dL_law_225 ?_
          refine rv_iadd hx hb dL_law_226 ?_
          refine rv_sld hx hb hX hbl hbA hS (4 * n + 2) (by omega) (by omega) ez2 dL_law_227 ?_
          refine lv_aload_n hx hb dL_law_228 rfl (lv_at hl 0 rfl) ?_
          refine lv_iload_n hx hb dL_law_229 rfl (lv_at hl 3 rfl) ?_
          refine rv_iconst hx hb dL_law_230 ?_
          refine rv_iadd hx hb dL_law_231 ?_
          refine rv_sld hx hb hX hbl hbA hS (4 * n + 3) (by omega) (by omega) ez3 dL_law_232 ?_
          have hFc := va_free (wc := (mW cs ad2 len m_spot un m_bo m_cu m_lo m_wh tx now m_rd bf m_bl m_us m_lg m_bd m_dp)) hD hS hA [14, 15, 16, 17, 18, 19, 20, 21, 22, 23] rfl
          have hPc := hP.sub (ws' := (mW cs ad2 len m_spot un m_bo m_cu m_lo m_wh tx now m_rd bf m_bl m_us m_lg m_bd m_dp)) [14, 15, 16, 17, 18, 19, 20, 21, 22, 23] rfl
          have hDc := hD.sub (ws' := (mW cs ad2 len m_spot un m_bo m_cu m_lo m_wh tx now m_rd bf m_bl m_us m_lg m_bd m_dp)) [14, 15, 16, 17, 18, 19, 20, 21, 22, 23] (by decide) rfl
          refine va_calli (va_runV (As := [.int (iI z1), .int (iI z2), .int (iI z3)]) (rest := [.int (iI (aSet now z1 z2 z3))]) ⟨hx, hb, hml, hown, hts⟩ (c_X7_set l D cs ad2 H.size len m_spot un m_bo m_cu m_lo m_wh tx now m_rd bf m_bl m_us m_lg m_bd m_dp z1 z2 z3 hvL hun (by omega) (by omega) (by omega)) (cwV 3 hts (gVl tb_712 tb_713 tb_714 tb_8 tb_715) rfl rfl rfl (by decide +kernel) ⟨Nat.le_of_ble_eq_true rfl, Nat.le_of_ble_eq_true rfl⟩) (preV_M (X := fun _ _ => True) Stb_T hK (va_recv hK hPc (ci := 6) (q0 := 0) rfl rfl) hPc hDc trivial) rfl rfl hl.1 rfl (lv_room (Nat.le_of_ble_eq_true rfl)) dL_law_233 ⟨by exact Nat.le_trans (m := 200000) (by omega) lw_rmC, by exact Nat.le_trans (m := 2500000) (by omega) lw_rmS⟩) hS (fun q _ h => hFc q h) hFc (fun r9 u9 t9 H9 locs ht9 hvm9 hw9 hB9 hz9 hk9 hS => ?_)
          obtain rfl := hw9
          obtain ⟨now2_233, un2_233, bf2_233, hf233_0, hf233_1, hP1, hD1⟩ := hB9
          rw [ht9] at hP1
          obtain ⟨hPj, hDj⟩ := va_join (wr := [_, _, _, _, _, _, _, _, _, _, _, _, _, _]) hP hD [14, 15, 16, 17, 18, 19, 20, 21, 22, 23] [0, 1, 2, 3, 4, 5, 6, 7, 8, 9, 10, 11, 12, 13] rfl rfl (by decide) (by decide) hk9 hFc hP1 hD1
          have hXI2 := XI.call hXI (fun q z => hM2 q (Mw_mW q z)) hz9 hk9
          have hXK := XK.call (hf214_1 now2_233 un2_233 bf2_233 hf233_1) (fun q z => hM2 q (Mw_mW q z)) hk9
          generalize H9 = H at *
          have hP : va_P D classes (xW cs ad len pl2_214 rlen rpc run_ rbo rcw rt tx gp nu kept2_214 gq2_214 swl sun sbo scw bo cu lo wh dps alk bof us bl lg ++ mW cs ad2 len m_spot un2_233 m_bo m_cu m_lo m_wh tx now2_233 m_rd bf2_233 m_bl m_us m_lg m_bd m_dp) H := hPj.sub [0, 1, 2, 3, 4, 5, 6, 7, 8, 9, 10, 11, 12, 13, 14, 15, 16, 17, 18, 19, 20, 21, 22, 23] rfl
          have hD : va_D A (xW cs ad len pl2_214 rlen rpc run_ rbo rcw rt tx gp nu kept2_214 gq2_214 swl sun sbo scw bo cu lo wh dps alk bof us bl lg ++ mW cs ad2 len m_spot un2_233 m_bo m_cu m_lo m_wh tx now2_233 m_rd bf2_233 m_bl m_us m_lg m_bd m_dp) := hDj.sub [0, 1, 2, 3, 4, 5, 6, 7, 8, 9, 10, 11, 12, 13, 14, 15, 16, 17, 18, 19, 20, 21, 22, 23] (by decide) rfl
          obtain ⟨hpl, hke, hpa⟩ := hXK
          have hke2 := hke.symm
          subst hke2
          have hun : 0 ≤ un2_233 ∧ un2_233 ≤ 6 := chg_bd hun hf233_1
          have hXI : XI D cs M pl2_214 now2_233 un2_233 gq2_214 bf2_233 s H := ⟨⟨hXI2.1.1, hpl, hpa⟩, hXI2.2⟩
          subst hf233_0
          refine lv_icmp_eq (tgt := 762) hx hb dL_law_236 (by decide) (fun _ => ?_) (fun h => absurd rfl h)
          refine rv_iinc (k := 3) (lv' := [(3, .int (iI (((4 * n : Nat) : Int) + 4))), (0, .ref b), (1, .ref (ad 0)), (2, .ref (ad2 0))]) hx hb dL_law_762 hl rfl (by decide) rfl (fun ls hl => ?_)
          refine lv_goto (tgt := 18) hx hb dL_law_765 (by decide) ?_
          refine W.widen (k := 32 + 236 * (n + 1)) (n := 2404 + 4454 * (n + 1)) (by omega) (by omega) ?_
          exact ih18 (n + 1) pl2_214 rlen rpc run_ rbo rcw rt gp nu gq2_214 swl sun sbo scw bo cu lo wh dps alk bof us bl lg m_spot m_bo m_cu m_lo m_wh m_rd m_bl m_us m_lg m_bd m_dp len un2_233 tx now2_233 bf2_233 (by omega) htx hlen hun hnu (by omega) _ (by omega) H locs hP hD hS hXI ls (lv_sub hl [1, 2, 3, 0] rfl)
        by_cases hc5 : (andI z0 31) = 5
        · refine rv_top (y := 5) hc5 ?_
          refine lv_tableIn (tgt := 241) hx hb dL_law_32 (by decide) (by decide) rfl (by decide) ?_
          refine lv_aload_n hx hb dL_law_241 rfl (lv_at hl 1 rfl) ?_
          refine lv_aload_n hx hb dL_law_242 rfl (lv_at hl 0 rfl) ?_
          refine lv_iload_n hx hb dL_law_243 rfl (lv_at hl 3 rfl) ?_
          refine rv_iconst hx hb dL_law_244 ?_
          refine rv_iadd hx hb dL_law_245 ?_
          refine rv_sld hx hb hX hbl hbA hS (4 * n + 1) (by omega) (by omega) ez1 dL_law_246 ?_
          refine lv_aload_n hx hb dL_law_247 rfl (lv_at hl 0 rfl) ?_
          refine lv_iload_n hx hb dL_law_248 rfl (lv_at hl 3 rfl) ?_
          refine rv_iconst hx hb dL_law_249 ?_
          refine rv_iadd hx hb dL_law_250 ?_
          refine rv_sld hx hb hX hbl hbA hS (4 * n + 2) (by omega) (by omega) ez2 dL_law_251 ?_
          have hFc := va_free (wc := (xW cs ad len pl rlen rpc run_ rbo rcw rt tx gp nu un gq swl sun sbo scw bo cu lo wh dps alk bof us bl lg)) hD hS hA [0, 1, 2, 3, 4, 5, 6, 7, 8, 9, 10, 11, 12, 13] rfl
          have hPc := hP.sub (ws' := (xW cs ad len pl rlen rpc run_ rbo rcw rt tx gp nu un gq swl sun sbo scw bo cu lo wh dps alk bof us bl lg)) [0, 1, 2, 3, 4, 5, 6, 7, 8, 9, 10, 11, 12, 13] rfl
          have hDc := hD.sub (ws' := (xW cs ad len pl rlen rpc run_ rbo rcw rt tx gp nu un gq swl sun sbo scw bo cu lo wh dps alk bof us bl lg)) [0, 1, 2, 3, 4, 5, 6, 7, 8, 9, 10, 11, 12, 13] (by decide) rfl
          refine va_calli (va_runV (As := [.int (iI z1), .int (iI z2)]) (rest := []) ⟨hx, hb, hml, hown, hts⟩ (c_X6_tell l D cs ad H.size len pl rlen rpc run_ rbo rcw rt tx gp nu un gq swl sun sbo scw bo cu lo wh dps alk bof us bl lg M now bf z1 z2 hM1 hun hlen (by omega) (by omega)) (cwV 2 hts (gVl tb_356 tb_357 tb_358 tb_1 tb_359) rfl rfl rfl (by decide +kernel) ⟨Nat.le_of_ble_eq_true rfl, Nat.le_of_ble_eq_true rfl⟩) (preV_M (X := fun U H => XI D cs M pl now un gq bf U H) XI_stb hK (va_recv hK hPc (ci := 5) (q0 := 0) rfl rfl) hPc hDc hXI) rfl rfl hl.1 rfl (lv_room (Nat.le_of_ble_eq_true rfl)) dL_law_252 ⟨by exact Nat.le_trans (m := 200000) (by omega) lw_rmC, by exact Nat.le_trans (m := 2500000) (by omega) lw_rmS⟩) hS (fun q _ h => hFc q h) hFc (fun r9 u9 t9 H9 locs ht9 hvm9 hw9 hB9 hz9 hk9 hS => ?_)
          obtain rfl := hw9
          obtain ⟨pl2_252, kept2_252, gq2_252, hf252_0, hf252_1, hP1, hD1⟩ := hB9
          rw [ht9] at hP1
          rw [ht9] at hf252_1
          obtain ⟨hPj, hDj⟩ := va_join (wr := [_, _, _, _, _, _, _, _, _, _]) hP hD [0, 1, 2, 3, 4, 5, 6, 7, 8, 9, 10, 11, 12, 13] [14, 15, 16, 17, 18, 19, 20, 21, 22, 23] rfl rfl (by decide) (by decide) hk9 hFc hP1 hD1
          have hXI2 := XI.call hXI (fun q z => hM1 q (Mw_xW q z)) hz9 hk9
          generalize H9 = H at *
          have hP : va_P D classes (xW cs ad len pl2_252 rlen rpc run_ rbo rcw rt tx gp nu kept2_252 gq2_252 swl sun sbo scw bo cu lo wh dps alk bof us bl lg ++ mW cs ad2 len m_spot un m_bo m_cu m_lo m_wh tx now m_rd bf m_bl m_us m_lg m_bd m_dp) H := hPj.sub [10, 11, 12, 13, 14, 15, 16, 17, 18, 19, 20, 21, 22, 23, 0, 1, 2, 3, 4, 5, 6, 7, 8, 9] rfl
          have hD : va_D A (xW cs ad len pl2_252 rlen rpc run_ rbo rcw rt tx gp nu kept2_252 gq2_252 swl sun sbo scw bo cu lo wh dps alk bof us bl lg ++ mW cs ad2 len m_spot un m_bo m_cu m_lo m_wh tx now m_rd bf m_bl m_us m_lg m_bd m_dp) := hDj.sub [10, 11, 12, 13, 14, 15, 16, 17, 18, 19, 20, 21, 22, 23, 0, 1, 2, 3, 4, 5, 6, 7, 8, 9] (by decide) rfl
          have hXI := hXI2
          subst hf252_0
          refine lv_aload_n hx hb dL_law_255 rfl (lv_at hl 2 rfl) ?_
          refine lv_aload_n hx hb dL_law_256 rfl (lv_at hl 0 rfl) ?_
          refine lv_iload_n hx hb dL_law_257 rfl (lv_at hl 3 rfl) ?_
          refine rv_iconst hx hb dL_law_258 ?_
          refine rv_iadd hx hb dL_law_259 ?_
          refine rv_sld hx hb hX hbl hbA hS (4 * n + 1) (by omega) (by omega) ez1 dL_law_260 ?_
          refine lv_aload_n hx hb dL_law_261 rfl (lv_at hl 0 rfl) ?_
          refine lv_iload_n hx hb dL_law_262 rfl (lv_at hl 3 rfl) ?_
          refine rv_iconst hx hb dL_law_263 ?_
          refine rv_iadd hx hb dL_law_264 ?_
          refine rv_sld hx hb hX hbl hbA hS (4 * n + 2) (by omega) (by omega) ez2 dL_law_265 ?_
          have hFc := va_free (wc := (mW cs ad2 len m_spot un m_bo m_cu m_lo m_wh tx now m_rd bf m_bl m_us m_lg m_bd m_dp)) hD hS hA [14, 15, 16, 17, 18, 19, 20, 21, 22, 23] rfl
          have hPc := hP.sub (ws' := (mW cs ad2 len m_spot un m_bo m_cu m_lo m_wh tx now m_rd bf m_bl m_us m_lg m_bd m_dp)) [14, 15, 16, 17, 18, 19, 20, 21, 22, 23] rfl
          have hDc := hD.sub (ws' := (mW cs ad2 len m_spot un m_bo m_cu m_lo m_wh tx now m_rd bf m_bl m_us m_lg m_bd m_dp)) [14, 15, 16, 17, 18, 19, 20, 21, 22, 23] (by decide) rfl
          refine va_calli (va_runV (As := [.int (iI z1), .int (iI z2)]) (rest := [.int (iI (aTell now z1 z2))]) ⟨hx, hb, hml, hown, hts⟩ (c_X7_tell l D cs ad2 H.size len m_spot un m_bo m_cu m_lo m_wh tx now m_rd bf m_bl m_us m_lg m_bd m_dp z1 z2 hvL hun (by omega) (by omega)) (cwV 2 hts (gVl tb_729 tb_730 tb_731 tb_8 tb_732) rfl rfl rfl (by decide +kernel) ⟨Nat.le_of_ble_eq_true rfl, Nat.le_of_ble_eq_true rfl⟩) (preV_M (X := fun _ _ => True) Stb_T hK (va_recv hK hPc (ci := 6) (q0 := 0) rfl rfl) hPc hDc trivial) rfl rfl hl.1 rfl (lv_room (Nat.le_of_ble_eq_true rfl)) dL_law_266 ⟨by exact Nat.le_trans (m := 200000) (by omega) lw_rmC, by exact Nat.le_trans (m := 2500000) (by omega) lw_rmS⟩) hS (fun q _ h => hFc q h) hFc (fun r9 u9 t9 H9 locs ht9 hvm9 hw9 hB9 hz9 hk9 hS => ?_)
          obtain rfl := hw9
          obtain ⟨now2_266, un2_266, bf2_266, hf266_0, hf266_1, hP1, hD1⟩ := hB9
          rw [ht9] at hP1
          obtain ⟨hPj, hDj⟩ := va_join (wr := [_, _, _, _, _, _, _, _, _, _, _, _, _, _]) hP hD [14, 15, 16, 17, 18, 19, 20, 21, 22, 23] [0, 1, 2, 3, 4, 5, 6, 7, 8, 9, 10, 11, 12, 13] rfl rfl (by decide) (by decide) hk9 hFc hP1 hD1
          have hXI2 := XI.call hXI (fun q z => hM2 q (Mw_mW q z)) hz9 hk9
          have hXK := XK.call (hf252_1 now2_266 un2_266 bf2_266 hf266_1) (fun q z => hM2 q (Mw_mW q z)) hk9
          generalize H9 = H at *
          have hP : va_P D classes (xW cs ad len pl2_252 rlen rpc run_ rbo rcw rt tx gp nu kept2_252 gq2_252 swl sun sbo scw bo cu lo wh dps alk bof us bl lg ++ mW cs ad2 len m_spot un2_266 m_bo m_cu m_lo m_wh tx now2_266 m_rd bf2_266 m_bl m_us m_lg m_bd m_dp) H := hPj.sub [0, 1, 2, 3, 4, 5, 6, 7, 8, 9, 10, 11, 12, 13, 14, 15, 16, 17, 18, 19, 20, 21, 22, 23] rfl
          have hD : va_D A (xW cs ad len pl2_252 rlen rpc run_ rbo rcw rt tx gp nu kept2_252 gq2_252 swl sun sbo scw bo cu lo wh dps alk bof us bl lg ++ mW cs ad2 len m_spot un2_266 m_bo m_cu m_lo m_wh tx now2_266 m_rd bf2_266 m_bl m_us m_lg m_bd m_dp) := hDj.sub [0, 1, 2, 3, 4, 5, 6, 7, 8, 9, 10, 11, 12, 13, 14, 15, 16, 17, 18, 19, 20, 21, 22, 23] (by decide) rfl
          obtain ⟨hpl, hke, hpa⟩ := hXK
          have hke2 := hke.symm
          subst hke2
          have hun : 0 ≤ un2_266 ∧ un2_266 ≤ 6 := chg_bd hun hf266_1
          have hXI : XI D cs M pl2_252 now2_266 un2_266 gq2_252 bf2_266 s H := ⟨⟨hXI2.1.1, hpl, hpa⟩, hXI2.2⟩
          subst hf266_0
          refine lv_icmp_eq (tgt := 762) hx hb dL_law_269 (by decide) (fun _ => ?_) (fun h => absurd rfl h)
          refine rv_iinc (k := 3) (lv' := [(3, .int (iI (((4 * n : Nat) : Int) + 4))), (0, .ref b), (1, .ref (ad 0)), (2, .ref (ad2 0))]) hx hb dL_law_762 hl rfl (by decide) rfl (fun ls hl => ?_)
          refine lv_goto (tgt := 18) hx hb dL_law_765 (by decide) ?_
          refine W.widen (k := 32 + 236 * (n + 1)) (n := 2404 + 4454 * (n + 1)) (by omega) (by omega) ?_
          exact ih18 (n + 1) pl2_252 rlen rpc run_ rbo rcw rt gp nu gq2_252 swl sun sbo scw bo cu lo wh dps alk bof us bl lg m_spot m_bo m_cu m_lo m_wh m_rd m_bl m_us m_lg m_bd m_dp len un2_266 tx now2_266 bf2_266 (by omega) htx hlen hun hnu (by omega) _ (by omega) H locs hP hD hS hXI ls (lv_sub hl [1, 2, 3, 0] rfl)
        by_cases hc6 : (andI z0 31) = 6
        · refine rv_top (y := 6) hc6 ?_
          refine lv_tableIn (tgt := 274) hx hb dL_law_32 (by decide) (by decide) rfl (by decide) ?_
          refine lv_aload_n hx hb dL_law_274 rfl (lv_at hl 1 rfl) ?_
          refine lv_aload_n hx hb dL_law_275 rfl (lv_at hl 0 rfl) ?_
          refine lv_iload_n hx hb dL_law_276 rfl (lv_at hl 3 rfl) ?_
          refine rv_iconst hx hb dL_law_277 ?_
          refine rv_iadd hx hb dL_law_278 ?_
          refine rv_sld hx hb hX hbl hbA hS (4 * n + 1) (by omega) (by omega) ez1 dL_law_279 ?_
          have hFc := va_free (wc := (xW cs ad len pl rlen rpc run_ rbo rcw rt tx gp nu un gq swl sun sbo scw bo cu lo wh dps alk bof us bl lg)) hD hS hA [0, 1, 2, 3, 4, 5, 6, 7, 8, 9, 10, 11, 12, 13] rfl
          have hPc := hP.sub (ws' := (xW cs ad len pl rlen rpc run_ rbo rcw rt tx gp nu un gq swl sun sbo scw bo cu lo wh dps alk bof us bl lg)) [0, 1, 2, 3, 4, 5, 6, 7, 8, 9, 10, 11, 12, 13] rfl
          have hDc := hD.sub (ws' := (xW cs ad len pl rlen rpc run_ rbo rcw rt tx gp nu un gq swl sun sbo scw bo cu lo wh dps alk bof us bl lg)) [0, 1, 2, 3, 4, 5, 6, 7, 8, 9, 10, 11, 12, 13] (by decide) rfl
          refine va_calli (va_runV (As := [.int (iI z1)]) (rest := []) ⟨hx, hb, hml, hown, hts⟩ (c_X6_take l D cs ad H.size len pl rlen rpc run_ rbo rcw rt tx gp nu un gq swl sun sbo scw bo cu lo wh dps alk bof us bl lg M now bf z1 hM1 hun hlen (by omega)) (cwV 1 hts (gVl tb_369 tb_370 tb_371 tb_1 tb_372) rfl rfl rfl (by decide +kernel) ⟨Nat.le_of_ble_eq_true rfl, Nat.le_of_ble_eq_true rfl⟩) (preV_M (X := fun U H => XI D cs M pl now un gq bf U H) XI_stb hK (va_recv hK hPc (ci := 5) (q0 := 0) rfl rfl) hPc hDc hXI) rfl rfl hl.1 rfl (lv_room (Nat.le_of_ble_eq_true rfl)) dL_law_280 ⟨by exact Nat.le_trans (m := 200000) (by omega) lw_rmC, by exact Nat.le_trans (m := 2500000) (by omega) lw_rmS⟩) hS (fun q _ h => hFc q h) hFc (fun r9 u9 t9 H9 locs ht9 hvm9 hw9 hB9 hz9 hk9 hS => ?_)
          obtain rfl := hw9
          obtain ⟨pl2_280, kept2_280, gq2_280, hf280_0, hf280_1, hP1, hD1⟩ := hB9
          rw [ht9] at hP1
          rw [ht9] at hf280_1
          obtain ⟨hPj, hDj⟩ := va_join (wr := [_, _, _, _, _, _, _, _, _, _]) hP hD [0, 1, 2, 3, 4, 5, 6, 7, 8, 9, 10, 11, 12, 13] [14, 15, 16, 17, 18, 19, 20, 21, 22, 23] rfl rfl (by decide) (by decide) hk9 hFc hP1 hD1
          have hXI2 := XI.call hXI (fun q z => hM1 q (Mw_xW q z)) hz9 hk9
          generalize H9 = H at *
          have hP : va_P D classes (xW cs ad len pl2_280 rlen rpc run_ rbo rcw rt tx gp nu kept2_280 gq2_280 swl sun sbo scw bo cu lo wh dps alk bof us bl lg ++ mW cs ad2 len m_spot un m_bo m_cu m_lo m_wh tx now m_rd bf m_bl m_us m_lg m_bd m_dp) H := hPj.sub [10, 11, 12, 13, 14, 15, 16, 17, 18, 19, 20, 21, 22, 23, 0, 1, 2, 3, 4, 5, 6, 7, 8, 9] rfl
          have hD : va_D A (xW cs ad len pl2_280 rlen rpc run_ rbo rcw rt tx gp nu kept2_280 gq2_280 swl sun sbo scw bo cu lo wh dps alk bof us bl lg ++ mW cs ad2 len m_spot un m_bo m_cu m_lo m_wh tx now m_rd bf m_bl m_us m_lg m_bd m_dp) := hDj.sub [10, 11, 12, 13, 14, 15, 16, 17, 18, 19, 20, 21, 22, 23, 0, 1, 2, 3, 4, 5, 6, 7, 8, 9] (by decide) rfl
          have hXI := hXI2
          subst hf280_0
          refine lv_aload_n hx hb dL_law_283 rfl (lv_at hl 2 rfl) ?_
          refine lv_aload_n hx hb dL_law_284 rfl (lv_at hl 0 rfl) ?_
          refine lv_iload_n hx hb dL_law_285 rfl (lv_at hl 3 rfl) ?_
          refine rv_iconst hx hb dL_law_286 ?_
          refine rv_iadd hx hb dL_law_287 ?_
          refine rv_sld hx hb hX hbl hbA hS (4 * n + 1) (by omega) (by omega) ez1 dL_law_288 ?_
          have hFc := va_free (wc := (mW cs ad2 len m_spot un m_bo m_cu m_lo m_wh tx now m_rd bf m_bl m_us m_lg m_bd m_dp)) hD hS hA [14, 15, 16, 17, 18, 19, 20, 21, 22, 23] rfl
          have hPc := hP.sub (ws' := (mW cs ad2 len m_spot un m_bo m_cu m_lo m_wh tx now m_rd bf m_bl m_us m_lg m_bd m_dp)) [14, 15, 16, 17, 18, 19, 20, 21, 22, 23] rfl
          have hDc := hD.sub (ws' := (mW cs ad2 len m_spot un m_bo m_cu m_lo m_wh tx now m_rd bf m_bl m_us m_lg m_bd m_dp)) [14, 15, 16, 17, 18, 19, 20, 21, 22, 23] (by decide) rfl
          refine va_calli (va_runV (As := [.int (iI z1)]) (rest := [.int (iI (cif (0 ≤ z1 ∧ z1 < now 20) (now 20 - 1) (-1)))]) ⟨hx, hb, hml, hown, hts⟩ (c_X7_take l D cs ad2 H.size len m_spot un m_bo m_cu m_lo m_wh tx now m_rd bf m_bl m_us m_lg m_bd m_dp z1 hvL hun (by omega)) (cwV 1 hts (gVl tb_736 tb_737 tb_738 tb_8 tb_739) rfl rfl rfl (by decide +kernel) ⟨Nat.le_of_ble_eq_true rfl, Nat.le_of_ble_eq_true rfl⟩) (preV_M (X := fun _ _ => True) Stb_T hK (va_recv hK hPc (ci := 6) (q0 := 0) rfl rfl) hPc hDc trivial) rfl rfl hl.1 rfl (lv_room (Nat.le_of_ble_eq_true rfl)) dL_law_289 ⟨by exact Nat.le_trans (m := 200000) (by omega) lw_rmC, by exact Nat.le_trans (m := 2500000) (by omega) lw_rmS⟩) hS (fun q _ h => hFc q h) hFc (fun r9 u9 t9 H9 locs ht9 hvm9 hw9 hB9 hz9 hk9 hS => ?_)
          obtain rfl := hw9
          obtain ⟨now2_289, un2_289, bf2_289, hf289_0, hf289_1, hP1, hD1⟩ := hB9
          rw [ht9] at hP1
          obtain ⟨hPj, hDj⟩ := va_join (wr := [_, _, _, _, _, _, _, _, _, _, _, _, _, _]) hP hD [14, 15, 16, 17, 18, 19, 20, 21, 22, 23] [0, 1, 2, 3, 4, 5, 6, 7, 8, 9, 10, 11, 12, 13] rfl rfl (by decide) (by decide) hk9 hFc hP1 hD1
          have hXI2 := XI.call hXI (fun q z => hM2 q (Mw_mW q z)) hz9 hk9
          have hXK := XK.call (hf280_1 now2_289 un2_289 bf2_289 hf289_1) (fun q z => hM2 q (Mw_mW q z)) hk9
          generalize H9 = H at *
          have hP : va_P D classes (xW cs ad len pl2_280 rlen rpc run_ rbo rcw rt tx gp nu kept2_280 gq2_280 swl sun sbo scw bo cu lo wh dps alk bof us bl lg ++ mW cs ad2 len m_spot un2_289 m_bo m_cu m_lo m_wh tx now2_289 m_rd bf2_289 m_bl m_us m_lg m_bd m_dp) H := hPj.sub [0, 1, 2, 3, 4, 5, 6, 7, 8, 9, 10, 11, 12, 13, 14, 15, 16, 17, 18, 19, 20, 21, 22, 23] rfl
          have hD : va_D A (xW cs ad len pl2_280 rlen rpc run_ rbo rcw rt tx gp nu kept2_280 gq2_280 swl sun sbo scw bo cu lo wh dps alk bof us bl lg ++ mW cs ad2 len m_spot un2_289 m_bo m_cu m_lo m_wh tx now2_289 m_rd bf2_289 m_bl m_us m_lg m_bd m_dp) := hDj.sub [0, 1, 2, 3, 4, 5, 6, 7, 8, 9, 10, 11, 12, 13, 14, 15, 16, 17, 18, 19, 20, 21, 22, 23] (by decide) rfl
          obtain ⟨hpl, hke, hpa⟩ := hXK
          have hke2 := hke.symm
          subst hke2
          have hun : 0 ≤ un2_289 ∧ un2_289 ≤ 6 := take_bd hun hf289_1
          have hXI : XI D cs M pl2_280 now2_289 un2_289 gq2_280 bf2_289 s H := ⟨⟨hXI2.1.1, hpl, hpa⟩, hXI2.2⟩
          subst hf289_0
          refine lv_icmp_eq (tgt := 762) hx hb dL_law_292 (by decide) (fun _ => ?_) (fun h => absurd rfl h)
          refine rv_iinc (k := 3) (lv' := [(3, .int (iI (((4 * n : Nat) : Int) + 4))), (0, .ref b), (1, .ref (ad 0)), (2, .ref (ad2 0))]) hx hb dL_law_762 hl rfl (by decide) rfl (fun ls hl => ?_)
          refine lv_goto (tgt := 18) hx hb dL_law_765 (by decide) ?_
          refine W.widen (k := 32 + 236 * (n + 1)) (n := 2404 + 4454 * (n + 1)) (by omega) (by omega) ?_
          exact ih18 (n + 1) pl2_280 rlen rpc run_ rbo rcw rt gp nu gq2_280 swl sun sbo scw bo cu lo wh dps alk bof us bl lg m_spot m_bo m_cu m_lo m_wh m_rd m_bl m_us m_lg m_bd m_dp len un2_289 tx now2_289 bf2_289 (by omega) htx hlen hun hnu (by omega) _ (by omega) H locs hP hD hS hXI ls (lv_sub hl [1, 2, 3, 0] rfl)
        by_cases hc7 : (andI z0 31) = 7
        · refine rv_top (y := 7) hc7 ?_
          refine lv_tableIn (tgt := 297) hx hb dL_law_32 (by decide) (by decide) rfl (by decide) ?_
          refine lv_aload_n hx hb dL_law_297 rfl (lv_at hl 1 rfl) ?_
          have hFc := va_free (wc := (xW cs ad len pl rlen rpc run_ rbo rcw rt tx gp nu un gq swl sun sbo scw bo cu lo wh dps alk bof us bl lg)) hD hS hA [0, 1, 2, 3, 4, 5, 6, 7, 8, 9, 10, 11, 12, 13] rfl
          have hPc := hP.sub (ws' := (xW cs ad len pl rlen rpc run_ rbo rcw rt tx gp nu un gq swl sun sbo scw bo cu lo wh dps alk bof us bl lg)) [0, 1, 2, 3, 4, 5, 6, 7, 8, 9, 10, 11, 12, 13] rfl
          have hDc := hD.sub (ws' := (xW cs ad len pl rlen rpc run_ rbo rcw rt tx gp nu un gq swl sun sbo scw bo cu lo wh dps alk bof us bl lg)) [0, 1, 2, 3, 4, 5, 6, 7, 8, 9, 10, 11, 12, 13] (by decide) rfl
          refine va_calli (va_runV (As := []) (rest := []) ⟨hx, hb, hml, hown, hts⟩ (c_X6_undo l D cs ad H.size len pl rlen rpc run_ rbo rcw rt tx gp nu un gq swl sun sbo scw bo cu lo wh dps alk bof us bl lg M now bf hM1 hun hlen) (cwV 0 hts (gVl tb_378 tb_379 tb_380 tb_1 tb_381) rfl rfl rfl (by decide +kernel) ⟨Nat.le_of_ble_eq_true rfl, Nat.le_of_ble_eq_true rfl⟩) (preV_M (X := fun U H => XI D cs M pl now un gq bf U H) XI_stb hK (va_recv hK hPc (ci := 5) (q0 := 0) rfl rfl) hPc hDc hXI) rfl rfl hl.1 rfl (lv_room (Nat.le_of_ble_eq_true rfl)) dL_law_298 ⟨by exact Nat.le_trans (m := 200000) (by omega) lw_rmC, by exact Nat.le_trans (m := 2500000) (by omega) lw_rmS⟩) hS (fun q _ h => hFc q h) hFc (fun r9 u9 t9 H9 locs ht9 hvm9 hw9 hB9 hz9 hk9 hS => ?_)
          obtain rfl := hw9
          obtain ⟨pl2_298, kept2_298, gq2_298, hf298_0, hf298_1, hP1, hD1⟩ := hB9
          rw [ht9] at hP1
          rw [ht9] at hf298_1
          obtain ⟨hPj, hDj⟩ := va_join (wr := [_, _, _, _, _, _, _, _, _, _]) hP hD [0, 1, 2, 3, 4, 5, 6, 7, 8, 9, 10, 11, 12, 13] [14, 15, 16, 17, 18, 19, 20, 21, 22, 23] rfl rfl (by decide) (by decide) hk9 hFc hP1 hD1
          have hXI2 := XI.call hXI (fun q z => hM1 q (Mw_xW q z)) hz9 hk9
          generalize H9 = H at *
          have hP : va_P D classes (xW cs ad len pl2_298 rlen rpc run_ rbo rcw rt tx gp nu kept2_298 gq2_298 swl sun sbo scw bo cu lo wh dps alk bof us bl lg ++ mW cs ad2 len m_spot un m_bo m_cu m_lo m_wh tx now m_rd bf m_bl m_us m_lg m_bd m_dp) H := hPj.sub [10, 11, 12, 13, 14, 15, 16, 17, 18, 19, 20, 21, 22, 23, 0, 1, 2, 3, 4, 5, 6, 7, 8, 9] rfl
          have hD : va_D A (xW cs ad len pl2_298 rlen rpc run_ rbo rcw rt tx gp nu kept2_298 gq2_298 swl sun sbo scw bo cu lo wh dps alk bof us bl lg ++ mW cs ad2 len m_spot un m_bo m_cu m_lo m_wh tx now m_rd bf m_bl m_us m_lg m_bd m_dp) := hDj.sub [10, 11, 12, 13, 14, 15, 16, 17, 18, 19, 20, 21, 22, 23, 0, 1, 2, 3, 4, 5, 6, 7, 8, 9] (by decide) rfl
          have hXI := hXI2
          subst hf298_0
          refine lv_aload_n hx hb dL_law_301 rfl (lv_at hl 2 rfl) ?_
          have hFc := va_free (wc := (mW cs ad2 len m_spot un m_bo m_cu m_lo m_wh tx now m_rd bf m_bl m_us m_lg m_bd m_dp)) hD hS hA [14, 15, 16, 17, 18, 19, 20, 21, 22, 23] rfl
          have hPc := hP.sub (ws' := (mW cs ad2 len m_spot un m_bo m_cu m_lo m_wh tx now m_rd bf m_bl m_us m_lg m_bd m_dp)) [14, 15, 16, 17, 18, 19, 20, 21, 22, 23] rfl
          have hDc := hD.sub (ws' := (mW cs ad2 len m_spot un m_bo m_cu m_lo m_wh tx now m_rd bf m_bl m_us m_lg m_bd m_dp)) [14, 15, 16, 17, 18, 19, 20, 21, 22, 23] (by decide) rfl
          refine va_calli (va_runV (As := []) (rest := [.int (iI (cif (un = 0) (-2) (un - 1)))]) ⟨hx, hb, hml, hown, hts⟩ (c_X7_undo l D cs ad2 H.size len m_spot un m_bo m_cu m_lo m_wh tx now m_rd bf m_bl m_us m_lg m_bd m_dp hun) (cwV 0 hts (gVl tb_708 tb_709 tb_710 tb_8 tb_711) rfl rfl rfl (by decide +kernel) ⟨Nat.le_of_ble_eq_true rfl, Nat.le_of_ble_eq_true rfl⟩) (preV_M (X := fun _ _ => True) Stb_T hK (va_recv hK hPc (ci := 6) (q0 := 0) rfl rfl) hPc hDc trivial) rfl rfl hl.1 rfl (lv_room (Nat.le_of_ble_eq_true rfl)) dL_law_302 ⟨by exact Nat.le_trans (m := 200000) (by omega) lw_rmC, by exact Nat.le_trans (m := 2500000) (by omega) lw_rmS⟩) hS (fun q _ h => hFc q h) hFc (fun r9 u9 t9 H9 locs ht9 hvm9 hw9 hB9 hz9 hk9 hS => ?_)
          obtain rfl := hw9
          obtain ⟨now2_302, hf302_0, hf302_1, hf302_2, hP1, hD1⟩ := hB9
          rw [ht9] at hP1
          obtain ⟨hPj, hDj⟩ := va_join (wr := [_, _, _, _, _, _, _, _, _, _, _, _, _, _]) hP hD [14, 15, 16, 17, 18, 19, 20, 21, 22, 23] [0, 1, 2, 3, 4, 5, 6, 7, 8, 9, 10, 11, 12, 13] rfl rfl (by decide) (by decide) hk9 hFc hP1 hD1
          have hXI2 := XI.call hXI (fun q z => hM2 q (Mw_mW q z)) hz9 hk9
          have hXK := XK.call (hf298_1 now2_302 hf302_1 hf302_2) (fun q z => hM2 q (Mw_mW q z)) hk9
          generalize H9 = H at *
          have hP : va_P D classes (xW cs ad len pl2_298 rlen rpc run_ rbo rcw rt tx gp nu kept2_298 gq2_298 swl sun sbo scw bo cu lo wh dps alk bof us bl lg ++ mW cs ad2 len m_spot (cif (un = 0) 0 (un - 1)) m_bo m_cu m_lo m_wh tx now2_302 m_rd bf m_bl m_us m_lg m_bd m_dp) H := hPj.sub [0, 1, 2, 3, 4, 5, 6, 7, 8, 9, 10, 11, 12, 13, 14, 15, 16, 17, 18, 19, 20, 21, 22, 23] rfl
          have hD : va_D A (xW cs ad len pl2_298 rlen rpc run_ rbo rcw rt tx gp nu kept2_298 gq2_298 swl sun sbo scw bo cu lo wh dps alk bof us bl lg ++ mW cs ad2 len m_spot (cif (un = 0) 0 (un - 1)) m_bo m_cu m_lo m_wh tx now2_302 m_rd bf m_bl m_us m_lg m_bd m_dp) := hDj.sub [0, 1, 2, 3, 4, 5, 6, 7, 8, 9, 10, 11, 12, 13, 14, 15, 16, 17, 18, 19, 20, 21, 22, 23] (by decide) rfl
          obtain ⟨hpl, hke, hpa⟩ := hXK
          subst hke
          have hun : 0 ≤ cif (un = 0) 0 (un - 1) ∧ cif (un = 0) 0 (un - 1) ≤ 6 := by by_cases zz : un = 0; (rw [cif_pos zz]; omega); (rw [cif_neg zz]; omega)
          have hXI : XI D cs M pl2_298 now2_302 (cif (un = 0) 0 (un - 1)) gq2_298 bf s H := ⟨⟨hXI2.1.1, hpl, hpa⟩, hXI2.2⟩
          subst hf302_0
          refine lv_icmp_eq (tgt := 762) hx hb dL_law_305 (by decide) (fun _ => ?_) (fun h => absurd rfl h)
          refine rv_iinc (k := 3) (lv' := [(3, .int (iI (((4 * n : Nat) : Int) + 4))), (0, .ref b), (1, .ref (ad 0)), (2, .ref (ad2 0))]) hx hb dL_law_762 hl rfl (by decide) rfl (fun ls hl => ?_)
          refine lv_goto (tgt := 18) hx hb dL_law_765 (by decide) ?_
          refine W.widen (k := 32 + 236 * (n + 1)) (n := 2404 + 4454 * (n + 1)) (by omega) (by omega) ?_
          exact ih18 (n + 1) pl2_298 rlen rpc run_ rbo rcw rt gp nu gq2_298 swl sun sbo scw bo cu lo wh dps alk bof us bl lg m_spot m_bo m_cu m_lo m_wh m_rd m_bl m_us m_lg m_bd m_dp len (cif (un = 0) 0 (un - 1)) tx now2_302 bf (by omega) htx hlen hun hnu (by omega) _ (by omega) H locs hP hD hS hXI ls (lv_sub hl [1, 2, 3, 0] rfl)
        by_cases hc8 : (andI z0 31) = 8
        · refine rv_top (y := 8) hc8 ?_
          refine lv_tableIn (tgt := 310) hx hb dL_law_32 (by decide) (by decide) rfl (by decide) ?_
          refine lv_aload_n hx hb dL_law_310 rfl (lv_at hl 1 rfl) ?_
          refine lv_aload_n hx hb dL_law_311 rfl (lv_at hl 0 rfl) ?_
          refine lv_iload_n hx hb dL_law_312 rfl (lv_at hl 3 rfl) ?_
          refine rv_iconst hx hb dL_law_313 ?_
          refine rv_iadd hx hb dL_law_314 ?_
          refine rv_sld hx hb hX hbl hbA hS (4 * n + 1) (by omega) (by omega) ez1 dL_law_315 ?_
          have hFc := va_free (wc := (xW cs ad len pl rlen rpc run_ rbo rcw rt tx gp nu un gq swl sun sbo scw bo cu lo wh dps alk bof us bl lg)) hD hS hA [0, 1, 2, 3, 4, 5, 6, 7, 8, 9, 10, 11, 12, 13] rfl
          have hPc := hP.sub (ws' := (xW cs ad len pl rlen rpc run_ rbo rcw rt tx gp nu un gq swl sun sbo scw bo cu lo wh dps alk bof us bl lg)) [0, 1, 2, 3, 4, 5, 6, 7, 8, 9, 10, 11, 12, 13] rfl
          have hDc := hD.sub (ws' := (xW cs ad len pl rlen rpc run_ rbo rcw rt tx gp nu un gq swl sun sbo scw bo cu lo wh dps alk bof us bl lg)) [0, 1, 2, 3, 4, 5, 6, 7, 8, 9, 10, 11, 12, 13] (by decide) rfl
          refine va_calli (va_runV (As := [.int (iI z1)]) (rest := []) ⟨hx, hb, hml, hown, hts⟩ (c_X6_squares l D cs ad H.size len pl rlen rpc run_ rbo rcw rt tx gp nu un gq swl sun sbo scw bo cu lo wh dps alk bof us bl lg M now bf z1 hM1 hun hlen (by omega)) (cwV 1 hts (gVl tb_386 tb_387 tb_388 tb_1 tb_389) rfl rfl rfl (by decide +kernel) ⟨Nat.le_of_ble_eq_true rfl, Nat.le_of_ble_eq_true rfl⟩) (preV_M (X := fun U H => XI D cs M pl now un gq bf U H) XI_stb hK (va_recv hK hPc (ci := 5) (q0 := 0) rfl rfl) hPc hDc hXI) rfl rfl hl.1 rfl (lv_room (Nat.le_of_ble_eq_true rfl)) dL_law_316 ⟨by exact Nat.le_trans (m := 200000) (by omega) lw_rmC, by exact Nat.le_trans (m := 2500000) (by omega) lw_rmS⟩) hS (fun q _ h => hFc q h) hFc (fun r9 u9 t9 H9 locs ht9 hvm9 hw9 hB9 hz9 hk9 hS => ?_)
          obtain rfl := hw9
          obtain ⟨hf316_0, hP1, hD1⟩ := hB9
          rw [ht9] at hP1
          obtain ⟨hPj, hDj⟩ := va_join (wr := [_, _, _, _, _, _, _, _, _, _]) hP hD [0, 1, 2, 3, 4, 5, 6, 7, 8, 9, 10, 11, 12, 13] [14, 15, 16, 17, 18, 19, 20, 21, 22, 23] rfl rfl (by decide) (by decide) hk9 hFc hP1 hD1
          have hXI2 := XI.call hXI (fun q z => hM1 q (Mw_xW q z)) hz9 hk9
          generalize H9 = H at *
          have hP : va_P D classes (xW cs ad len pl rlen rpc run_ rbo rcw rt tx gp nu un gq swl sun sbo scw bo cu lo wh dps alk bof us bl lg ++ mW cs ad2 len m_spot un m_bo m_cu m_lo m_wh tx now m_rd bf m_bl m_us m_lg m_bd m_dp) H := hPj.sub [10, 11, 12, 13, 14, 15, 16, 17, 18, 19, 20, 21, 22, 23, 0, 1, 2, 3, 4, 5, 6, 7, 8, 9] rfl
          have hD : va_D A (xW cs ad len pl rlen rpc run_ rbo rcw rt tx gp nu un gq swl sun sbo scw bo cu lo wh dps alk bof us bl lg ++ mW cs ad2 len m_spot un m_bo m_cu m_lo m_wh tx now m_rd bf m_bl m_us m_lg m_bd m_dp) := hDj.sub [10, 11, 12, 13, 14, 15, 16, 17, 18, 19, 20, 21, 22, 23, 0, 1, 2, 3, 4, 5, 6, 7, 8, 9] (by decide) rfl
          have hXI := hXI2
          subst hf316_0
          refine lv_aload_n hx hb dL_law_319 rfl (lv_at hl 2 rfl) ?_
          refine lv_aload_n hx hb dL_law_320 rfl (lv_at hl 0 rfl) ?_
          refine lv_iload_n hx hb dL_law_321 rfl (lv_at hl 3 rfl) ?_
          refine rv_iconst hx hb dL_law_322 ?_
          refine rv_iadd hx hb dL_law_323 ?_
          refine rv_sld hx hb hX hbl hbA hS (4 * n + 1) (by omega) (by omega) ez1 dL_law_324 ?_
          refine vp_callSi (W.runV (As := [.int (iI z1)]) (rest := [.int (iI (aSquares z1))]) ⟨hx, hb, hml, hown, hts⟩ (c_X7_squares l (ad2 0) z1 (by omega)) (cwV 1 hts (gVl tb_637 tb_638 tb_639 tb_8 tb_640) rfl rfl rfl (by decide +kernel) ⟨Nat.le_of_ble_eq_true rfl, Nat.le_of_ble_eq_true rfl⟩) (preV_0 (va_recv hK hP (ci := 6) (q0 := 14) rfl rfl)) rfl rfl hl.1 rfl (lv_room (Nat.le_of_ble_eq_true rfl)) dL_law_325 ⟨by exact Nat.le_trans (m := 200000) (by omega) lw_rmC, by exact Nat.le_trans (m := 2500000) (by omega) lw_rmS⟩) (fun r9 hr9 => ?_)
          subst hr9
          refine lv_icmp_eq (tgt := 762) hx hb dL_law_328 (by decide) (fun _ => ?_) (fun h => absurd rfl h)
          refine rv_iinc (k := 3) (lv' := [(3, .int (iI (((4 * n : Nat) : Int) + 4))), (0, .ref b), (1, .ref (ad 0)), (2, .ref (ad2 0))]) hx hb dL_law_762 hl rfl (by decide) rfl (fun ls hl => ?_)
          refine lv_goto (tgt := 18) hx hb dL_law_765 (by decide) ?_
          refine W.widen (k := 32 + 236 * (n + 1)) (n := 2404 + 4454 * (n + 1)) (by omega) (by omega) ?_
          exact ih18 (n + 1) pl rlen rpc run_ rbo rcw rt gp nu gq swl sun sbo scw bo cu lo wh dps alk bof us bl lg m_spot m_bo m_cu m_lo m_wh m_rd m_bl m_us m_lg m_bd m_dp len un tx now bf (by omega) htx hlen hun hnu (by omega) _ (by omega) H locs hP hD hS hXI ls (lv_sub hl [1, 2, 3, 0] rfl)
        by_cases hc9 : (andI z0 31) = 9
        · refine rv_top (y := 9) hc9 ?_
          refine lv_tableIn (tgt := 333) hx hb dL_law_32 (by decide) (by decide) rfl (by decide) ?_
          refine lv_aload_n hx hb dL_law_333 rfl (lv_at hl 1 rfl) ?_
          refine lv_aload_n hx hb dL_law_334 rfl (lv_at hl 0 rfl) ?_
          refine lv_iload_n hx hb dL_law_335 rfl (lv_at hl 3 rfl) ?_
          refine rv_iconst hx hb dL_law_336 ?_
          refine rv_iadd hx hb dL_law_337 ?_
          refine rv_sld hx hb hX hbl hbA hS (4 * n + 1) (by omega) (by omega) ez1 dL_law_338 ?_
          refine lv_aload_n hx hb dL_law_339 rfl (lv_at hl 0 rfl) ?_
          refine lv_iload_n hx hb dL_law_340 rfl (lv_at hl 3 rfl) ?_
          refine rv_iconst hx hb dL_law_341 ?_
          refine rv_iadd hx hb dL_law_342 ?_
          refine rv_sld hx hb hX hbl hbA hS (4 * n + 2) (by omega) (by omega) ez2 dL_law_343 ?_
          have hFc := va_free (wc := (xW cs ad len pl rlen rpc run_ rbo rcw rt tx gp nu un gq swl sun sbo scw bo cu lo wh dps alk bof us bl lg)) hD hS hA [0, 1, 2, 3, 4, 5, 6, 7, 8, 9, 10, 11, 12, 13] rfl
          have hPc := hP.sub (ws' := (xW cs ad len pl rlen rpc run_ rbo rcw rt tx gp nu un gq swl sun sbo scw bo cu lo wh dps alk bof us bl lg)) [0, 1, 2, 3, 4, 5, 6, 7, 8, 9, 10, 11, 12, 13] rfl
          have hDc := hD.sub (ws' := (xW cs ad len pl rlen rpc run_ rbo rcw rt tx gp nu un gq swl sun sbo scw bo cu lo wh dps alk bof us bl lg)) [0, 1, 2, 3, 4, 5, 6, 7, 8, 9, 10, 11, 12, 13] (by decide) rfl
          refine va_calli (va_runV (As := [.int (iI z1), .int (iI z2)]) (rest := []) ⟨hx, hb, hml, hown, hts⟩ (c_X6_sign l D cs ad H.size len pl rlen rpc run_ rbo rcw rt tx gp nu un gq swl sun sbo scw bo cu lo wh dps alk bof us bl lg M now bf z1 z2 hM1 hun hlen (by omega) (by omega)) (cwV 2 hts (gVl tb_392 tb_393 tb_394 tb_1 tb_395) rfl rfl rfl (by decide +kernel) ⟨Nat.le_of_ble_eq_true rfl, Nat.le_of_ble_eq_true rfl⟩) (preV_M (X := fun U H => XI D cs M pl now un gq bf U H) XI_stb hK (va_recv hK hPc (ci := 5) (q0 := 0) rfl rfl) hPc hDc hXI) rfl rfl hl.1 rfl (lv_room (Nat.le_of_ble_eq_true rfl)) dL_law_344 ⟨by exact Nat.le_trans (m := 200000) (by omega) lw_rmC, by exact Nat.le_trans (m := 2500000) (by omega) lw_rmS⟩) hS (fun q _ h => hFc q h) hFc (fun r9 u9 t9 H9 locs ht9 hvm9 hw9 hB9 hz9 hk9 hS => ?_)
          obtain rfl := hw9
          obtain ⟨hf344_0, hP1, hD1⟩ := hB9
          rw [ht9] at hP1
          obtain ⟨hPj, hDj⟩ := va_join (wr := [_, _, _, _, _, _, _, _, _, _]) hP hD [0, 1, 2, 3, 4, 5, 6, 7, 8, 9, 10, 11, 12, 13] [14, 15, 16, 17, 18, 19, 20, 21, 22, 23] rfl rfl (by decide) (by decide) hk9 hFc hP1 hD1
          have hXI2 := XI.call hXI (fun q z => hM1 q (Mw_xW q z)) hz9 hk9
          generalize H9 = H at *
          have hP : va_P D classes (xW cs ad len pl rlen rpc run_ rbo rcw rt tx gp nu un gq swl sun sbo scw bo cu lo wh dps alk bof us bl lg ++ mW cs ad2 len m_spot un m_bo m_cu m_lo m_wh tx now m_rd bf m_bl m_us m_lg m_bd m_dp) H := hPj.sub [10, 11, 12, 13, 14, 15, 16, 17, 18, 19, 20, 21, 22, 23, 0, 1, 2, 3, 4, 5, 6, 7, 8, 9] rfl
          have hD : va_D A (xW cs ad len pl rlen rpc run_ rbo rcw rt tx gp nu un gq swl sun sbo scw bo cu lo wh dps alk bof us bl lg ++ mW cs ad2 len m_spot un m_bo m_cu m_lo m_wh tx now m_rd bf m_bl m_us m_lg m_bd m_dp) := hDj.sub [10, 11, 12, 13, 14, 15, 16, 17, 18, 19, 20, 21, 22, 23, 0, 1, 2, 3, 4, 5, 6, 7, 8, 9] (by decide) rfl
          have hXI := hXI2
          subst hf344_0
          refine lv_aload_n hx hb dL_law_347 rfl (lv_at hl 2 rfl) ?_
          refine lv_aload_n hx hb dL_law_348 rfl (lv_at hl 0 rfl) ?_
          refine lv_iload_n hx hb dL_law_349 rfl (lv_at hl 3 rfl) ?_
          refine rv_iconst hx hb dL_law_350 ?_
          refine rv_iadd hx hb dL_law_351 ?_
          refine rv_sld hx hb hX hbl hbA hS (4 * n + 1) (by omega) (by omega) ez1 dL_law_352 ?_
          refine lv_aload_n hx hb dL_law_353 rfl (lv_at hl 0 rfl) ?_
          refine lv_iload_n hx hb dL_law_354 rfl (lv_at hl 3 rfl) ?_
          refine rv_iconst hx hb dL_law_355 ?_
          refine rv_iadd hx hb dL_law_356 ?_
          refine rv_sld hx hb hX hbl hbA hS (4 * n + 2) (by omega) (by omega) ez2 dL_law_357 ?_
          refine vp_callSi (W.runV (As := [.int (iI z1), .int (iI z2)]) (rest := [.int (iI (aSign z1 z2))]) ⟨hx, hb, hml, hown, hts⟩ (c_X7_sign l (ad2 0) z1 z2 (by omega) (by omega)) (cwV 2 hts (gVl tb_644 tb_645 tb_646 tb_8 tb_647) rfl rfl rfl (by decide +kernel) ⟨Nat.le_of_ble_eq_true rfl, Nat.le_of_ble_eq_true rfl⟩) (preV_0 (va_recv hK hP (ci := 6) (q0 := 14) rfl rfl)) rfl rfl hl.1 rfl (lv_room (Nat.le_of_ble_eq_true rfl)) dL_law_358 ⟨by exact Nat.le_trans (m := 200000) (by omega) lw_rmC, by exact Nat.le_trans (m := 2500000) (by omega) lw_rmS⟩) (fun r9 hr9 => ?_)
          subst hr9
          refine lv_icmp_eq (tgt := 762) hx hb dL_law_361 (by decide) (fun _ => ?_) (fun h => absurd rfl h)
          refine rv_iinc (k := 3) (lv' := [(3, .int (iI (((4 * n : Nat) : Int) + 4))), (0, .ref b), (1, .ref (ad 0)), (2, .ref (ad2 0))]) hx hb dL_law_762 hl rfl (by decide) rfl (fun ls hl => ?_)
          refine lv_goto (tgt := 18) hx hb dL_law_765 (by decide) ?_
          refine W.widen (k := 32 + 236 * (n + 1)) (n := 2404 + 4454 * (n + 1)) (by omega) (by omega) ?_
          exact ih18 (n + 1) pl rlen rpc run_ rbo rcw rt gp nu gq swl sun sbo scw bo cu lo wh dps alk bof us bl lg m_spot m_bo m_cu m_lo m_wh m_rd m_bl m_us m_lg m_bd m_dp len un tx now bf (by omega) htx hlen hun hnu (by omega) _ (by omega) H locs hP hD hS hXI ls (lv_sub hl [1, 2, 3, 0] rfl)
        by_cases hc10 : (andI z0 31) = 10
        · refine rv_top (y := 10) hc10 ?_
          refine lv_tableIn (tgt := 366) hx hb dL_law_32 (by decide) (by decide) rfl (by decide) ?_
          refine lv_aload_n hx hb dL_law_366 rfl (lv_at hl 1 rfl) ?_
          refine lv_aload_n hx hb dL_law_367 rfl (lv_at hl 0 rfl) ?_
          refine lv_iload_n hx hb dL_law_368 rfl (lv_at hl 3 rfl) ?_
          refine rv_iconst hx hb dL_law_369 ?_
          refine rv_iadd hx hb dL_law_370 ?_
          refine rv_sld hx hb hX hbl hbA hS (4 * n + 1) (by omega) (by omega) ez1 dL_law_371 ?_
          refine lv_aload_n hx hb dL_law_372 rfl (lv_at hl 0 rfl) ?_
          refine lv_iload_n hx hb dL_law_373 rfl (lv_at hl 3 rfl) ?_
          refine rv_iconst hx hb dL_law_374 ?_
          refine rv_iadd hx hb dL_law_375 ?_
          refine rv_sld hx hb hX hbl hbA hS (4 * n + 2) (by omega) (by omega) ez2 dL_law_376 ?_
          have hFc := va_free (wc := (xW cs ad len pl rlen rpc run_ rbo rcw rt tx gp nu un gq swl sun sbo scw bo cu lo wh dps alk bof us bl lg)) hD hS hA [0, 1, 2, 3, 4, 5, 6, 7, 8, 9, 10, 11, 12, 13] rfl
          have hPc := hP.sub (ws' := (xW cs ad len pl rlen rpc run_ rbo rcw rt tx gp nu un gq swl sun sbo scw bo cu lo wh dps alk bof us bl lg)) [0, 1, 2, 3, 4, 5, 6, 7, 8, 9, 10, 11, 12, 13] rfl
          have hDc := hD.sub (ws' := (xW cs ad len pl rlen rpc run_ rbo rcw rt tx gp nu un gq swl sun sbo scw bo cu lo wh dps alk bof us bl lg)) [0, 1, 2, 3, 4, 5, 6, 7, 8, 9, 10, 11, 12, 13] (by decide) rfl
          refine va_calli (va_runV (As := [.int (iI z1), .int (iI z2)]) (rest := []) ⟨hx, hb, hml, hown, hts⟩ (c_X6_root l D cs ad H.size len pl rlen rpc run_ rbo rcw rt tx gp nu un gq swl sun sbo scw bo cu lo wh dps alk bof us bl lg M now bf z1 z2 hM1 hun hlen (by omega) (by omega)) (cwV 2 hts (gVl tb_401 tb_402 tb_403 tb_1 tb_404) rfl rfl rfl (by decide +kernel) ⟨Nat.le_of_ble_eq_true rfl, Nat.le_of_ble_eq_true rfl⟩) (preV_M (X := fun U H => XI D cs M pl now un gq bf U H) XI_stb hK (va_recv hK hPc (ci := 5) (q0 := 0) rfl rfl) hPc hDc hXI) rfl rfl hl.1 rfl (lv_room (Nat.le_of_ble_eq_true rfl)) dL_law_377 ⟨by exact Nat.le_trans (m := 200000) (by omega) lw_rmC, by exact Nat.le_trans (m := 2500000) (by omega) lw_rmS⟩) hS (fun q _ h => hFc q h) hFc (fun r9 u9 t9 H9 locs ht9 hvm9 hw9 hB9 hz9 hk9 hS => ?_)
          obtain rfl := hw9
          obtain ⟨hf377_0, hP1, hD1⟩ := hB9
          rw [ht9] at hP1
          obtain ⟨hPj, hDj⟩ := va_join (wr := [_, _, _, _, _, _, _, _, _, _]) hP hD [0, 1, 2, 3, 4, 5, 6, 7, 8, 9, 10, 11, 12, 13] [14, 15, 16, 17, 18, 19, 20, 21, 22, 23] rfl rfl (by decide) (by decide) hk9 hFc hP1 hD1
          have hXI2 := XI.call hXI (fun q z => hM1 q (Mw_xW q z)) hz9 hk9
          generalize H9 = H at *
          have hP : va_P D classes (xW cs ad len pl rlen rpc run_ rbo rcw rt tx gp nu un gq swl sun sbo scw bo cu lo wh dps alk bof us bl lg ++ mW cs ad2 len m_spot un m_bo m_cu m_lo m_wh tx now m_rd bf m_bl m_us m_lg m_bd m_dp) H := hPj.sub [10, 11, 12, 13, 14, 15, 16, 17, 18, 19, 20, 21, 22, 23, 0, 1, 2, 3, 4, 5, 6, 7, 8, 9] rfl
          have hD : va_D A (xW cs ad len pl rlen rpc run_ rbo rcw rt tx gp nu un gq swl sun sbo scw bo cu lo wh dps alk bof us bl lg ++ mW cs ad2 len m_spot un m_bo m_cu m_lo m_wh tx now m_rd bf m_bl m_us m_lg m_bd m_dp) := hDj.sub [10, 11, 12, 13, 14, 15, 16, 17, 18, 19, 20, 21, 22, 23, 0, 1, 2, 3, 4, 5, 6, 7, 8, 9] (by decide) rfl
          have hXI := hXI2
          subst hf377_0
          refine lv_aload_n hx hb dL_law_380 rfl (lv_at hl 2 rfl) ?_
          refine lv_aload_n hx hb dL_law_381 rfl (lv_at hl 0 rfl) ?_
          refine lv_iload_n hx hb dL_law_382 rfl (lv_at hl 3 rfl) ?_
          refine rv_iconst hx hb dL_law_383 ?_
          refine rv_iadd hx hb dL_law_384 ?_
          refine rv_sld hx hb hX hbl hbA hS (4 * n + 1) (by omega) (by omega) ez1 dL_law_385 ?_
          refine lv_aload_n hx hb dL_law_386 rfl (lv_at hl 0 rfl) ?_
          refine lv_iload_n hx hb dL_law_387 rfl (lv_at hl 3 rfl) ?_
          refine rv_iconst hx hb dL_law_388 ?_
          refine rv_iadd hx hb dL_law_389 ?_
          refine rv_sld hx hb hX hbl hbA hS (4 * n + 2) (by omega) (by omega) ez2 dL_law_390 ?_
          refine vp_callSi (W.runV (As := [.int (iI z1), .int (iI z2)]) (rest := [.int (iI (aRoot z1 z2))]) ⟨hx, hb, hml, hown, hts⟩ (c_X7_root l (ad2 0) z1 z2 (by omega) (by omega)) (cwV 2 hts (gVl tb_655 tb_656 tb_657 tb_8 tb_658) rfl rfl rfl (by decide +kernel) ⟨Nat.le_of_ble_eq_true rfl, Nat.le_of_ble_eq_true rfl⟩) (preV_0 (va_recv hK hP (ci := 6) (q0 := 14) rfl rfl)) rfl rfl hl.1 rfl (lv_room (Nat.le_of_ble_eq_true rfl)) dL_law_391 ⟨by exact Nat.le_trans (m := 200000) (by omega) lw_rmC, by exact Nat.le_trans (m := 2500000) (by omega) lw_rmS⟩) (fun r9 hr9 => ?_)
          subst hr9
          refine lv_icmp_eq (tgt := 762) hx hb dL_law_394 (by decide) (fun _ => ?_) (fun h => absurd rfl h)
          refine rv_iinc (k := 3) (lv' := [(3, .int (iI (((4 * n : Nat) : Int) + 4))), (0, .ref b), (1, .ref (ad 0)), (2, .ref (ad2 0))]) hx hb dL_law_762 hl rfl (by decide) rfl (fun ls hl => ?_)
          refine lv_goto (tgt := 18) hx hb dL_law_765 (by decide) ?_
          refine W.widen (k := 32 + 236 * (n + 1)) (n := 2404 + 4454 * (n + 1)) (by omega) (by omega) ?_
          exact ih18 (n + 1) pl rlen rpc run_ rbo rcw rt gp nu gq swl sun sbo scw bo cu lo wh dps alk bof us bl lg m_spot m_bo m_cu m_lo m_wh m_rd m_bl m_us m_lg m_bd m_dp len un tx now bf (by omega) htx hlen hun hnu (by omega) _ (by omega) H locs hP hD hS hXI ls (lv_sub hl [1, 2, 3, 0] rfl)
        by_cases hc11 : (andI z0 31) = 11
        · refine rv_top (y := 11) hc11 ?_
          refine lv_tableIn (tgt := 399) hx hb dL_law_32 (by decide) (by decide) rfl (by decide) ?_
          refine lv_aload_n hx hb dL_law_399 rfl (lv_at hl 1 rfl) ?_
          refine lv_aload_n hx hb dL_law_400 rfl (lv_at hl 0 rfl) ?_
          refine lv_iload_n hx hb dL_law_401 rfl (lv_at hl 3 rfl) ?_
          refine rv_iconst hx hb dL_law_402 ?_
          refine rv_iadd hx hb dL_law_403 ?_
          refine rv_sld hx hb hX hbl hbA hS (4 * n + 1) (by omega) (by omega) ez1 dL_law_404 ?_
          refine lv_aload_n hx hb dL_law_405 rfl (lv_at hl 0 rfl) ?_
          refine lv_iload_n hx hb dL_law_406 rfl (lv_at hl 3 rfl) ?_
          refine rv_iconst hx hb dL_law_407 ?_
          refine rv_iadd hx hb dL_law_408 ?_
          refine rv_sld hx hb hX hbl hbA hS (4 * n + 2) (by omega) (by omega) ez2 dL_law_409 ?_
          have hFc := va_free (wc := (xW cs ad len pl rlen rpc run_ rbo rcw rt tx gp nu un gq swl sun sbo scw bo cu lo wh dps alk bof us bl lg)) hD hS hA [0, 1, 2, 3, 4, 5, 6, 7, 8, 9, 10, 11, 12, 13] rfl
          have hPc := hP.sub (ws' := (xW cs ad len pl rlen rpc run_ rbo rcw rt tx gp nu un gq swl sun sbo scw bo cu lo wh dps alk bof us bl lg)) [0, 1, 2, 3, 4, 5, 6, 7, 8, 9, 10, 11, 12, 13] rfl
          have hDc := hD.sub (ws' := (xW cs ad len pl rlen rpc run_ rbo rcw rt tx gp nu un gq swl sun sbo scw bo cu lo wh dps alk bof us bl lg)) [0, 1, 2, 3, 4, 5, 6, 7, 8, 9, 10, 11, 12, 13] (by decide) rfl
          refine va_calli (va_runV (As := [.int (iI z1), .int (iI z2)]) (rest := []) ⟨hx, hb, hml, hown, hts⟩ (c_X6_law l D cs ad H.size len pl rlen rpc run_ rbo rcw rt tx gp nu un gq swl sun sbo scw bo cu lo wh dps alk bof us bl lg M now bf z1 z2 hM1 hun hlen (by omega) (by omega)) (cwV 2 hts (gVl tb_412 tb_413 tb_414 tb_1 tb_415) rfl rfl rfl (by decide +kernel) ⟨Nat.le_of_ble_eq_true rfl, Nat.le_of_ble_eq_true rfl⟩) (preV_M (X := fun U H => XI D cs M pl now un gq bf U H) XI_stb hK (va_recv hK hPc (ci := 5) (q0 := 0) rfl rfl) hPc hDc hXI) rfl rfl hl.1 rfl (lv_room (Nat.le_of_ble_eq_true rfl)) dL_law_410 ⟨by exact Nat.le_trans (m := 200000) (by omega) lw_rmC, by exact Nat.le_trans (m := 2500000) (by omega) lw_rmS⟩) hS (fun q _ h => hFc q h) hFc (fun r9 u9 t9 H9 locs ht9 hvm9 hw9 hB9 hz9 hk9 hS => ?_)
          obtain rfl := hw9
          obtain ⟨hf410_0, hP1, hD1⟩ := hB9
          rw [ht9] at hP1
          obtain ⟨hPj, hDj⟩ := va_join (wr := [_, _, _, _, _, _, _, _, _, _]) hP hD [0, 1, 2, 3, 4, 5, 6, 7, 8, 9, 10, 11, 12, 13] [14, 15, 16, 17, 18, 19, 20, 21, 22, 23] rfl rfl (by decide) (by decide) hk9 hFc hP1 hD1
          have hXI2 := XI.call hXI (fun q z => hM1 q (Mw_xW q z)) hz9 hk9
          generalize H9 = H at *
          have hP : va_P D classes (xW cs ad len pl rlen rpc run_ rbo rcw rt tx gp nu un gq swl sun sbo scw bo cu lo wh dps alk bof us bl lg ++ mW cs ad2 len m_spot un m_bo m_cu m_lo m_wh tx now m_rd bf m_bl m_us m_lg m_bd m_dp) H := hPj.sub [10, 11, 12, 13, 14, 15, 16, 17, 18, 19, 20, 21, 22, 23, 0, 1, 2, 3, 4, 5, 6, 7, 8, 9] rfl
          have hD : va_D A (xW cs ad len pl rlen rpc run_ rbo rcw rt tx gp nu un gq swl sun sbo scw bo cu lo wh dps alk bof us bl lg ++ mW cs ad2 len m_spot un m_bo m_cu m_lo m_wh tx now m_rd bf m_bl m_us m_lg m_bd m_dp) := hDj.sub [10, 11, 12, 13, 14, 15, 16, 17, 18, 19, 20, 21, 22, 23, 0, 1, 2, 3, 4, 5, 6, 7, 8, 9] (by decide) rfl
          have hXI := hXI2
          subst hf410_0
          refine lv_aload_n hx hb dL_law_413 rfl (lv_at hl 2 rfl) ?_
          refine lv_aload_n hx hb dL_law_414 rfl (lv_at hl 0 rfl) ?_
          refine lv_iload_n hx hb dL_law_415 rfl (lv_at hl 3 rfl) ?_
          refine rv_iconst hx hb dL_law_416 ?_
          refine rv_iadd hx hb dL_law_417 ?_
          refine rv_sld hx hb hX hbl hbA hS (4 * n + 1) (by omega) (by omega) ez1 dL_law_418 ?_
          refine lv_aload_n hx hb dL_law_419 rfl (lv_at hl 0 rfl) ?_
          refine lv_iload_n hx hb dL_law_420 rfl (lv_at hl 3 rfl) ?_
          refine rv_iconst hx hb dL_law_421 ?_
          refine rv_iadd hx hb dL_law_422 ?_
          refine rv_sld hx hb hX hbl hbA hS (4 * n + 2) (by omega) (by omega) ez2 dL_law_423 ?_
          refine vp_callSi (W.runV (As := [.int (iI z1), .int (iI z2)]) (rest := [.int (iI (aLaw z1 z2))]) ⟨hx, hb, hml, hown, hts⟩ (c_X7_law l (ad2 0) z1 z2 (by omega) (by omega)) (cwV 2 hts (gVl tb_663 tb_664 tb_665 tb_8 tb_666) rfl rfl rfl (by decide +kernel) ⟨Nat.le_of_ble_eq_true rfl, Nat.le_of_ble_eq_true rfl⟩) (preV_0 (va_recv hK hP (ci := 6) (q0 := 14) rfl rfl)) rfl rfl hl.1 rfl (lv_room (Nat.le_of_ble_eq_true rfl)) dL_law_424 ⟨by exact Nat.le_trans (m := 200000) (by omega) lw_rmC, by exact Nat.le_trans (m := 2500000) (by omega) lw_rmS⟩) (fun r9 hr9 => ?_)
          subst hr9
          refine lv_icmp_eq (tgt := 762) hx hb dL_law_427 (by decide) (fun _ => ?_) (fun h => absurd rfl h)
          refine rv_iinc (k := 3) (lv' := [(3, .int (iI (((4 * n : Nat) : Int) + 4))), (0, .ref b), (1, .ref (ad 0)), (2, .ref (ad2 0))]) hx hb dL_law_762 hl rfl (by decide) rfl (fun ls hl => ?_)
          refine lv_goto (tgt := 18) hx hb dL_law_765 (by decide) ?_
          refine W.widen (k := 32 + 236 * (n + 1)) (n := 2404 + 4454 * (n + 1)) (by omega) (by omega) ?_
          exact ih18 (n + 1) pl rlen rpc run_ rbo rcw rt gp nu gq swl sun sbo scw bo cu lo wh dps alk bof us bl lg m_spot m_bo m_cu m_lo m_wh m_rd m_bl m_us m_lg m_bd m_dp len un tx now bf (by omega) htx hlen hun hnu (by omega) _ (by omega) H locs hP hD hS hXI ls (lv_sub hl [1, 2, 3, 0] rfl)
        by_cases hc12 : (andI z0 31) = 12
        · refine rv_top (y := 12) hc12 ?_
          refine lv_tableIn (tgt := 432) hx hb dL_law_32 (by decide) (by decide) rfl (by decide) ?_
          refine lv_aload_n hx hb dL_law_432 rfl (lv_at hl 1 rfl) ?_
          refine lv_aload_n hx hb dL_law_433 rfl (lv_at hl 0 rfl) ?_
          refine lv_iload_n hx hb dL_law_434 rfl (lv_at hl 3 rfl) ?_
          refine rv_iconst hx hb dL_law_435 ?_
          refine rv_iadd hx hb dL_law_436 ?_
          refine rv_sld hx hb hX hbl hbA hS (4 * n + 1) (by omega) (by omega) ez1 dL_law_437 ?_
          refine lv_aload_n hx hb dL_law_438 rfl (lv_at hl 0 rfl) ?_
          refine lv_iload_n hx hb dL_law_439 rfl (lv_at hl 3 rfl) ?_
          refine rv_iconst hx hb dL_law_440 ?_
          refine rv_iadd hx hb dL_law_441 ?_
          refine rv_sld hx hb hX hbl hbA hS (4 * n + 2) (by omega) (by omega) ez2 dL_law_442 ?_
          have hFc := va_free (wc := (xW cs ad len pl rlen rpc run_ rbo rcw rt tx gp nu un gq swl sun sbo scw bo cu lo wh dps alk bof us bl lg)) hD hS hA [0, 1, 2, 3, 4, 5, 6, 7, 8, 9, 10, 11, 12, 13] rfl
          have hPc := hP.sub (ws' := (xW cs ad len pl rlen rpc run_ rbo rcw rt tx gp nu un gq swl sun sbo scw bo cu lo wh dps alk bof us bl lg)) [0, 1, 2, 3, 4, 5, 6, 7, 8, 9, 10, 11, 12, 13] rfl
          have hDc := hD.sub (ws' := (xW cs ad len pl rlen rpc run_ rbo rcw rt tx gp nu un gq swl sun sbo scw bo cu lo wh dps alk bof us bl lg)) [0, 1, 2, 3, 4, 5, 6, 7, 8, 9, 10, 11, 12, 13] (by decide) rfl
          refine va_calli (va_runV (As := [.int (iI z1), .int (iI z2)]) (rest := []) ⟨hx, hb, hml, hown, hts⟩ (c_X6_panel l D cs ad H.size len pl rlen rpc run_ rbo rcw rt tx gp nu un gq swl sun sbo scw bo cu lo wh dps alk bof us bl lg M now bf z1 z2 hM1 hun hlen (by omega) (by omega)) (cwV 2 hts (gVl tb_416 tb_417 tb_418 tb_1 tb_419) rfl rfl rfl (by decide +kernel) ⟨Nat.le_of_ble_eq_true rfl, Nat.le_of_ble_eq_true rfl⟩) (preV_M (X := fun U H => XI D cs M pl now un gq bf U H) XI_stb hK (va_recv hK hPc (ci := 5) (q0 := 0) rfl rfl) hPc hDc hXI) rfl rfl hl.1 rfl (lv_room (Nat.le_of_ble_eq_true rfl)) dL_law_443 ⟨by exact Nat.le_trans (m := 200000) (by omega) lw_rmC, by exact Nat.le_trans (m := 2500000) (by omega) lw_rmS⟩) hS (fun q _ h => hFc q h) hFc (fun r9 u9 t9 H9 locs ht9 hvm9 hw9 hB9 hz9 hk9 hS => ?_)
          obtain rfl := hw9
          obtain ⟨hf443_0, hP1, hD1⟩ := hB9
          rw [ht9] at hP1
          obtain ⟨hPj, hDj⟩ := va_join (wr := [_, _, _, _, _, _, _, _, _, _]) hP hD [0, 1, 2, 3, 4, 5, 6, 7, 8, 9, 10, 11, 12, 13] [14, 15, 16, 17, 18, 19, 20, 21, 22, 23] rfl rfl (by decide) (by decide) hk9 hFc hP1 hD1
          have hXI2 := XI.call hXI (fun q z => hM1 q (Mw_xW q z)) hz9 hk9
          generalize H9 = H at *
          have hP : va_P D classes (xW cs ad len pl rlen rpc run_ rbo rcw rt tx gp nu un gq swl sun sbo scw bo cu lo wh dps alk bof us bl lg ++ mW cs ad2 len m_spot un m_bo m_cu m_lo m_wh tx now m_rd bf m_bl m_us m_lg m_bd m_dp) H := hPj.sub [10, 11, 12, 13, 14, 15, 16, 17, 18, 19, 20, 21, 22, 23, 0, 1, 2, 3, 4, 5, 6, 7, 8, 9] rfl
          have hD : va_D A (xW cs ad len pl rlen rpc run_ rbo rcw rt tx gp nu un gq swl sun sbo scw bo cu lo wh dps alk bof us bl lg ++ mW cs ad2 len m_spot un m_bo m_cu m_lo m_wh tx now m_rd bf m_bl m_us m_lg m_bd m_dp) := hDj.sub [10, 11, 12, 13, 14, 15, 16, 17, 18, 19, 20, 21, 22, 23, 0, 1, 2, 3, 4, 5, 6, 7, 8, 9] (by decide) rfl
          have hXI := hXI2
          subst hf443_0
          refine lv_aload_n hx hb dL_law_446 rfl (lv_at hl 2 rfl) ?_
          refine lv_aload_n hx hb dL_law_447 rfl (lv_at hl 0 rfl) ?_
          refine lv_iload_n hx hb dL_law_448 rfl (lv_at hl 3 rfl) ?_
          refine rv_iconst hx hb dL_law_449 ?_
          refine rv_iadd hx hb dL_law_450 ?_
          refine rv_sld hx hb hX hbl hbA hS (4 * n + 1) (by omega) (by omega) ez1 dL_law_451 ?_
          refine lv_aload_n hx hb dL_law_452 rfl (lv_at hl 0 rfl) ?_
          refine lv_iload_n hx hb dL_law_453 rfl (lv_at hl 3 rfl) ?_
          refine rv_iconst hx hb dL_law_454 ?_
          refine rv_iadd hx hb dL_law_455 ?_
          refine rv_sld hx hb hX hbl hbA hS (4 * n + 2) (by omega) (by omega) ez2 dL_law_456 ?_
          refine vp_callSi (W.runV (As := [.int (iI z1), .int (iI z2)]) (rest := [.int (iI (aPanel now z1 z2))]) ⟨hx, hb, hml, hown, hts⟩ (c_X7_panel l D cs (ad2 0) (ad2 2) _ now z1 z2 (by omega) (by omega)) (cwV 2 hts (gVl tb_764 tb_765 tb_766 tb_8 tb_767) rfl rfl rfl (by decide +kernel) ⟨Nat.le_of_ble_eq_true rfl, Nat.le_of_ble_eq_true rfl⟩) (preV_mod hK ⟨hP.sub [14, 16] rfl, rfl, hvL⟩) rfl rfl hl.1 rfl (lv_room (Nat.le_of_ble_eq_true rfl)) dL_law_457 ⟨by exact Nat.le_trans (m := 200000) (by omega) lw_rmC, by exact Nat.le_trans (m := 2500000) (by omega) lw_rmS⟩) (fun r9 hr9 => ?_)
          subst hr9
          refine lv_icmp_eq (tgt := 762) hx hb dL_law_460 (by decide) (fun _ => ?_) (fun h => absurd rfl h)
          refine rv_iinc (k := 3) (lv' := [(3, .int (iI (((4 * n : Nat) : Int) + 4))), (0, .ref b), (1, .ref (ad 0)), (2, .ref (ad2 0))]) hx hb dL_law_762 hl rfl (by decide) rfl (fun ls hl => ?_)
          refine lv_goto (tgt := 18) hx hb dL_law_765 (by decide) ?_
          refine W.widen (k := 32 + 236 * (n + 1)) (n := 2404 + 4454 * (n + 1)) (by omega) (by omega) ?_
          exact ih18 (n + 1) pl rlen rpc run_ rbo rcw rt gp nu gq swl sun sbo scw bo cu lo wh dps alk bof us bl lg m_spot m_bo m_cu m_lo m_wh m_rd m_bl m_us m_lg m_bd m_dp len un tx now bf (by omega) htx hlen hun hnu (by omega) _ (by omega) H locs hP hD hS hXI ls (lv_sub hl [1, 2, 3, 0] rfl)
        by_cases hc13 : (andI z0 31) = 13
        · refine rv_top (y := 13) hc13 ?_
          refine lv_tableIn (tgt := 465) hx hb dL_law_32 (by decide) (by decide) rfl (by decide) ?_
          refine lv_aload_n hx hb dL_law_465 rfl (lv_at hl 1 rfl) ?_
          refine lv_aload_n hx hb dL_law_466 rfl (lv_at hl 0 rfl) ?_
          refine lv_iload_n hx hb dL_law_467 rfl (lv_at hl 3 rfl) ?_
          refine rv_iconst hx hb dL_law_468 ?_
          refine rv_iadd hx hb dL_law_469 ?_
          refine rv_sld hx hb hX hbl hbA hS (4 * n + 1) (by omega) (by omega) ez1 dL_law_470 ?_
          refine lv_aload_n hx hb dL_law_471 rfl (lv_at hl 0 rfl) ?_
          refine lv_iload_n hx hb dL_law_472 rfl (lv_at hl 3 rfl) ?_
          refine rv_iconst hx hb dL_law_473 ?_
          refine rv_iadd hx hb dL_law_474 ?_
          refine rv_sld hx hb hX hbl hbA hS (4 * n + 2) (by omega) (by omega) ez2 dL_law_475 ?_
          have hFc := va_free (wc := (xW cs ad len pl rlen rpc run_ rbo rcw rt tx gp nu un gq swl sun sbo scw bo cu lo wh dps alk bof us bl lg)) hD hS hA [0, 1, 2, 3, 4, 5, 6, 7, 8, 9, 10, 11, 12, 13] rfl
          have hPc := hP.sub (ws' := (xW cs ad len pl rlen rpc run_ rbo rcw rt tx gp nu un gq swl sun sbo scw bo cu lo wh dps alk bof us bl lg)) [0, 1, 2, 3, 4, 5, 6, 7, 8, 9, 10, 11, 12, 13] rfl
          have hDc := hD.sub (ws' := (xW cs ad len pl rlen rpc run_ rbo rcw rt tx gp nu un gq swl sun sbo scw bo cu lo wh dps alk bof us bl lg)) [0, 1, 2, 3, 4, 5, 6, 7, 8, 9, 10, 11, 12, 13] (by decide) rfl
          refine va_calli (va_runV (As := [.int (iI z1), .int (iI z2)]) (rest := []) ⟨hx, hb, hml, hown, hts⟩ (c_X6_well l D cs ad H.size len pl rlen rpc run_ rbo rcw rt tx gp nu un gq swl sun sbo scw bo cu lo wh dps alk bof us bl lg M now bf z1 z2 hM1 hun hlen (by omega) (by omega)) (cwV 2 hts (gVl tb_463 tb_464 tb_465 tb_1 tb_466) rfl rfl rfl (by decide +kernel) ⟨Nat.le_of_ble_eq_true rfl, Nat.le_of_ble_eq_true rfl⟩) (preV_M (X := fun U H => XI D cs M pl now un gq bf U H) XI_stb hK (va_recv hK hPc (ci := 5) (q0 := 0) rfl rfl) hPc hDc hXI) rfl rfl hl.1 rfl (lv_room (Nat.le_of_ble_eq_true rfl)) dL_law_476 ⟨by exact Nat.le_trans (m := 200000) (by omega) lw_rmC, by exact Nat.le_trans (m := 2500000) (by omega) lw_rmS⟩) hS (fun q _ h => hFc q h) hFc (fun r9 u9 t9 H9 locs ht9 hvm9 hw9 hB9 hz9 hk9 hS => ?_)
          obtain rfl := hw9
          obtain ⟨hf476_0, hP1, hD1⟩ := hB9
          rw [ht9] at hP1
          obtain ⟨hPj, hDj⟩ := va_join (wr := [_, _, _, _, _, _, _, _, _, _]) hP hD [0, 1, 2, 3, 4, 5, 6, 7, 8, 9, 10, 11, 12, 13] [14, 15, 16, 17, 18, 19, 20, 21, 22, 23] rfl rfl (by decide) (by decide) hk9 hFc hP1 hD1
          have hXI2 := XI.call hXI (fun q z => hM1 q (Mw_xW q z)) hz9 hk9
          generalize H9 = H at *
          have hP : va_P D classes (xW cs ad len pl rlen rpc run_ rbo rcw rt tx gp nu un gq swl sun sbo scw bo cu lo wh dps alk bof us bl lg ++ mW cs ad2 len m_spot un m_bo m_cu m_lo m_wh tx now m_rd bf m_bl m_us m_lg m_bd m_dp) H := hPj.sub [10, 11, 12, 13, 14, 15, 16, 17, 18, 19, 20, 21, 22, 23, 0, 1, 2, 3, 4, 5, 6, 7, 8, 9] rfl
          have hD : va_D A (xW cs ad len pl rlen rpc run_ rbo rcw rt tx gp nu un gq swl sun sbo scw bo cu lo wh dps alk bof us bl lg ++ mW cs ad2 len m_spot un m_bo m_cu m_lo m_wh tx now m_rd bf m_bl m_us m_lg m_bd m_dp) := hDj.sub [10, 11, 12, 13, 14, 15, 16, 17, 18, 19, 20, 21, 22, 23, 0, 1, 2, 3, 4, 5, 6, 7, 8, 9] (by decide) rfl
          have hXI := hXI2
          subst hf476_0
          refine lv_aload_n hx hb dL_law_479 rfl (lv_at hl 2 rfl) ?_
          refine lv_aload_n hx hb dL_law_480 rfl (lv_at hl 0 rfl) ?_
          refine lv_iload_n hx hb dL_law_481 rfl (lv_at hl 3 rfl) ?_
          refine rv_iconst hx hb dL_law_482 ?_
          refine rv_iadd hx hb dL_law_483 ?_
          refine rv_sld hx hb hX hbl hbA hS (4 * n + 1) (by omega) (by omega) ez1 dL_law_484 ?_
          refine lv_aload_n hx hb dL_law_485 rfl (lv_at hl 0 rfl) ?_
          refine lv_iload_n hx hb dL_law_486 rfl (lv_at hl 3 rfl) ?_
          refine rv_iconst hx hb dL_law_487 ?_
          refine rv_iadd hx hb dL_law_488 ?_
          refine rv_sld hx hb hX hbl hbA hS (4 * n + 2) (by omega) (by omega) ez2 dL_law_489 ?_
          refine vp_callSi (W.runV (As := [.int (iI z1), .int (iI z2)]) (rest := [.int (iI (aWell now z1 z2))]) ⟨hx, hb, hml, hown, hts⟩ (c_X7_well l D cs (ad2 0) (ad2 2) _ now z1 z2 (by omega) (by omega)) (cwV 2 hts (gVl tb_740 tb_741 tb_742 tb_8 tb_743) rfl rfl rfl (by decide +kernel) ⟨Nat.le_of_ble_eq_true rfl, Nat.le_of_ble_eq_true rfl⟩) (preV_mod hK ⟨hP.sub [14, 16] rfl, rfl, hvL⟩) rfl rfl hl.1 rfl (lv_room (Nat.le_of_ble_eq_true rfl)) dL_law_490 ⟨by exact Nat.le_trans (m := 200000) (by omega) lw_rmC, by exact Nat.le_trans (m := 2500000) (by omega) lw_rmS⟩) (fun r9 hr9 => ?_)
          subst hr9
          refine lv_icmp_eq (tgt := 762) hx hb dL_law_493 (by decide) (fun _ => ?_) (fun h => absurd rfl h)
          refine rv_iinc (k := 3) (lv' := [(3, .int (iI (((4 * n : Nat) : Int) + 4))), (0, .ref b), (1, .ref (ad 0)), (2, .ref (ad2 0))]) hx hb dL_law_762 hl rfl (by decide) rfl (fun ls hl => ?_)
          refine lv_goto (tgt := 18) hx hb dL_law_765 (by decide) ?_
          refine W.widen (k := 32 + 236 * (n + 1)) (n := 2404 + 4454 * (n + 1)) (by omega) (by omega) ?_
          exact ih18 (n + 1) pl rlen rpc run_ rbo rcw rt gp nu gq swl sun sbo scw bo cu lo wh dps alk bof us bl lg m_spot m_bo m_cu m_lo m_wh m_rd m_bl m_us m_lg m_bd m_dp len un tx now bf (by omega) htx hlen hun hnu (by omega) _ (by omega) H locs hP hD hS hXI ls (lv_sub hl [1, 2, 3, 0] rfl)
        by_cases hc14 : (andI z0 31) = 14
        · refine rv_top (y := 14) hc14 ?_
          refine lv_tableIn (tgt := 498) hx hb dL_law_32 (by decide) (by decide) rfl (by decide) ?_
          refine lv_aload_n hx hb dL_law_498 rfl (lv_at hl 1 rfl) ?_
          refine lv_aload_n hx hb dL_law_499 rfl (lv_at hl 0 rfl) ?_
          refine lv_iload_n hx hb dL_law_500 rfl (lv_at hl 3 rfl) ?_
          refine rv_iconst hx hb dL_law_501 ?_
          refine rv_iadd hx hb dL_law_502 ?_
          refine rv_sld hx hb hX hbl hbA hS (4 * n + 1) (by omega) (by omega) ez1 dL_law_503 ?_
          refine lv_aload_n hx hb dL_law_504 rfl (lv_at hl 0 rfl) ?_
          refine lv_iload_n hx hb dL_law_505 rfl (lv_at hl 3 rfl) ?_
          refine rv_iconst hx hb dL_law_506 ?_
          refine rv_iadd hx hb dL_law_507 ?_
          refine rv_sld hx hb hX hbl hbA hS (4 * n + 2) (by omega) (by omega) ez2 dL_law_508 ?_
          refine lv_aload_n hx hb dL_law_509 rfl (lv_at hl 0 rfl) ?_
          refine lv_iload_n hx hb dL_law_510 rfl (lv_at hl 3 rfl) ?_
          refine rv_iconst hx hb dL_law_511 ?_
          refine rv_iadd hx hb dL_law_512 ?_
          refine rv_sld hx hb hX hbl hbA hS (4 * n + 3) (by omega) (by omega) ez3 dL_law_513 ?_
          have hFc := va_free (wc := (xW cs ad len pl rlen rpc run_ rbo rcw rt tx gp nu un gq swl sun sbo scw bo cu lo wh dps alk bof us bl lg)) hD hS hA [0, 1, 2, 3, 4, 5, 6, 7, 8, 9, 10, 11, 12, 13] rfl
          have hPc := hP.sub (ws' := (xW cs ad len pl rlen rpc run_ rbo rcw rt tx gp nu un gq swl sun sbo scw bo cu lo wh dps alk bof us bl lg)) [0, 1, 2, 3, 4, 5, 6, 7, 8, 9, 10, 11, 12, 13] rfl
          have hDc := hD.sub (ws' := (xW cs ad len pl rlen rpc run_ rbo rcw rt tx gp nu un gq swl sun sbo scw bo cu lo wh dps alk bof us bl lg)) [0, 1, 2, 3, 4, 5, 6, 7, 8, 9, 10, 11, 12, 13] (by decide) rfl
          refine va_calli (va_runV (As := [.int (iI z1), .int (iI z2), .int (iI z3)]) (rest := []) ⟨hx, hb, hml, hown, hts⟩ (c_X6_counts l D cs ad H.size len pl rlen rpc run_ rbo rcw rt tx gp nu un gq swl sun sbo scw bo cu lo wh dps alk bof us bl lg M now bf z1 z2 z3 hM1 hun hlen (by omega) (by omega) (by omega)) (cwV 3 hts (gVl tb_472 tb_473 tb_474 tb_1 tb_475) rfl rfl rfl (by decide +kernel) ⟨Nat.le_of_ble_eq_true rfl, Nat.le_of_ble_eq_true rfl⟩) (preV_M (X := fun U H => XI D cs M pl now un gq bf U H) XI_stb hK (va_recv hK hPc (ci := 5) (q0 := 0) rfl rfl) hPc hDc hXI) rfl rfl hl.1 rfl (lv_room (Nat.le_of_ble_eq_true rfl)) dL_law_514 ⟨by exact Nat.le_trans (m := 200000) (by omega) lw_rmC, by exact Nat.le_trans (m := 2500000) (by omega) lw_rmS⟩) hS (fun q _ h => hFc q h) hFc (fun r9 u9 t9 H9 locs ht9 hvm9 hw9 hB9 hz9 hk9 hS => ?_)
          obtain rfl := hw9
          obtain ⟨hf514_0, hP1, hD1⟩ := hB9
          rw [ht9] at hP1
          obtain ⟨hPj, hDj⟩ := va_join (wr := [_, _, _, _, _, _, _, _, _, _]) hP hD [0, 1, 2, 3, 4, 5, 6, 7, 8, 9, 10, 11, 12, 13] [14, 15, 16, 17, 18, 19, 20, 21, 22, 23] rfl rfl (by decide) (by decide) hk9 hFc hP1 hD1
          have hXI2 := XI.call hXI (fun q z => hM1 q (Mw_xW q z)) hz9 hk9
          generalize H9 = H at *
          have hP : va_P D classes (xW cs ad len pl rlen rpc run_ rbo rcw rt tx gp nu un gq swl sun sbo scw bo cu lo wh dps alk bof us bl lg ++ mW cs ad2 len m_spot un m_bo m_cu m_lo m_wh tx now m_rd bf m_bl m_us m_lg m_bd m_dp) H := hPj.sub [10, 11, 12, 13, 14, 15, 16, 17, 18, 19, 20, 21, 22, 23, 0, 1, 2, 3, 4, 5, 6, 7, 8, 9] rfl
          have hD : va_D A (xW cs ad len pl rlen rpc run_ rbo rcw rt tx gp nu un gq swl sun sbo scw bo cu lo wh dps alk bof us bl lg ++ mW cs ad2 len m_spot un m_bo m_cu m_lo m_wh tx now m_rd bf m_bl m_us m_lg m_bd m_dp) := hDj.sub [10, 11, 12, 13, 14, 15, 16, 17, 18, 19, 20, 21, 22, 23, 0, 1, 2, 3, 4, 5, 6, 7, 8, 9] (by decide) rfl
          have hXI := hXI2
          subst hf514_0
          refine lv_aload_n hx hb dL_law_517 rfl (lv_at hl 2 rfl) ?_
          refine lv_aload_n hx hb dL_law_518 rfl (lv_at hl 0 rfl) ?_
          refine lv_iload_n hx hb dL_law_519 rfl (lv_at hl 3 rfl) ?_
          refine rv_iconst hx hb dL_law_520 ?_
          refine rv_iadd hx hb dL_law_521 ?_
          refine rv_sld hx hb hX hbl hbA hS (4 * n + 1) (by omega) (by omega) ez1 dL_law_522 ?_
          refine lv_aload_n hx hb dL_law_523 rfl (lv_at hl 0 rfl) ?_
          refine lv_iload_n hx hb dL_law_524 rfl (lv_at hl 3 rfl) ?_
          refine rv_iconst hx hb dL_law_525 ?_
          refine rv_iadd hx hb dL_law_526 ?_
          refine rv_sld hx hb hX hbl hbA hS (4 * n + 2) (by omega) (by omega) ez2 dL_law_527 ?_
          refine lv_aload_n hx hb dL_law_528 rfl (lv_at hl 0 rfl) ?_
          refine lv_iload_n hx hb dL_law_529 rfl (lv_at hl 3 rfl) ?_
          refine rv_iconst hx hb dL_law_530 ?_
          refine rv_iadd hx hb dL_law_531 ?_
          refine rv_sld hx hb hX hbl hbA hS (4 * n + 3) (by omega) (by omega) ez3 dL_law_532 ?_
          refine vp_callSi (W.runV (As := [.int (iI z1), .int (iI z2), .int (iI z3)]) (rest := [.int (iI (aCounts now z1 z2 z3))]) ⟨hx, hb, hml, hown, hts⟩ (c_X7_counts l D cs (ad2 0) (ad2 2) _ now z1 z2 z3 (by omega) (by omega) (by omega)) (cwV 3 hts (gVl tb_756 tb_757 tb_758 tb_8 tb_759) rfl rfl rfl (by decide +kernel) ⟨Nat.le_of_ble_eq_true rfl, Nat.le_of_ble_eq_true rfl⟩) (preV_mod hK ⟨hP.sub [14, 16] rfl, rfl, hvL⟩) rfl rfl hl.1 rfl (lv_room (Nat.le_of_ble_eq_true rfl)) dL_law_533 ⟨by exact Nat.le_trans (m := 200000) (by omega) lw_rmC, by exact Nat.le_trans (m := 2500000) (by omega) lw_rmS⟩) (fun r9 hr9 => ?_)
          subst hr9
          refine lv_icmp_eq (tgt := 762) hx hb dL_law_536 (by decide) (fun _ => ?_) (fun h => absurd rfl h)
          refine rv_iinc (k := 3) (lv' := [(3, .int (iI (((4 * n : Nat) : Int) + 4))), (0, .ref b), (1, .ref (ad 0)), (2, .ref (ad2 0))]) hx hb dL_law_762 hl rfl (by decide) rfl (fun ls hl => ?_)
          refine lv_goto (tgt := 18) hx hb dL_law_765 (by decide) ?_
          refine W.widen (k := 32 + 236 * (n + 1)) (n := 2404 + 4454 * (n + 1)) (by omega) (by omega) ?_
          exact ih18 (n + 1) pl rlen rpc run_ rbo rcw rt gp nu gq swl sun sbo scw bo cu lo wh dps alk bof us bl lg m_spot m_bo m_cu m_lo m_wh m_rd m_bl m_us m_lg m_bd m_dp len un tx now bf (by omega) htx hlen hun hnu (by omega) _ (by omega) H locs hP hD hS hXI ls (lv_sub hl [1, 2, 3, 0] rfl)
        by_cases hc15 : (andI z0 31) = 15
        · refine rv_top (y := 15) hc15 ?_
          refine lv_tableIn (tgt := 541) hx hb dL_law_32 (by decide) (by decide) rfl (by decide) ?_
          refine lv_aload_n hx hb dL_law_541 rfl (lv_at hl 1 rfl) ?_
          refine lv_aload_n hx hb dL_law_542 rfl (lv_at hl 0 rfl) ?_
          refine lv_iload_n hx hb dL_law_543 rfl (lv_at hl 3 rfl) ?_
          refine rv_iconst hx hb dL_law_544 ?_
          refine rv_iadd hx hb dL_law_545 ?_
          refine rv_sld hx hb hX hbl hbA hS (4 * n + 1) (by omega) (by omega) ez1 dL_law_546 ?_
          refine lv_aload_n hx hb dL_law_547 rfl (lv_at hl 0 rfl) ?_
          refine lv_iload_n hx hb dL_law_548 rfl (lv_at hl 3 rfl) ?_
          refine rv_iconst hx hb dL_law_549 ?_
          refine rv_iadd hx hb dL_law_550 ?_
          refine rv_sld hx hb hX hbl hbA hS (4 * n + 2) (by omega) (by omega) ez2 dL_law_551 ?_
          refine lv_aload_n hx hb dL_law_552 rfl (lv_at hl 0 rfl) ?_
          refine lv_iload_n hx hb dL_law_553 rfl (lv_at hl 3 rfl) ?_
          refine rv_iconst hx hb dL_law_554 ?_
          refine rv_iadd hx hb dL_law_555 ?_
          refine rv_sld hx hb hX hbl hbA hS (4 * n + 3) (by omega) (by omega) ez3 dL_law_556 ?_
          have hFc := va_free (wc := (xW cs ad len pl rlen rpc run_ rbo rcw rt tx gp nu un gq swl sun sbo scw bo cu lo wh dps alk bof us bl lg)) hD hS hA [0, 1, 2, 3, 4, 5, 6, 7, 8, 9, 10, 11, 12, 13] rfl
          have hPc := hP.sub (ws' := (xW cs ad len pl rlen rpc run_ rbo rcw rt tx gp nu un gq swl sun sbo scw bo cu lo wh dps alk bof us bl lg)) [0, 1, 2, 3, 4, 5, 6, 7, 8, 9, 10, 11, 12, 13] rfl
          have hDc := hD.sub (ws' := (xW cs ad len pl rlen rpc run_ rbo rcw rt tx gp nu un gq swl sun sbo scw bo cu lo wh dps alk bof us bl lg)) [0, 1, 2, 3, 4, 5, 6, 7, 8, 9, 10, 11, 12, 13] (by decide) rfl
          refine va_calli (va_runV (As := [.int (iI z1), .int (iI z2), .int (iI z3)]) (rest := []) ⟨hx, hb, hml, hown, hts⟩ (c_X6_plane l D cs ad H.size len pl rlen rpc run_ rbo rcw rt tx gp nu un gq swl sun sbo scw bo cu lo wh dps alk bof us bl lg M now bf z1 z2 z3 hM1 hun hlen (by omega) (by omega) (by omega)) (cwV 3 hts (gVl tb_484 tb_485 tb_486 tb_1 tb_487) rfl rfl rfl (by decide +kernel) ⟨Nat.le_of_ble_eq_true rfl, Nat.le_of_ble_eq_true rfl⟩) (preV_M (X := fun U H => XI D cs M pl now un gq bf U H) XI_stb hK (va_recv hK hPc (ci := 5) (q0 := 0) rfl rfl) hPc hDc hXI) rfl rfl hl.1 rfl (lv_room (Nat.le_of_ble_eq_true rfl)) dL_law_557 ⟨by exact Nat.le_trans (m := 200000) (by omega) lw_rmC, by exact Nat.le_trans (m := 2500000) (by omega) lw_rmS⟩) hS (fun q _ h => hFc q h) hFc (fun r9 u9 t9 H9 locs ht9 hvm9 hw9 hB9 hz9 hk9 hS => ?_)
          obtain rfl := hw9
          obtain ⟨hf557_0, hP1, hD1⟩ := hB9
          rw [ht9] at hP1
          obtain ⟨hPj, hDj⟩ := va_join (wr := [_, _, _, _, _, _, _, _, _, _]) hP hD [0, 1, 2, 3, 4, 5, 6, 7, 8, 9, 10, 11, 12, 13] [14, 15, 16, 17, 18, 19, 20, 21, 22, 23] rfl rfl (by decide) (by decide) hk9 hFc hP1 hD1
          have hXI2 := XI.call hXI (fun q z => hM1 q (Mw_xW q z)) hz9 hk9
          generalize H9 = H at *
          have hP : va_P D classes (xW cs ad len pl rlen rpc run_ rbo rcw rt tx gp nu un gq swl sun sbo scw bo cu lo wh dps alk bof us bl lg ++ mW cs ad2 len m_spot un m_bo m_cu m_lo m_wh tx now m_rd bf m_bl m_us m_lg m_bd m_dp) H := hPj.sub [10, 11, 12, 13, 14, 15, 16, 17, 18, 19, 20, 21, 22, 23, 0, 1, 2, 3, 4, 5, 6, 7, 8, 9] rfl
          have hD : va_D A (xW cs ad len pl rlen rpc run_ rbo rcw rt tx gp nu un gq swl sun sbo scw bo cu lo wh dps alk bof us bl lg ++ mW cs ad2 len m_spot un m_bo m_cu m_lo m_wh tx now m_rd bf m_bl m_us m_lg m_bd m_dp) := hDj.sub [10, 11, 12, 13, 14, 15, 16, 17, 18, 19, 20, 21, 22, 23, 0, 1, 2, 3, 4, 5, 6, 7, 8, 9] (by decide) rfl
          have hXI := hXI2
          subst hf557_0
          refine lv_aload_n hx hb dL_law_560 rfl (lv_at hl 2 rfl) ?_
          refine lv_aload_n hx hb dL_law_561 rfl (lv_at hl 0 rfl) ?_
          refine lv_iload_n hx hb dL_law_562 rfl (lv_at hl 3 rfl) ?_
          refine rv_iconst hx hb dL_law_563 ?_
          refine rv_iadd hx hb dL_law_564 ?_
          refine rv_sld hx hb hX hbl hbA hS (4 * n + 1) (by omega) (by omega) ez1 dL_law_565 ?_
          refine lv_aload_n hx hb dL_law_566 rfl (lv_at hl 0 rfl) ?_
          refine lv_iload_n hx hb dL_law_567 rfl (lv_at hl 3 rfl) ?_
          refine rv_iconst hx hb dL_law_568 ?_
          refine rv_iadd hx hb dL_law_569 ?_
          refine rv_sld hx hb hX hbl hbA hS (4 * n + 2) (by omega) (by omega) ez2 dL_law_570 ?_
          refine lv_aload_n hx hb dL_law_571 rfl (lv_at hl 0 rfl) ?_
          refine lv_iload_n hx hb dL_law_572 rfl (lv_at hl 3 rfl) ?_
          refine rv_iconst hx hb dL_law_573 ?_
          refine rv_iadd hx hb dL_law_574 ?_
          refine rv_sld hx hb hX hbl hbA hS (4 * n + 3) (by omega) (by omega) ez3 dL_law_575 ?_
          refine vp_callSi (W.runV (As := [.int (iI z1), .int (iI z2), .int (iI z3)]) (rest := [.int (iI (aPlane now z1 z2 z3))]) ⟨hx, hb, hml, hown, hts⟩ (c_X7_plane l D cs (ad2 0) (ad2 2) _ now z1 z2 z3 (by omega) (by omega) (by omega)) (cwV 3 hts (gVl tb_777 tb_778 tb_779 tb_8 tb_780) rfl rfl rfl (by decide +kernel) ⟨Nat.le_of_ble_eq_true rfl, Nat.le_of_ble_eq_true rfl⟩) (preV_mod hK ⟨hP.sub [14, 16] rfl, rfl, hvL⟩) rfl rfl hl.1 rfl (lv_room (Nat.le_of_ble_eq_true rfl)) dL_law_576 ⟨by exact Nat.le_trans (m := 200000) (by omega) lw_rmC, by exact Nat.le_trans (m := 2500000) (by omega) lw_rmS⟩) (fun r9 hr9 => ?_)
          subst hr9
          refine lv_icmp_eq (tgt := 762) hx hb dL_law_579 (by decide) (fun _ => ?_) (fun h => absurd rfl h)
          refine rv_iinc (k := 3) (lv' := [(3, .int (iI (((4 * n : Nat) : Int) + 4))), (0, .ref b), (1, .ref (ad 0)), (2, .ref (ad2 0))]) hx hb dL_law_762 hl rfl (by decide) rfl (fun ls hl => ?_)
          refine lv_goto (tgt := 18) hx hb dL_law_765 (by decide) ?_
          refine W.widen (k := 32 + 236 * (n + 1)) (n := 2404 + 4454 * (n + 1)) (by omega) (by omega) ?_
          exact ih18 (n + 1) pl rlen rpc run_ rbo rcw rt gp nu gq swl sun sbo scw bo cu lo wh dps alk bof us bl lg m_spot m_bo m_cu m_lo m_wh m_rd m_bl m_us m_lg m_bd m_dp len un tx now bf (by omega) htx hlen hun hnu (by omega) _ (by omega) H locs hP hD hS hXI ls (lv_sub hl [1, 2, 3, 0] rfl)
        by_cases hc16 : (andI z0 31) = 16
        · refine rv_top (y := 16) hc16 ?_
          refine lv_tableIn (tgt := 584) hx hb dL_law_32 (by decide) (by decide) rfl (by decide) ?_
          refine lv_aload_n hx hb dL_law_584 rfl (lv_at hl 1 rfl) ?_
          refine lv_aload_n hx hb dL_law_585 rfl (lv_at hl 0 rfl) ?_
          refine lv_iload_n hx hb dL_law_586 rfl (lv_at hl 3 rfl) ?_
          refine rv_iconst hx hb dL_law_587 ?_
          refine rv_iadd hx hb dL_law_588 ?_
          refine rv_sld hx hb hX hbl hbA hS (4 * n + 1) (by omega) (by omega) ez1 dL_law_589 ?_
          refine lv_aload_n hx hb dL_law_590 rfl (lv_at hl 0 rfl) ?_
          refine lv_iload_n hx hb dL_law_591 rfl (lv_at hl 3 rfl) ?_
          refine rv_iconst hx hb dL_law_592 ?_
          refine rv_iadd hx hb dL_law_593 ?_
          refine rv_sld hx hb hX hbl hbA hS (4 * n + 2) (by omega) (by omega) ez2 dL_law_594 ?_
          have hFc := va_free (wc := (xW cs ad len pl rlen rpc run_ rbo rcw rt tx gp nu un gq swl sun sbo scw bo cu lo wh dps alk bof us bl lg)) hD hS hA [0, 1, 2, 3, 4, 5, 6, 7, 8, 9, 10, 11, 12, 13] rfl
          have hPc := hP.sub (ws' := (xW cs ad len pl rlen rpc run_ rbo rcw rt tx gp nu un gq swl sun sbo scw bo cu lo wh dps alk bof us bl lg)) [0, 1, 2, 3, 4, 5, 6, 7, 8, 9, 10, 11, 12, 13] rfl
          have hDc := hD.sub (ws' := (xW cs ad len pl rlen rpc run_ rbo rcw rt tx gp nu un gq swl sun sbo scw bo cu lo wh dps alk bof us bl lg)) [0, 1, 2, 3, 4, 5, 6, 7, 8, 9, 10, 11, 12, 13] (by decide) rfl
          refine va_calli (va_runV (As := [.int (iI z1), .int (iI z2)]) (rest := []) ⟨hx, hb, hml, hown, hts⟩ (c_X6_planes l D cs ad H.size len pl rlen rpc run_ rbo rcw rt tx gp nu un gq swl sun sbo scw bo cu lo wh dps alk bof us bl lg M now bf z1 z2 hM1 hun hlen (by omega) (by omega)) (cwV 2 hts (gVl tb_492 tb_493 tb_494 tb_1 tb_495) rfl rfl rfl (by decide +kernel) ⟨Nat.le_of_ble_eq_true rfl, Nat.le_of_ble_eq_true rfl⟩) (preV_M (X := fun U H => XI D cs M pl now un gq bf U H) XI_stb hK (va_recv hK hPc (ci := 5) (q0 := 0) rfl rfl) hPc hDc hXI) rfl rfl hl.1 rfl (lv_room (Nat.le_of_ble_eq_true rfl)) dL_law_595 ⟨by exact Nat.le_trans (m := 200000) (by omega) lw_rmC, by exact Nat.le_trans (m := 2500000) (by omega) lw_rmS⟩) hS (fun q _ h => hFc q h) hFc (fun r9 u9 t9 H9 locs ht9 hvm9 hw9 hB9 hz9 hk9 hS => ?_)
          obtain rfl := hw9
          obtain ⟨hf595_0, hP1, hD1⟩ := hB9
          rw [ht9] at hP1
          obtain ⟨hPj, hDj⟩ := va_join (wr := [_, _, _, _, _, _, _, _, _, _]) hP hD [0, 1, 2, 3, 4, 5, 6, 7, 8, 9, 10, 11, 12, 13] [14, 15, 16, 17, 18, 19, 20, 21, 22, 23] rfl rfl (by decide) (by decide) hk9 hFc hP1 hD1
          have hXI2 := XI.call hXI (fun q z => hM1 q (Mw_xW q z)) hz9 hk9
          generalize H9 = H at *
          have hP : va_P D classes (xW cs ad len pl rlen rpc run_ rbo rcw rt tx gp nu un gq swl sun sbo scw bo cu lo wh dps alk bof us bl lg ++ mW cs ad2 len m_spot un m_bo m_cu m_lo m_wh tx now m_rd bf m_bl m_us m_lg m_bd m_dp) H := hPj.sub [10, 11, 12, 13, 14, 15, 16, 17, 18, 19, 20, 21, 22, 23, 0, 1, 2, 3, 4, 5, 6, 7, 8, 9] rfl
          have hD : va_D A (xW cs ad len pl rlen rpc run_ rbo rcw rt tx gp nu un gq swl sun sbo scw bo cu lo wh dps alk bof us bl lg ++ mW cs ad2 len m_spot un m_bo m_cu m_lo m_wh tx now m_rd bf m_bl m_us m_lg m_bd m_dp) := hDj.sub [10, 11, 12, 13, 14, 15, 16, 17, 18, 19, 20, 21, 22, 23, 0, 1, 2, 3, 4, 5, 6, 7, 8, 9] (by decide) rfl
          have hXI := hXI2
          subst hf595_0
          refine lv_aload_n hx hb dL_law_598 rfl (lv_at hl 2 rfl) ?_
          refine lv_aload_n hx hb dL_law_599 rfl (lv_at hl 0 rfl) ?_
          refine lv_iload_n hx hb dL_law_600 rfl (lv_at hl 3 rfl) ?_
          refine rv_iconst hx hb dL_law_601 ?_
          refine rv_iadd hx hb dL_law_602 ?_
          refine rv_sld hx hb hX hbl hbA hS (4 * n + 1) (by omega) (by omega) ez1 dL_law_603 ?_
          refine lv_aload_n hx hb dL_law_604 rfl (lv_at hl 0 rfl) ?_
          refine lv_iload_n hx hb dL_law_605 rfl (lv_at hl 3 rfl) ?_
          refine rv_iconst hx hb dL_law_606 ?_
          refine rv_iadd hx hb dL_law_607 ?_
          refine rv_sld hx hb hX hbl hbA hS (4 * n + 2) (by omega) (by omega) ez2 dL_law_608 ?_
          refine vp_callSi (W.runV (As := [.int (iI z1), .int (iI z2)]) (rest := [.int (iI (aPlanes now z1 z2))]) ⟨hx, hb, hml, hown, hts⟩ (c_X7_planes l D cs (ad2 0) (ad2 2) _ now z1 z2 (by omega) (by omega)) (cwV 2 hts (gVl tb_785 tb_786 tb_787 tb_8 tb_788) rfl rfl rfl (by decide +kernel) ⟨Nat.le_of_ble_eq_true rfl, Nat.le_of_ble_eq_true rfl⟩) (preV_mod hK ⟨hP.sub [14, 16] rfl, rfl, hvL⟩) rfl rfl hl.1 rfl (lv_room (Nat.le_of_ble_eq_true rfl)) dL_law_609 ⟨by exact Nat.le_trans (m := 200000) (by omega) lw_rmC, by exact Nat.le_trans (m := 2500000) (by omega) lw_rmS⟩) (fun r9 hr9 => ?_)
          subst hr9
          refine lv_icmp_eq (tgt := 762) hx hb dL_law_612 (by decide) (fun _ => ?_) (fun h => absurd rfl h)
          refine rv_iinc (k := 3) (lv' := [(3, .int (iI (((4 * n : Nat) : Int) + 4))), (0, .ref b), (1, .ref (ad 0)), (2, .ref (ad2 0))]) hx hb dL_law_762 hl rfl (by decide) rfl (fun ls hl => ?_)
          refine lv_goto (tgt := 18) hx hb dL_law_765 (by decide) ?_
          refine W.widen (k := 32 + 236 * (n + 1)) (n := 2404 + 4454 * (n + 1)) (by omega) (by omega) ?_
          exact ih18 (n + 1) pl rlen rpc run_ rbo rcw rt gp nu gq swl sun sbo scw bo cu lo wh dps alk bof us bl lg m_spot m_bo m_cu m_lo m_wh m_rd m_bl m_us m_lg m_bd m_dp len un tx now bf (by omega) htx hlen hun hnu (by omega) _ (by omega) H locs hP hD hS hXI ls (lv_sub hl [1, 2, 3, 0] rfl)
        by_cases hc17 : (andI z0 31) = 17
        · refine rv_top (y := 17) hc17 ?_
          refine lv_tableIn (tgt := 617) hx hb dL_law_32 (by decide) (by decide) rfl (by decide) ?_
          refine lv_aload_n hx hb dL_law_617 rfl (lv_at hl 1 rfl) ?_
          refine lv_aload_n hx hb dL_law_618 rfl (lv_at hl 0 rfl) ?_
          refine lv_iload_n hx hb dL_law_619 rfl (lv_at hl 3 rfl) ?_
          refine rv_iconst hx hb dL_law_620 ?_
          refine rv_iadd hx hb dL_law_621 ?_
          refine rv_sld hx hb hX hbl hbA hS (4 * n + 1) (by omega) (by omega) ez1 dL_law_622 ?_
          have hFc := va_free (wc := (xW cs ad len pl rlen rpc run_ rbo rcw rt tx gp nu un gq swl sun sbo scw bo cu lo wh dps alk bof us bl lg)) hD hS hA [0, 1, 2, 3, 4, 5, 6, 7, 8, 9, 10, 11, 12, 13] rfl
          have hPc := hP.sub (ws' := (xW cs ad len pl rlen rpc run_ rbo rcw rt tx gp nu un gq swl sun sbo scw bo cu lo wh dps alk bof us bl lg)) [0, 1, 2, 3, 4, 5, 6, 7, 8, 9, 10, 11, 12, 13] rfl
          have hDc := hD.sub (ws' := (xW cs ad len pl rlen rpc run_ rbo rcw rt tx gp nu un gq swl sun sbo scw bo cu lo wh dps alk bof us bl lg)) [0, 1, 2, 3, 4, 5, 6, 7, 8, 9, 10, 11, 12, 13] (by decide) rfl
          refine va_calli (va_runV (As := [.int (iI z1)]) (rest := []) ⟨hx, hb, hml, hown, hts⟩ (c_X6_cut l D cs ad H.size len pl rlen rpc run_ rbo rcw rt tx gp nu un gq swl sun sbo scw bo cu lo wh dps alk bof us bl lg M now bf z1 hM1 hun hlen (by omega)) (cwV 1 hts (gVl tb_501 tb_502 tb_503 tb_1 tb_504) rfl rfl rfl (by decide +kernel) ⟨Nat.le_of_ble_eq_true rfl, Nat.le_of_ble_eq_true rfl⟩) (preV_M (X := fun U H => XI D cs M pl now un gq bf U H) XI_stb hK (va_recv hK hPc (ci := 5) (q0 := 0) rfl rfl) hPc hDc hXI) rfl rfl hl.1 rfl (lv_room (Nat.le_of_ble_eq_true rfl)) dL_law_623 ⟨by exact Nat.le_trans (m := 200000) (by omega) lw_rmC, by exact Nat.le_trans (m := 2500000) (by omega) lw_rmS⟩) hS (fun q _ h => hFc q h) hFc (fun r9 u9 t9 H9 locs ht9 hvm9 hw9 hB9 hz9 hk9 hS => ?_)
          obtain rfl := hw9
          obtain ⟨swl2_623, sun2_623, sbo2_623, scw2_623, bo2_623, cu2_623, lo2_623, wh2_623, dps2_623, alk2_623, bof2_623, us2_623, bl2_623, lg2_623, hf623_0, hP1, hD1⟩ := hB9
          rw [ht9] at hP1
          obtain ⟨hPj, hDj⟩ := va_join (wr := [_, _, _, _, _, _, _, _, _, _]) hP hD [0, 1, 2, 3, 4, 5, 6, 7, 8, 9, 10, 11, 12, 13] [14, 15, 16, 17, 18, 19, 20, 21, 22, 23] rfl rfl (by decide) (by decide) hk9 hFc hP1 hD1
          have hXI2 := XI.call hXI (fun q z => hM1 q (Mw_xW q z)) hz9 hk9
          generalize H9 = H at *
          have hP : va_P D classes (xW cs ad len pl rlen rpc run_ rbo rcw rt tx gp nu un gq swl2_623 sun2_623 sbo2_623 scw2_623 bo2_623 cu2_623 lo2_623 wh2_623 dps2_623 alk2_623 bof2_623 us2_623 bl2_623 lg2_623 ++ mW cs ad2 len m_spot un m_bo m_cu m_lo m_wh tx now m_rd bf m_bl m_us m_lg m_bd m_dp) H := hPj.sub [10, 11, 12, 13, 14, 15, 16, 17, 18, 19, 20, 21, 22, 23, 0, 1, 2, 3, 4, 5, 6, 7, 8, 9] rfl
          have hD : va_D A (xW cs ad len pl rlen rpc run_ rbo rcw rt tx gp nu un gq swl2_623 sun2_623 sbo2_623 scw2_623 bo2_623 cu2_623 lo2_623 wh2_623 dps2_623 alk2_623 bof2_623 us2_623 bl2_623 lg2_623 ++ mW cs ad2 len m_spot un m_bo m_cu m_lo m_wh tx now m_rd bf m_bl m_us m_lg m_bd m_dp) := hDj.sub [10, 11, 12, 13, 14, 15, 16, 17, 18, 19, 20, 21, 22, 23, 0, 1, 2, 3, 4, 5, 6, 7, 8, 9] (by decide) rfl
          have hXI := hXI2
          subst hf623_0
          refine lv_aload_n hx hb dL_law_626 rfl (lv_at hl 2 rfl) ?_
          refine lv_aload_n hx hb dL_law_627 rfl (lv_at hl 0 rfl) ?_
          refine lv_iload_n hx hb dL_law_628 rfl (lv_at hl 3 rfl) ?_
          refine rv_iconst hx hb dL_law_629 ?_
          refine rv_iadd hx hb dL_law_630 ?_
          refine rv_sld hx hb hX hbl hbA hS (4 * n + 1) (by omega) (by omega) ez1 dL_law_631 ?_
          have hFc := va_free (wc := (mW cs ad2 len m_spot un m_bo m_cu m_lo m_wh tx now m_rd bf m_bl m_us m_lg m_bd m_dp)) hD hS hA [14, 15, 16, 17, 18, 19, 20, 21, 22, 23] rfl
          have hPc := hP.sub (ws' := (mW cs ad2 len m_spot un m_bo m_cu m_lo m_wh tx now m_rd bf m_bl m_us m_lg m_bd m_dp)) [14, 15, 16, 17, 18, 19, 20, 21, 22, 23] rfl
          have hDc := hD.sub (ws' := (mW cs ad2 len m_spot un m_bo m_cu m_lo m_wh tx now m_rd bf m_bl m_us m_lg m_bd m_dp)) [14, 15, 16, 17, 18, 19, 20, 21, 22, 23] (by decide) rfl
          refine va_calli (va_runV (As := [.int (iI z1)]) (rest := [.int (iI (aCut now z1))]) ⟨hx, hb, hml, hown, hts⟩ (c_X7_cut l D cs ad2 H.size len m_spot un m_bo m_cu m_lo m_wh tx now m_rd bf m_bl m_us m_lg m_bd m_dp z1 hvL (by omega)) (cwV 1 hts (gVl tb_789 tb_790 tb_791 tb_8 tb_792) rfl rfl rfl (by decide +kernel) ⟨Nat.le_of_ble_eq_true rfl, Nat.le_of_ble_eq_true rfl⟩) (preV_M (X := fun _ _ => True) Stb_T hK (va_recv hK hPc (ci := 6) (q0 := 0) rfl rfl) hPc hDc trivial) rfl rfl hl.1 rfl (lv_room (Nat.le_of_ble_eq_true rfl)) dL_law_632 ⟨by exact Nat.le_trans (m := 200000) (by omega) lw_rmC, by exact Nat.le_trans (m := 2500000) (by omega) lw_rmS⟩) hS (fun q _ h => hFc q h) hFc (fun r9 u9 t9 H9 locs ht9 hvm9 hw9 hB9 hz9 hk9 hS => ?_)
          obtain rfl := hw9
          obtain ⟨us2_632, bl2_632, lg2_632, bd2_632, dp2_632, bo2_632, cu2_632, lo2_632, wh2_632, hf632_0, hP1, hD1⟩ := hB9
          rw [ht9] at hP1
          obtain ⟨hPj, hDj⟩ := va_join (wr := [_, _, _, _, _, _, _, _, _, _, _, _, _, _]) hP hD [14, 15, 16, 17, 18, 19, 20, 21, 22, 23] [0, 1, 2, 3, 4, 5, 6, 7, 8, 9, 10, 11, 12, 13] rfl rfl (by decide) (by decide) hk9 hFc hP1 hD1
          have hXI2 := XI.call hXI (fun q z => hM2 q (Mw_mW q z)) hz9 hk9
          generalize H9 = H at *
          have hP : va_P D classes (xW cs ad len pl rlen rpc run_ rbo rcw rt tx gp nu un gq swl2_623 sun2_623 sbo2_623 scw2_623 bo2_623 cu2_623 lo2_623 wh2_623 dps2_623 alk2_623 bof2_623 us2_623 bl2_623 lg2_623 ++ mW cs ad2 len m_spot un bo2_632 cu2_632 lo2_632 wh2_632 tx now m_rd bf bl2_632 us2_632 lg2_632 bd2_632 dp2_632) H := hPj.sub [0, 1, 2, 3, 4, 5, 6, 7, 8, 9, 10, 11, 12, 13, 14, 15, 16, 17, 18, 19, 20, 21, 22, 23] rfl
          have hD : va_D A (xW cs ad len pl rlen rpc run_ rbo rcw rt tx gp nu un gq swl2_623 sun2_623 sbo2_623 scw2_623 bo2_623 cu2_623 lo2_623 wh2_623 dps2_623 alk2_623 bof2_623 us2_623 bl2_623 lg2_623 ++ mW cs ad2 len m_spot un bo2_632 cu2_632 lo2_632 wh2_632 tx now m_rd bf bl2_632 us2_632 lg2_632 bd2_632 dp2_632) := hDj.sub [0, 1, 2, 3, 4, 5, 6, 7, 8, 9, 10, 11, 12, 13, 14, 15, 16, 17, 18, 19, 20, 21, 22, 23] (by decide) rfl
          have hXI := hXI2
          subst hf632_0
          refine lv_icmp_eq (tgt := 762) hx hb dL_law_635 (by decide) (fun _ => ?_) (fun h => absurd rfl h)
          refine rv_iinc (k := 3) (lv' := [(3, .int (iI (((4 * n : Nat) : Int) + 4))), (0, .ref b), (1, .ref (ad 0)), (2, .ref (ad2 0))]) hx hb dL_law_762 hl rfl (by decide) rfl (fun ls hl => ?_)
          refine lv_goto (tgt := 18) hx hb dL_law_765 (by decide) ?_
          refine W.widen (k := 32 + 236 * (n + 1)) (n := 2404 + 4454 * (n + 1)) (by omega) (by omega) ?_
          exact ih18 (n + 1) pl rlen rpc run_ rbo rcw rt gp nu gq swl2_623 sun2_623 sbo2_623 scw2_623 bo2_623 cu2_623 lo2_623 wh2_623 dps2_623 alk2_623 bof2_623 us2_623 bl2_623 lg2_623 m_spot bo2_632 cu2_632 lo2_632 wh2_632 m_rd bl2_632 us2_632 lg2_632 bd2_632 dp2_632 len un tx now bf (by omega) htx hlen hun hnu (by omega) _ (by omega) H locs hP hD hS hXI ls (lv_sub hl [1, 2, 3, 0] rfl)
        by_cases hc18 : (andI z0 31) = 18
        · refine rv_top (y := 18) hc18 ?_
          refine lv_tableIn (tgt := 640) hx hb dL_law_32 (by decide) (by decide) rfl (by decide) ?_
          refine lv_aload_n hx hb dL_law_640 rfl (lv_at hl 1 rfl) ?_
          refine lv_aload_n hx hb dL_law_641 rfl (lv_at hl 0 rfl) ?_
          refine lv_iload_n hx hb dL_law_642 rfl (lv_at hl 3 rfl) ?_
          refine rv_iconst hx hb dL_law_643 ?_
          refine rv_iadd hx hb dL_law_644 ?_
          refine rv_sld hx hb hX hbl hbA hS (4 * n + 1) (by omega) (by omega) ez1 dL_law_645 ?_
          refine lv_aload_n hx hb dL_law_646 rfl (lv_at hl 0 rfl) ?_
          refine lv_iload_n hx hb dL_law_647 rfl (lv_at hl 3 rfl) ?_
          refine rv_iconst hx hb dL_law_648 ?_
          refine rv_iadd hx hb dL_law_649 ?_
          refine rv_sld hx hb hX hbl hbA hS (4 * n + 2) (by omega) (by omega) ez2 dL_law_650 ?_
          have hFc := va_free (wc := (xW cs ad len pl rlen rpc run_ rbo rcw rt tx gp nu un gq swl sun sbo scw bo cu lo wh dps alk bof us bl lg)) hD hS hA [0, 1, 2, 3, 4, 5, 6, 7, 8, 9, 10, 11, 12, 13] rfl
          have hPc := hP.sub (ws' := (xW cs ad len pl rlen rpc run_ rbo rcw rt tx gp nu un gq swl sun sbo scw bo cu lo wh dps alk bof us bl lg)) [0, 1, 2, 3, 4, 5, 6, 7, 8, 9, 10, 11, 12, 13] rfl
          have hDc := hD.sub (ws' := (xW cs ad len pl rlen rpc run_ rbo rcw rt tx gp nu un gq swl sun sbo scw bo cu lo wh dps alk bof us bl lg)) [0, 1, 2, 3, 4, 5, 6, 7, 8, 9, 10, 11, 12, 13] (by decide) rfl
          refine va_calli (va_runV (As := [.int (iI z1), .int (iI z2)]) (rest := []) ⟨hx, hb, hml, hown, hts⟩ (c_X6_board l D cs ad H.size len pl rlen rpc run_ rbo rcw rt tx gp nu un gq swl sun sbo scw bo cu lo wh dps alk bof us bl lg M now bf z1 z2 hM1 hun hlen (by omega) (by omega)) (cwV 2 hts (gVl tb_539 tb_540 tb_541 tb_1 tb_542) rfl rfl rfl (by decide +kernel) ⟨Nat.le_of_ble_eq_true rfl, Nat.le_of_ble_eq_true rfl⟩) (preV_M (X := fun U H => XI D cs M pl now un gq bf U H) XI_stb hK (va_recv hK hPc (ci := 5) (q0 := 0) rfl rfl) hPc hDc hXI) rfl rfl hl.1 rfl (lv_room (Nat.le_of_ble_eq_true rfl)) dL_law_651 ⟨by exact Nat.le_trans (m := 200000) (by omega) lw_rmC, by exact Nat.le_trans (m := 2500000) (by omega) lw_rmS⟩) hS (fun q _ h => hFc q h) hFc (fun r9 u9 t9 H9 locs ht9 hvm9 hw9 hB9 hz9 hk9 hS => ?_)
          obtain rfl := hw9
          obtain ⟨swl2_651, sun2_651, sbo2_651, scw2_651, bo2_651, cu2_651, lo2_651, wh2_651, dps2_651, alk2_651, bof2_651, us2_651, bl2_651, lg2_651, hf651_0, hP1, hD1⟩ := hB9
          rw [ht9] at hP1
          obtain ⟨hPj, hDj⟩ := va_join (wr := [_, _, _, _, _, _, _, _, _, _]) hP hD [0, 1, 2, 3, 4, 5, 6, 7, 8, 9, 10, 11, 12, 13] [14, 15, 16, 17, 18, 19, 20, 21, 22, 23] rfl rfl (by decide) (by decide) hk9 hFc hP1 hD1
          have hXI2 := XI.call hXI (fun q z => hM1 q (Mw_xW q z)) hz9 hk9
          generalize H9 = H at *
          have hP : va_P D classes (xW cs ad len pl rlen rpc run_ rbo rcw rt tx gp nu un gq swl2_651 sun2_651 sbo2_651 scw2_651 bo2_651 cu2_651 lo2_651 wh2_651 dps2_651 alk2_651 bof2_651 us2_651 bl2_651 lg2_651 ++ mW cs ad2 len m_spot un m_bo m_cu m_lo m_wh tx now m_rd bf m_bl m_us m_lg m_bd m_dp) H := hPj.sub [10, 11, 12, 13, 14, 15, 16, 17, 18, 19, 20, 21, 22, 23, 0, 1, 2, 3, 4, 5, 6, 7, 8, 9] rfl
          have hD : va_D A (xW cs ad len pl rlen rpc run_ rbo rcw rt tx gp nu un gq swl2_651 sun2_651 sbo2_651 scw2_651 bo2_651 cu2_651 lo2_651 wh2_651 dps2_651 alk2_651 bof2_651 us2_651 bl2_651 lg2_651 ++ mW cs ad2 len m_spot un m_bo m_cu m_lo m_wh tx now m_rd bf m_bl m_us m_lg m_bd m_dp) := hDj.sub [10, 11, 12, 13, 14, 15, 16, 17, 18, 19, 20, 21, 22, 23, 0, 1, 2, 3, 4, 5, 6, 7, 8, 9] (by decide) rfl
          have hXI := hXI2
          subst hf651_0
          refine lv_aload_n hx hb dL_law_654 rfl (lv_at hl 2 rfl) ?_
          refine lv_aload_n hx hb dL_law_655 rfl (lv_at hl 0 rfl) ?_
          refine lv_iload_n hx hb dL_law_656 rfl (lv_at hl 3 rfl) ?_
          refine rv_iconst hx hb dL_law_657 ?_
          refine rv_iadd hx hb dL_law_658 ?_
          refine rv_sld hx hb hX hbl hbA hS (4 * n + 1) (by omega) (by omega) ez1 dL_law_659 ?_
          refine lv_aload_n hx hb dL_law_660 rfl (lv_at hl 0 rfl) ?_
          refine lv_iload_n hx hb dL_law_661 rfl (lv_at hl 3 rfl) ?_
          refine rv_iconst hx hb dL_law_662 ?_
          refine rv_iadd hx hb dL_law_663 ?_
          refine rv_sld hx hb hX hbl hbA hS (4 * n + 2) (by omega) (by omega) ez2 dL_law_664 ?_
          have hFc := va_free (wc := (mW cs ad2 len m_spot un m_bo m_cu m_lo m_wh tx now m_rd bf m_bl m_us m_lg m_bd m_dp)) hD hS hA [14, 15, 16, 17, 18, 19, 20, 21, 22, 23] rfl
          have hPc := hP.sub (ws' := (mW cs ad2 len m_spot un m_bo m_cu m_lo m_wh tx now m_rd bf m_bl m_us m_lg m_bd m_dp)) [14, 15, 16, 17, 18, 19, 20, 21, 22, 23] rfl
          have hDc := hD.sub (ws' := (mW cs ad2 len m_spot un m_bo m_cu m_lo m_wh tx now m_rd bf m_bl m_us m_lg m_bd m_dp)) [14, 15, 16, 17, 18, 19, 20, 21, 22, 23] (by decide) rfl
          refine va_calli (va_runV (As := [.int (iI z1), .int (iI z2)]) (rest := [.int (iI (aBoard now z1 z2))]) ⟨hx, hb, hml, hown, hts⟩ (c_X7_board l D cs ad2 H.size len m_spot un m_bo m_cu m_lo m_wh tx now m_rd bf m_bl m_us m_lg m_bd m_dp z1 z2 hvL (by omega) (by omega)) (cwV 2 hts (gVl tb_802 tb_803 tb_804 tb_8 tb_805) rfl rfl rfl (by decide +kernel) ⟨Nat.le_of_ble_eq_true rfl, Nat.le_of_ble_eq_true rfl⟩) (preV_M (X := fun _ _ => True) Stb_T hK (va_recv hK hPc (ci := 6) (q0 := 0) rfl rfl) hPc hDc trivial) rfl rfl hl.1 rfl (lv_room (Nat.le_of_ble_eq_true rfl)) dL_law_665 ⟨by exact Nat.le_trans (m := 200000) (by omega) lw_rmC, by exact Nat.le_trans (m := 2500000) (by omega) lw_rmS⟩) hS (fun q _ h => hFc q h) hFc (fun r9 u9 t9 H9 locs ht9 hvm9 hw9 hB9 hz9 hk9 hS => ?_)
          obtain rfl := hw9
          obtain ⟨us2_665, bl2_665, lg2_665, bd2_665, dp2_665, bo2_665, cu2_665, lo2_665, wh2_665, hf665_0, hP1, hD1⟩ := hB9
          rw [ht9] at hP1
          obtain ⟨hPj, hDj⟩ := va_join (wr := [_, _, _, _, _, _, _, _, _, _, _, _, _, _]) hP hD [14, 15, 16, 17, 18, 19, 20, 21, 22, 23] [0, 1, 2, 3, 4, 5, 6, 7, 8, 9, 10, 11, 12, 13] rfl rfl (by decide) (by decide) hk9 hFc hP1 hD1
          have hXI2 := XI.call hXI (fun q z => hM2 q (Mw_mW q z)) hz9 hk9
          generalize H9 = H at *
          have hP : va_P D classes (xW cs ad len pl rlen rpc run_ rbo rcw rt tx gp nu un gq swl2_651 sun2_651 sbo2_651 scw2_651 bo2_651 cu2_651 lo2_651 wh2_651 dps2_651 alk2_651 bof2_651 us2_651 bl2_651 lg2_651 ++ mW cs ad2 len m_spot un bo2_665 cu2_665 lo2_665 wh2_665 tx now m_rd bf bl2_665 us2_665 lg2_665 bd2_665 dp2_665) H := hPj.sub [0, 1, 2, 3, 4, 5, 6, 7, 8, 9, 10, 11, 12, 13, 14, 15, 16, 17, 18, 19, 20, 21, 22, 23] rfl
          have hD : va_D A (xW cs ad len pl rlen rpc run_ rbo rcw rt tx gp nu un gq swl2_651 sun2_651 sbo2_651 scw2_651 bo2_651 cu2_651 lo2_651 wh2_651 dps2_651 alk2_651 bof2_651 us2_651 bl2_651 lg2_651 ++ mW cs ad2 len m_spot un bo2_665 cu2_665 lo2_665 wh2_665 tx now m_rd bf bl2_665 us2_665 lg2_665 bd2_665 dp2_665) := hDj.sub [0, 1, 2, 3, 4, 5, 6, 7, 8, 9, 10, 11, 12, 13, 14, 15, 16, 17, 18, 19, 20, 21, 22, 23] (by decide) rfl
          have hXI := hXI2
          subst hf665_0
          refine lv_icmp_eq (tgt := 762) hx hb dL_law_668 (by decide) (fun _ => ?_) (fun h => absurd rfl h)
          refine rv_iinc (k := 3) (lv' := [(3, .int (iI (((4 * n : Nat) : Int) + 4))), (0, .ref b), (1, .ref (ad 0)), (2, .ref (ad2 0))]) hx hb dL_law_762 hl rfl (by decide) rfl (fun ls hl => ?_)
          refine lv_goto (tgt := 18) hx hb dL_law_765 (by decide) ?_
          refine W.widen (k := 32 + 236 * (n + 1)) (n := 2404 + 4454 * (n + 1)) (by omega) (by omega) ?_
          exact ih18 (n + 1) pl rlen rpc run_ rbo rcw rt gp nu gq swl2_651 sun2_651 sbo2_651 scw2_651 bo2_651 cu2_651 lo2_651 wh2_651 dps2_651 alk2_651 bof2_651 us2_651 bl2_651 lg2_651 m_spot bo2_665 cu2_665 lo2_665 wh2_665 m_rd bl2_665 us2_665 lg2_665 bd2_665 dp2_665 len un tx now bf (by omega) htx hlen hun hnu (by omega) _ (by omega) H locs hP hD hS hXI ls (lv_sub hl [1, 2, 3, 0] rfl)
        by_cases hc19 : (andI z0 31) = 19
        · refine rv_top (y := 19) hc19 ?_
          refine lv_tableIn (tgt := 673) hx hb dL_law_32 (by decide) (by decide) rfl (by decide) ?_
          refine lv_aload_n hx hb dL_law_673 rfl (lv_at hl 1 rfl) ?_
          refine lv_aload_n hx hb dL_law_674 rfl (lv_at hl 0 rfl) ?_
          refine lv_iload_n hx hb dL_law_675 rfl (lv_at hl 3 rfl) ?_
          refine rv_iconst hx hb dL_law_676 ?_
          refine rv_iadd hx hb dL_law_677 ?_
          refine rv_sld hx hb hX hbl hbA hS (4 * n + 1) (by omega) (by omega) ez1 dL_law_678 ?_
          refine lv_aload_n hx hb dL_law_679 rfl (lv_at hl 0 rfl) ?_
          refine lv_iload_n hx hb dL_law_680 rfl (lv_at hl 3 rfl) ?_
          refine rv_iconst hx hb dL_law_681 ?_
          refine rv_iadd hx hb dL_law_682 ?_
          refine rv_sld hx hb hX hbl hbA hS (4 * n + 2) (by omega) (by omega) ez2 dL_law_683 ?_
          have hFc := va_free (wc := (xW cs ad len pl rlen rpc run_ rbo rcw rt tx gp nu un gq swl sun sbo scw bo cu lo wh dps alk bof us bl lg)) hD hS hA [0, 1, 2, 3, 4, 5, 6, 7, 8, 9, 10, 11, 12, 13] rfl
          have hPc := hP.sub (ws' := (xW cs ad len pl rlen rpc run_ rbo rcw rt tx gp nu un gq swl sun sbo scw bo cu lo wh dps alk bof us bl lg)) [0, 1, 2, 3, 4, 5, 6, 7, 8, 9, 10, 11, 12, 13] rfl
          have hDc := hD.sub (ws' := (xW cs ad len pl rlen rpc run_ rbo rcw rt tx gp nu un gq swl sun sbo scw bo cu lo wh dps alk bof us bl lg)) [0, 1, 2, 3, 4, 5, 6, 7, 8, 9, 10, 11, 12, 13] (by decide) rfl
          refine va_calli (va_runV (As := [.int (iI z1), .int (iI z2)]) (rest := []) ⟨hx, hb, hml, hown, hts⟩ (c_X6_where l D cs ad H.size len pl rlen rpc run_ rbo rcw rt tx gp nu un gq swl sun sbo scw bo cu lo wh dps alk bof us bl lg M now bf z1 z2 hM1 hun hlen (by omega) (by omega)) (cwV 2 hts (gVl tb_547 tb_548 tb_549 tb_1 tb_550) rfl rfl rfl (by decide +kernel) ⟨Nat.le_of_ble_eq_true rfl, Nat.le_of_ble_eq_true rfl⟩) (preV_M (X := fun U H => XI D cs M pl now un gq bf U H) XI_stb hK (va_recv hK hPc (ci := 5) (q0 := 0) rfl rfl) hPc hDc hXI) rfl rfl hl.1 rfl (lv_room (Nat.le_of_ble_eq_true rfl)) dL_law_684 ⟨by exact Nat.le_trans (m := 200000) (by omega) lw_rmC, by exact Nat.le_trans (m := 2500000) (by omega) lw_rmS⟩) hS (fun q _ h => hFc q h) hFc (fun r9 u9 t9 H9 locs ht9 hvm9 hw9 hB9 hz9 hk9 hS => ?_)
          obtain rfl := hw9
          obtain ⟨swl2_684, sun2_684, sbo2_684, scw2_684, bo2_684, cu2_684, lo2_684, wh2_684, dps2_684, alk2_684, bof2_684, us2_684, bl2_684, lg2_684, hf684_0, hP1, hD1⟩ := hB9
          rw [ht9] at hP1
          obtain ⟨hPj, hDj⟩ := va_join (wr := [_, _, _, _, _, _, _, _, _, _]) hP hD [0, 1, 2, 3, 4, 5, 6, 7, 8, 9, 10, 11, 12, 13] [14, 15, 16, 17, 18, 19, 20, 21, 22, 23] rfl rfl (by decide) (by decide) hk9 hFc hP1 hD1
          have hXI2 := XI.call hXI (fun q z => hM1 q (Mw_xW q z)) hz9 hk9
          generalize H9 = H at *
          have hP : va_P D classes (xW cs ad len pl rlen rpc run_ rbo rcw rt tx gp nu un gq swl2_684 sun2_684 sbo2_684 scw2_684 bo2_684 cu2_684 lo2_684 wh2_684 dps2_684 alk2_684 bof2_684 us2_684 bl2_684 lg2_684 ++ mW cs ad2 len m_spot un m_bo m_cu m_lo m_wh tx now m_rd bf m_bl m_us m_lg m_bd m_dp) H := hPj.sub [10, 11, 12, 13, 14, 15, 16, 17, 18, 19, 20, 21, 22, 23, 0, 1, 2, 3, 4, 5, 6, 7, 8, 9] rfl
          have hD : va_D A (xW cs ad len pl rlen rpc run_ rbo rcw rt tx gp nu un gq swl2_684 sun2_684 sbo2_684 scw2_684 bo2_684 cu2_684 lo2_684 wh2_684 dps2_684 alk2_684 bof2_684 us2_684 bl2_684 lg2_684 ++ mW cs ad2 len m_spot un m_bo m_cu m_lo m_wh tx now m_rd bf m_bl m_us m_lg m_bd m_dp) := hDj.sub [10, 11, 12, 13, 14, 15, 16, 17, 18, 19, 20, 21, 22, 23, 0, 1, 2, 3, 4, 5, 6, 7, 8, 9] (by decide) rfl
          have hXI := hXI2
          subst hf684_0
          refine lv_aload_n hx hb dL_law_687 rfl (lv_at hl 2 rfl) ?_
          refine lv_aload_n hx hb dL_law_688 rfl (lv_at hl 0 rfl) ?_
          refine lv_iload_n hx hb dL_law_689 rfl (lv_at hl 3 rfl) ?_
          refine rv_iconst hx hb dL_law_690 ?_
          refine rv_iadd hx hb dL_law_691 ?_
          refine rv_sld hx hb hX hbl hbA hS (4 * n + 1) (by omega) (by omega) ez1 dL_law_692 ?_
          refine lv_aload_n hx hb dL_law_693 rfl (lv_at hl 0 rfl) ?_
          refine lv_iload_n hx hb dL_law_694 rfl (lv_at hl 3 rfl) ?_
          refine rv_iconst hx hb dL_law_695 ?_
          refine rv_iadd hx hb dL_law_696 ?_
          refine rv_sld hx hb hX hbl hbA hS (4 * n + 2) (by omega) (by omega) ez2 dL_law_697 ?_
          have hFc := va_free (wc := (mW cs ad2 len m_spot un m_bo m_cu m_lo m_wh tx now m_rd bf m_bl m_us m_lg m_bd m_dp)) hD hS hA [14, 15, 16, 17, 18, 19, 20, 21, 22, 23] rfl
          have hPc := hP.sub (ws' := (mW cs ad2 len m_spot un m_bo m_cu m_lo m_wh tx now m_rd bf m_bl m_us m_lg m_bd m_dp)) [14, 15, 16, 17, 18, 19, 20, 21, 22, 23] rfl
          have hDc := hD.sub (ws' := (mW cs ad2 len m_spot un m_bo m_cu m_lo m_wh tx now m_rd bf m_bl m_us m_lg m_bd m_dp)) [14, 15, 16, 17, 18, 19, 20, 21, 22, 23] (by decide) rfl
          refine va_calli (va_runV (As := [.int (iI z1), .int (iI z2)]) (rest := [.int (iI (aWhere now z1 z2))]) ⟨hx, hb, hml, hown, hts⟩ (c_X7_where l D cs ad2 H.size len m_spot un m_bo m_cu m_lo m_wh tx now m_rd bf m_bl m_us m_lg m_bd m_dp z1 z2 hvL (by omega) (by omega)) (cwV 2 hts (gVl tb_806 tb_807 tb_808 tb_8 tb_809) rfl rfl rfl (by decide +kernel) ⟨Nat.le_of_ble_eq_true rfl, Nat.le_of_ble_eq_true rfl⟩) (preV_M (X := fun _ _ => True) Stb_T hK (va_recv hK hPc (ci := 6) (q0 := 0) rfl rfl) hPc hDc trivial) rfl rfl hl.1 rfl (lv_room (Nat.le_of_ble_eq_true rfl)) dL_law_698 ⟨by exact Nat.le_trans (m := 200000) (by omega) lw_rmC, by exact Nat.le_trans (m := 2500000) (by omega) lw_rmS⟩) hS (fun q _ h => hFc q h) hFc (fun r9 u9 t9 H9 locs ht9 hvm9 hw9 hB9 hz9 hk9 hS => ?_)
          obtain rfl := hw9
          obtain ⟨us2_698, bl2_698, lg2_698, bd2_698, dp2_698, bo2_698, cu2_698, lo2_698, wh2_698, hf698_0, hP1, hD1⟩ := hB9
          rw [ht9] at hP1
          obtain ⟨hPj, hDj⟩ := va_join (wr := [_, _, _, _, _, _, _, _, _, _, _, _, _, _]) hP hD [14, 15, 16, 17, 18, 19, 20, 21, 22, 23] [0, 1, 2, 3, 4, 5, 6, 7, 8, 9, 10, 11, 12, 13] rfl rfl (by decide) (by decide) hk9 hFc hP1 hD1
          have hXI2 := XI.call hXI (fun q z => hM2 q (Mw_mW q z)) hz9 hk9
          generalize H9 = H at *
          have hP : va_P D classes (xW cs ad len pl rlen rpc run_ rbo rcw rt tx gp nu un gq swl2_684 sun2_684 sbo2_684 scw2_684 bo2_684 cu2_684 lo2_684 wh2_684 dps2_684 alk2_684 bof2_684 us2_684 bl2_684 lg2_684 ++ mW cs ad2 len m_spot un bo2_698 cu2_698 lo2_698 wh2_698 tx now m_rd bf bl2_698 us2_698 lg2_698 bd2_698 dp2_698) H := hPj.sub [0, 1, 2, 3, 4, 5, 6, 7, 8, 9, 10, 11, 12, 13, 14, 15, 16, 17, 18, 19, 20, 21, 22, 23] rfl
          have hD : va_D A (xW cs ad len pl rlen rpc run_ rbo rcw rt tx gp nu un gq swl2_684 sun2_684 sbo2_684 scw2_684 bo2_684 cu2_684 lo2_684 wh2_684 dps2_684 alk2_684 bof2_684 us2_684 bl2_684 lg2_684 ++ mW cs ad2 len m_spot un bo2_698 cu2_698 lo2_698 wh2_698 tx now m_rd bf bl2_698 us2_698 lg2_698 bd2_698 dp2_698) := hDj.sub [0, 1, 2, 3, 4, 5, 6, 7, 8, 9, 10, 11, 12, 13, 14, 15, 16, 17, 18, 19, 20, 21, 22, 23] (by decide) rfl
          have hXI := hXI2
          subst hf698_0
          refine lv_icmp_eq (tgt := 762) hx hb dL_law_701 (by decide) (fun _ => ?_) (fun h => absurd rfl h)
          refine rv_iinc (k := 3) (lv' := [(3, .int (iI (((4 * n : Nat) : Int) + 4))), (0, .ref b), (1, .ref (ad 0)), (2, .ref (ad2 0))]) hx hb dL_law_762 hl rfl (by decide) rfl (fun ls hl => ?_)
          refine lv_goto (tgt := 18) hx hb dL_law_765 (by decide) ?_
          refine W.widen (k := 32 + 236 * (n + 1)) (n := 2404 + 4454 * (n + 1)) (by omega) (by omega) ?_
          exact ih18 (n + 1) pl rlen rpc run_ rbo rcw rt gp nu gq swl2_684 sun2_684 sbo2_684 scw2_684 bo2_684 cu2_684 lo2_684 wh2_684 dps2_684 alk2_684 bof2_684 us2_684 bl2_684 lg2_684 m_spot bo2_698 cu2_698 lo2_698 wh2_698 m_rd bl2_698 us2_698 lg2_698 bd2_698 dp2_698 len un tx now bf (by omega) htx hlen hun hnu (by omega) _ (by omega) H locs hP hD hS hXI ls (lv_sub hl [1, 2, 3, 0] rfl)
        by_cases hc20 : (andI z0 31) = 20
        · refine rv_top (y := 20) hc20 ?_
          refine lv_tableIn (tgt := 706) hx hb dL_law_32 (by decide) (by decide) rfl (by decide) ?_
          refine lv_aload_n hx hb dL_law_706 rfl (lv_at hl 1 rfl) ?_
          refine lv_aload_n hx hb dL_law_707 rfl (lv_at hl 0 rfl) ?_
          refine lv_iload_n hx hb dL_law_708 rfl (lv_at hl 3 rfl) ?_
          refine rv_iconst hx hb dL_law_709 ?_
          refine rv_iadd hx hb dL_law_710 ?_
          refine rv_sld hx hb hX hbl hbA hS (4 * n + 1) (by omega) (by omega) ez1 dL_law_711 ?_
          refine lv_aload_n hx hb dL_law_712 rfl (lv_at hl 0 rfl) ?_
          refine lv_iload_n hx hb dL_law_713 rfl (lv_at hl 3 rfl) ?_
          refine rv_iconst hx hb dL_law_714 ?_
          refine rv_iadd hx hb dL_law_715 ?_
          refine rv_sld hx hb hX hbl hbA hS (4 * n + 2) (by omega) (by omega) ez2 dL_law_716 ?_
          have hFc := va_free (wc := (xW cs ad len pl rlen rpc run_ rbo rcw rt tx gp nu un gq swl sun sbo scw bo cu lo wh dps alk bof us bl lg)) hD hS hA [0, 1, 2, 3, 4, 5, 6, 7, 8, 9, 10, 11, 12, 13] rfl
          have hPc := hP.sub (ws' := (xW cs ad len pl rlen rpc run_ rbo rcw rt tx gp nu un gq swl sun sbo scw bo cu lo wh dps alk bof us bl lg)) [0, 1, 2, 3, 4, 5, 6, 7, 8, 9, 10, 11, 12, 13] rfl
          have hDc := hD.sub (ws' := (xW cs ad len pl rlen rpc run_ rbo rcw rt tx gp nu un gq swl sun sbo scw bo cu lo wh dps alk bof us bl lg)) [0, 1, 2, 3, 4, 5, 6, 7, 8, 9, 10, 11, 12, 13] (by decide) rfl
          refine va_calli (va_runV (As := [.int (iI z1), .int (iI z2)]) (rest := []) ⟨hx, hb, hml, hown, hts⟩ (c_X6_best l D cs ad H.size len pl rlen rpc run_ rbo rcw rt tx gp nu un gq swl sun sbo scw bo cu lo wh dps alk bof us bl lg M now bf z1 z2 hM1 hun hlen (by omega) (by omega)) (cwV 2 hts (gVl tb_559 tb_560 tb_561 tb_1 tb_562) rfl rfl rfl (by decide +kernel) ⟨Nat.le_of_ble_eq_true rfl, Nat.le_of_ble_eq_true rfl⟩) (preV_M (X := fun U H => XI D cs M pl now un gq bf U H) XI_stb hK (va_recv hK hPc (ci := 5) (q0 := 0) rfl rfl) hPc hDc hXI) rfl rfl hl.1 rfl (lv_room (Nat.le_of_ble_eq_true rfl)) dL_law_717 ⟨by exact Nat.le_trans (m := 200000) (by omega) lw_rmC, by exact Nat.le_trans (m := 2500000) (by omega) lw_rmS⟩) hS (fun q _ h => hFc q h) hFc (fun r9 u9 t9 H9 locs ht9 hvm9 hw9 hB9 hz9 hk9 hS => ?_)
          obtain rfl := hw9
          obtain ⟨swl2_717, sun2_717, sbo2_717, scw2_717, bo2_717, cu2_717, lo2_717, wh2_717, dps2_717, alk2_717, bof2_717, us2_717, bl2_717, lg2_717, hf717_0, hP1, hD1⟩ := hB9
          rw [ht9] at hP1
          obtain ⟨hPj, hDj⟩ := va_join (wr := [_, _, _, _, _, _, _, _, _, _]) hP hD [0, 1, 2, 3, 4, 5, 6, 7, 8, 9, 10, 11, 12, 13] [14, 15, 16, 17, 18, 19, 20, 21, 22, 23] rfl rfl (by decide) (by decide) hk9 hFc hP1 hD1
          have hXI2 := XI.call hXI (fun q z => hM1 q (Mw_xW q z)) hz9 hk9
          generalize H9 = H at *
          have hP : va_P D classes (xW cs ad len pl rlen rpc run_ rbo rcw rt tx gp nu un gq swl2_717 sun2_717 sbo2_717 scw2_717 bo2_717 cu2_717 lo2_717 wh2_717 dps2_717 alk2_717 bof2_717 us2_717 bl2_717 lg2_717 ++ mW cs ad2 len m_spot un m_bo m_cu m_lo m_wh tx now m_rd bf m_bl m_us m_lg m_bd m_dp) H := hPj.sub [10, 11, 12, 13, 14, 15, 16, 17, 18, 19, 20, 21, 22, 23, 0, 1, 2, 3, 4, 5, 6, 7, 8, 9] rfl
          have hD : va_D A (xW cs ad len pl rlen rpc run_ rbo rcw rt tx gp nu un gq swl2_717 sun2_717 sbo2_717 scw2_717 bo2_717 cu2_717 lo2_717 wh2_717 dps2_717 alk2_717 bof2_717 us2_717 bl2_717 lg2_717 ++ mW cs ad2 len m_spot un m_bo m_cu m_lo m_wh tx now m_rd bf m_bl m_us m_lg m_bd m_dp) := hDj.sub [10, 11, 12, 13, 14, 15, 16, 17, 18, 19, 20, 21, 22, 23, 0, 1, 2, 3, 4, 5, 6, 7, 8, 9] (by decide) rfl
          have hXI := hXI2
          subst hf717_0
          refine lv_aload_n hx hb dL_law_720 rfl (lv_at hl 2 rfl) ?_
          refine lv_aload_n hx hb dL_law_721 rfl (lv_at hl 0 rfl) ?_
          refine lv_iload_n hx hb dL_law_722 rfl (lv_at hl 3 rfl) ?_
          refine rv_iconst hx hb dL_law_723 ?_
          refine rv_iadd hx hb dL_law_724 ?_
          refine rv_sld hx hb hX hbl hbA hS (4 * n + 1) (by omega) (by omega) ez1 dL_law_725 ?_
          refine lv_aload_n hx hb dL_law_726 rfl (lv_at hl 0 rfl) ?_
          refine lv_iload_n hx hb dL_law_727 rfl (lv_at hl 3 rfl) ?_
          refine rv_iconst hx hb dL_law_728 ?_
          refine rv_iadd hx hb dL_law_729 ?_
          refine rv_sld hx hb hX hbl hbA hS (4 * n + 2) (by omega) (by omega) ez2 dL_law_730 ?_
          have hFc := va_free (wc := (mW cs ad2 len m_spot un m_bo m_cu m_lo m_wh tx now m_rd bf m_bl m_us m_lg m_bd m_dp)) hD hS hA [14, 15, 16, 17, 18, 19, 20, 21, 22, 23] rfl
          have hPc := hP.sub (ws' := (mW cs ad2 len m_spot un m_bo m_cu m_lo m_wh tx now m_rd bf m_bl m_us m_lg m_bd m_dp)) [14, 15, 16, 17, 18, 19, 20, 21, 22, 23] rfl
          have hDc := hD.sub (ws' := (mW cs ad2 len m_spot un m_bo m_cu m_lo m_wh tx now m_rd bf m_bl m_us m_lg m_bd m_dp)) [14, 15, 16, 17, 18, 19, 20, 21, 22, 23] (by decide) rfl
          refine va_calli (va_runV (As := [.int (iI z1), .int (iI z2)]) (rest := [.int (iI (aBest now z1 z2))]) ⟨hx, hb, hml, hown, hts⟩ (c_X7_best l D cs ad2 H.size len m_spot un m_bo m_cu m_lo m_wh tx now m_rd bf m_bl m_us m_lg m_bd m_dp z1 z2 hvL (by omega) (by omega)) (cwV 2 hts (gVl tb_810 tb_811 tb_812 tb_8 tb_813) rfl rfl rfl (by decide +kernel) ⟨Nat.le_of_ble_eq_true rfl, Nat.le_of_ble_eq_true rfl⟩) (preV_M (X := fun _ _ => True) Stb_T hK (va_recv hK hPc (ci := 6) (q0 := 0) rfl rfl) hPc hDc trivial) rfl rfl hl.1 rfl (lv_room (Nat.le_of_ble_eq_true rfl)) dL_law_731 ⟨by exact Nat.le_trans (m := 200000) (by omega) lw_rmC, by exact Nat.le_trans (m := 2500000) (by omega) lw_rmS⟩) hS (fun q _ h => hFc q h) hFc (fun r9 u9 t9 H9 locs ht9 hvm9 hw9 hB9 hz9 hk9 hS => ?_)
          obtain rfl := hw9
          obtain ⟨us2_731, bl2_731, lg2_731, bd2_731, dp2_731, bo2_731, cu2_731, lo2_731, wh2_731, hf731_0, hP1, hD1⟩ := hB9
          rw [ht9] at hP1
          obtain ⟨hPj, hDj⟩ := va_join (wr := [_, _, _, _, _, _, _, _, _, _, _, _, _, _]) hP hD [14, 15, 16, 17, 18, 19, 20, 21, 22, 23] [0, 1, 2, 3, 4, 5, 6, 7, 8, 9, 10, 11, 12, 13] rfl rfl (by decide) (by decide) hk9 hFc hP1 hD1
          have hXI2 := XI.call hXI (fun q z => hM2 q (Mw_mW q z)) hz9 hk9
          generalize H9 = H at *
          have hP : va_P D classes (xW cs ad len pl rlen rpc run_ rbo rcw rt tx gp nu un gq swl2_717 sun2_717 sbo2_717 scw2_717 bo2_717 cu2_717 lo2_717 wh2_717 dps2_717 alk2_717 bof2_717 us2_717 bl2_717 lg2_717 ++ mW cs ad2 len m_spot un bo2_731 cu2_731 lo2_731 wh2_731 tx now m_rd bf bl2_731 us2_731 lg2_731 bd2_731 dp2_731) H := hPj.sub [0, 1, 2, 3, 4, 5, 6, 7, 8, 9, 10, 11, 12, 13, 14, 15, 16, 17, 18, 19, 20, 21, 22, 23] rfl
          have hD : va_D A (xW cs ad len pl rlen rpc run_ rbo rcw rt tx gp nu un gq swl2_717 sun2_717 sbo2_717 scw2_717 bo2_717 cu2_717 lo2_717 wh2_717 dps2_717 alk2_717 bof2_717 us2_717 bl2_717 lg2_717 ++ mW cs ad2 len m_spot un bo2_731 cu2_731 lo2_731 wh2_731 tx now m_rd bf bl2_731 us2_731 lg2_731 bd2_731 dp2_731) := hDj.sub [0, 1, 2, 3, 4, 5, 6, 7, 8, 9, 10, 11, 12, 13, 14, 15, 16, 17, 18, 19, 20, 21, 22, 23] (by decide) rfl
          have hXI := hXI2
          subst hf731_0
          refine lv_icmp_eq (tgt := 762) hx hb dL_law_734 (by decide) (fun _ => ?_) (fun h => absurd rfl h)
          refine rv_iinc (k := 3) (lv' := [(3, .int (iI (((4 * n : Nat) : Int) + 4))), (0, .ref b), (1, .ref (ad 0)), (2, .ref (ad2 0))]) hx hb dL_law_762 hl rfl (by decide) rfl (fun ls hl => ?_)
          refine lv_goto (tgt := 18) hx hb dL_law_765 (by decide) ?_
          refine W.widen (k := 32 + 236 * (n + 1)) (n := 2404 + 4454 * (n + 1)) (by omega) (by omega) ?_
          exact ih18 (n + 1) pl rlen rpc run_ rbo rcw rt gp nu gq swl2_717 sun2_717 sbo2_717 scw2_717 bo2_717 cu2_717 lo2_717 wh2_717 dps2_717 alk2_717 bof2_717 us2_717 bl2_717 lg2_717 m_spot bo2_731 cu2_731 lo2_731 wh2_731 m_rd bl2_731 us2_731 lg2_731 bd2_731 dp2_731 len un tx now bf (by omega) htx hlen hun hnu (by omega) _ (by omega) H locs hP hD hS hXI ls (lv_sub hl [1, 2, 3, 0] rfl)
        by_cases hc21 : (andI z0 31) = 21
        · refine rv_top (y := 21) hc21 ?_
          refine lv_tableIn (tgt := 739) hx hb dL_law_32 (by decide) (by decide) rfl (by decide) ?_
          refine lv_aload_n hx hb dL_law_739 rfl (lv_at hl 1 rfl) ?_
          refine lv_aload_n hx hb dL_law_740 rfl (lv_at hl 0 rfl) ?_
          refine lv_iload_n hx hb dL_law_741 rfl (lv_at hl 3 rfl) ?_
          refine rv_iconst hx hb dL_law_742 ?_
          refine rv_iadd hx hb dL_law_743 ?_
          refine rv_sld hx hb hX hbl hbA hS (4 * n + 1) (by omega) (by omega) ez1 dL_law_744 ?_
          have hFc := va_free (wc := (xW cs ad len pl rlen rpc run_ rbo rcw rt tx gp nu un gq swl sun sbo scw bo cu lo wh dps alk bof us bl lg)) hD hS hA [0, 1, 2, 3, 4, 5, 6, 7, 8, 9, 10, 11, 12, 13] rfl
          have hPc := hP.sub (ws' := (xW cs ad len pl rlen rpc run_ rbo rcw rt tx gp nu un gq swl sun sbo scw bo cu lo wh dps alk bof us bl lg)) [0, 1, 2, 3, 4, 5, 6, 7, 8, 9, 10, 11, 12, 13] rfl
          have hDc := hD.sub (ws' := (xW cs ad len pl rlen rpc run_ rbo rcw rt tx gp nu un gq swl sun sbo scw bo cu lo wh dps alk bof us bl lg)) [0, 1, 2, 3, 4, 5, 6, 7, 8, 9, 10, 11, 12, 13] (by decide) rfl
          refine va_calli (va_runV (As := [.int (iI z1)]) (rest := []) ⟨hx, hb, hml, hown, hts⟩ (c_X6_count l D cs ad H.size len pl rlen rpc run_ rbo rcw rt tx gp nu un gq swl sun sbo scw bo cu lo wh dps alk bof us bl lg M now bf z1 hM1 hun hlen (by omega)) (cwV 1 hts (gVl tb_574 tb_575 tb_576 tb_1 tb_577) rfl rfl rfl (by decide +kernel) ⟨Nat.le_of_ble_eq_true rfl, Nat.le_of_ble_eq_true rfl⟩) (preV_M (X := fun U H => XI D cs M pl now un gq bf U H) XI_stb hK (va_recv hK hPc (ci := 5) (q0 := 0) rfl rfl) hPc hDc hXI) rfl rfl hl.1 rfl (lv_room (Nat.le_of_ble_eq_true rfl)) dL_law_745 ⟨by exact Nat.le_trans (m := 200000) (by omega) lw_rmC, by exact Nat.le_trans (m := 2500000) (by omega) lw_rmS⟩) hS (fun q _ h => hFc q h) hFc (fun r9 u9 t9 H9 locs ht9 hvm9 hw9 hB9 hz9 hk9 hS => ?_)
          obtain rfl := hw9
          obtain ⟨hf745_0, hP1, hD1⟩ := hB9
          rw [ht9] at hP1
          obtain ⟨hPj, hDj⟩ := va_join (wr := [_, _, _, _, _, _, _, _, _, _]) hP hD [0, 1, 2, 3, 4, 5, 6, 7, 8, 9, 10, 11, 12, 13] [14, 15, 16, 17, 18, 19, 20, 21, 22, 23] rfl rfl (by decide) (by decide) hk9 hFc hP1 hD1
          have hXI2 := XI.call hXI (fun q z => hM1 q (Mw_xW q z)) hz9 hk9
          generalize H9 = H at *
          have hP : va_P D classes (xW cs ad len pl rlen rpc run_ rbo rcw rt tx gp nu un gq swl sun sbo scw bo cu lo wh dps alk bof us bl lg ++ mW cs ad2 len m_spot un m_bo m_cu m_lo m_wh tx now m_rd bf m_bl m_us m_lg m_bd m_dp) H := hPj.sub [10, 11, 12, 13, 14, 15, 16, 17, 18, 19, 20, 21, 22, 23, 0, 1, 2, 3, 4, 5, 6, 7, 8, 9] rfl
          have hD : va_D A (xW cs ad len pl rlen rpc run_ rbo rcw rt tx gp nu un gq swl sun sbo scw bo cu lo wh dps alk bof us bl lg ++ mW cs ad2 len m_spot un m_bo m_cu m_lo m_wh tx now m_rd bf m_bl m_us m_lg m_bd m_dp) := hDj.sub [10, 11, 12, 13, 14, 15, 16, 17, 18, 19, 20, 21, 22, 23, 0, 1, 2, 3, 4, 5, 6, 7, 8, 9] (by decide) rfl
          have hXI := hXI2
          subst hf745_0
          refine lv_aload_n hx hb dL_law_748 rfl (lv_at hl 2 rfl) ?_
          refine lv_aload_n hx hb dL_law_749 rfl (lv_at hl 0 rfl) ?_
          refine lv_iload_n hx hb dL_law_750 rfl (lv_at hl 3 rfl) ?_
          refine rv_iconst hx hb dL_law_751 ?_
          refine rv_iadd hx hb dL_law_752 ?_
          refine rv_sld hx hb hX hbl hbA hS (4 * n + 1) (by omega) (by omega) ez1 dL_law_753 ?_
          refine vp_callSi (W.runV (As := [.int (iI z1)]) (rest := [.int (iI (aCount now un len z1))]) ⟨hx, hb, hml, hown, hts⟩ (c_X7_count l D cs (ad2 0) (ad2 2) _ now un len z1 rfl rfl (by omega)) (cwV 1 hts (gVl tb_814 tb_815 tb_816 tb_8 tb_817) rfl rfl rfl (by decide +kernel) ⟨Nat.le_of_ble_eq_true rfl, Nat.le_of_ble_eq_true rfl⟩) (preV_mod hK ⟨hP.sub [14, 16] rfl, rfl, hvL⟩) rfl rfl hl.1 rfl (lv_room (Nat.le_of_ble_eq_true rfl)) dL_law_754 ⟨by exact Nat.le_trans (m := 200000) (by omega) lw_rmC, by exact Nat.le_trans (m := 2500000) (by omega) lw_rmS⟩) (fun r9 hr9 => ?_)
          subst hr9
          refine lv_icmp_eq (tgt := 762) hx hb dL_law_757 (by decide) (fun _ => ?_) (fun h => absurd rfl h)
          refine rv_iinc (k := 3) (lv' := [(3, .int (iI (((4 * n : Nat) : Int) + 4))), (0, .ref b), (1, .ref (ad 0)), (2, .ref (ad2 0))]) hx hb dL_law_762 hl rfl (by decide) rfl (fun ls hl => ?_)
          refine lv_goto (tgt := 18) hx hb dL_law_765 (by decide) ?_
          refine W.widen (k := 32 + 236 * (n + 1)) (n := 2404 + 4454 * (n + 1)) (by omega) (by omega) ?_
          exact ih18 (n + 1) pl rlen rpc run_ rbo rcw rt gp nu gq swl sun sbo scw bo cu lo wh dps alk bof us bl lg m_spot m_bo m_cu m_lo m_wh m_rd m_bl m_us m_lg m_bd m_dp len un tx now bf (by omega) htx hlen hun hnu (by omega) _ (by omega) H locs hP hD hS hXI ls (lv_sub hl [1, 2, 3, 0] rfl)
        refine lv_tableOut (tgt := 762) hx hb dL_law_32 (by rw [iI_toInt (by omega)]; omega) (by decide) ?_
        refine rv_iinc (k := 3) (lv' := [(3, .int (iI (((4 * n : Nat) : Int) + 4))), (0, .ref b), (1, .ref (ad 0)), (2, .ref (ad2 0))]) hx hb dL_law_762 hl rfl (by decide) rfl (fun ls hl => ?_)
        refine lv_goto (tgt := 18) hx hb dL_law_765 (by decide) ?_
        refine W.widen (k := 32 + 236 * (n + 1)) (n := 2404 + 4454 * (n + 1)) (by omega) (by omega) ?_
        exact ih18 (n + 1) pl rlen rpc run_ rbo rcw rt gp nu gq swl sun sbo scw bo cu lo wh dps alk bof us bl lg m_spot m_bo m_cu m_lo m_wh m_rd m_bl m_us m_lg m_bd m_dp len un tx now bf (by omega) htx hlen hun hnu (by omega) _ (by omega) H locs hP hD hS hXI ls (lv_sub hl [1, 2, 3, 0] rfl)
  exact loop18 (_ + 1) 0 pl_4 0 0 0 0 0 (.null) (fun _ => none) (fun _ => 0) (fun _ => none) 0 0 0 0 0 0 0 0 (fun _ => 0) (fun _ => 0) (fun _ => 0) (fun _ => 0) (fun _ => 0) (fun _ => 0) 0 0 0 0 0 (fun _ => 0) (fun _ => 0) (fun _ => 0) (fun _ => 0) (fun _ => 0) (fun _ => 0) 0 0 (fun _ => 0) nw_12 (fun _ => 0) (by omega) htx (by decide) (by decide) hnu (Nat.lt_succ_self _) _ rfl H locs hP hD hS hXI ls (lv_sub hl [3, 2, 1, 0] rfl)

