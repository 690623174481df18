/-! Saw -/

abbrev rm_X5_hasRoom : Room := { frames := 0, cells := 0, slots := 0, locals := 0 }
set_option maxHeartbeats 4000000 in
set_option maxRecDepth 100000 in
/-- hasRoom -/
theorem c_X5_hasRoom (l : Launch) (D : va_G) (cs : Nat → ClassId) (ad : Nat → Nat) (swl : Int) (sun : Int) (sbo : Int) (scw : Int) (bo : Int) (cu : Int) (lo : Int) (wh : Int) (dps : Nat → Int) (alk : Nat → Int) (bof : Nat → Int) (us : Nat → Int) (bl : Nat → Int) (lg : Nat → Int) (b : Int) (size : Int) (hb0 : 0 ≤ b ∧ b < 160) (hsz : 0 ≤ size ∧ size ≤ 400) (hus : 0 ≤ us b.toNat ∧ us b.toNat ≤ 400) (hbl : 0 ≤ bl b.toNat ∧ bl b.toNat ≤ 160) (hcw : 0 ≤ scw ∧ scw ≤ 5) (hsb : 0 ≤ sbo ∧ sbo ≤ 400) : Met l yX5_hasRoom (Cond.code yX5_hasRoom cX5_hasRoom 3 (some .boolean) :: TB) rm_X5_hasRoom (va_Pc [.ref (ad 7), .int (iI b), .int (iI size)] (fun U => KA D cs U ∧ va_P D classes (sW cs ad swl sun sbo scw bo cu lo wh dps alk bof us bl lg) U.heap)) (vp_Si (fun r => (r = iI 1 ∧ (us (b).toNat + scw * bl (b).toNat + size ≤ sbo)) ∨ (r = iI 0 ∧ ¬ (us (b).toNat + scw * bl (b).toNat + size ≤ sbo)))) 0 0 (fun _ => False) := by
  refine enter (cc := cX5_hasRoom) (maxL := 3) (ret := (some .boolean)) (by decide) (Nat.le_of_ble_eq_true rfl) ?_
  intro pg ev s m below meth c Q ls hx hb hml hown hts hr hlocks hnm ⟨hK, hP⟩ hl hQ
  have ht : ∀ w ∈ TB, w.before _ s = true := fun w h => hts w (List.mem_cons_of_mem _ h)
  have hl : lv_has ls 3 [(0, .ref (ad 7)), (1, .int (iI b)), (2, .int (iI size))] := hl
  have hm1 : 0 ≤ scw * bl b.toNat := Int.mul_nonneg (by omega) (by omega)
  have hm2 : scw * bl b.toNat ≤ 5 * 160 := Int.mul_le_mul (by omega) (by omega) (by omega) (by decide)
  have hm3 : bl b.toNat * scw = scw * bl b.toNat := Int.mul_comm _ _
  refine lv_iload_n hx hb dX5_hasRoom_0 rfl (lv_at hl 1 rfl) ?_
  refine rv_sipush hx hb dX5_hasRoom_1 (by decide) ?_
  refine rv_icmp_ge (tgt := 38) hx hb dX5_hasRoom_4 (by decide) (by omega) (fun h4 => False.elim (by omega)) (fun h4 => ?_)
  refine lv_aload_n hx hb dX5_hasRoom_7 rfl (lv_at hl 0 rfl) ?_
  refine va_get (D := D) (ci := 4) (v := .ref (ad 11)) (C := RX5) (T := TX5) (N := 14) hx hb ht inTB_X5 hown hK hP 0 rfl rfl 3 (by decide) (ht _ tb_80) (fun _ h9 => h9) rfl dX5_hasRoom_8 ?_
  refine lv_iload_n hx hb dX5_hasRoom_11 rfl (lv_at hl 1 rfl) ?_
  refine rv_iald hx hb hK hP 4 0 rfl rfl b.toNat (by omega) (by omega) dX5_hasRoom_12 ?_
  refine lv_iload_n hx hb dX5_hasRoom_13 rfl (lv_at hl 2 rfl) ?_
  refine rv_iadd hx hb dX5_hasRoom_14 ?_
  refine lv_aload_n hx hb dX5_hasRoom_15 rfl (lv_at hl 0 rfl) ?_
  refine va_get (D := D) (ci := 4) (v := .ref (ad 12)) (C := RX5) (T := TX5) (N := 14) hx hb ht inTB_X5 hown hK hP 0 rfl rfl 4 (by decide) (ht _ tb_81) (fun _ h9 => h9) rfl dX5_hasRoom_16 ?_
  refine lv_iload_n hx hb dX5_hasRoom_19 rfl (lv_at hl 1 rfl) ?_
  refine rv_iald hx hb hK hP 5 0 rfl rfl b.toNat (by omega) (by omega) dX5_hasRoom_20 ?_
  refine lv_aload_n hx hb dX5_hasRoom_21 rfl (lv_at hl 0 rfl) ?_
  refine va_get (D := D) (ci := 4) (v := .int (iI scw)) (C := RX5) (T := TX5) (N := 14) hx hb ht inTB_X5 hown hK hP 0 rfl rfl 9 (by decide) (ht _ tb_88) (fun _ h9 => h9) rfl dX5_hasRoom_22 ?_
  refine rv_imul hx hb dX5_hasRoom_25 ?_
  refine rv_iadd hx hb dX5_hasRoom_26 ?_
  refine lv_aload_n hx hb dX5_hasRoom_27 rfl (lv_at hl 0 rfl) ?_
  refine va_get (D := D) (ci := 4) (v := .int (iI sbo)) (C := RX5) (T := TX5) (N := 14) hx hb ht inTB_X5 hown hK hP 0 rfl rfl 8 (by decide) (ht _ tb_87) (fun _ h9 => h9) rfl dX5_hasRoom_28 ?_
  refine rv_icmp_gt (tgt := 38) hx hb dX5_hasRoom_31 (by decide) (by omega) (fun h31 => ?_) (fun h31 => ?_)
  · refine rv_iconst hx hb dX5_hasRoom_38 ?_
    subst hQ
    exact W.zret (ty := .boolean) hx hb hr (by decide) (fun t9 ht9 hW9 => ⟨_, rfl, Or.inr ⟨rfl, by omega⟩, ht9⟩) (fun _ h => absurd h List.not_mem_nil) dX5_hasRoom_39
  · refine rv_iconst hx hb dX5_hasRoom_34 ?_
    refine lv_goto (tgt := 39) hx hb dX5_hasRoom_35 (by decide) ?_
    subst hQ
    exact W.zret (ty := .boolean) hx hb hr (by decide) (fun t9 ht9 hW9 => ⟨_, rfl, Or.inl ⟨rfl, by omega⟩, ht9⟩) (fun _ h => absurd h List.not_mem_nil) dX5_hasRoom_39

abbrev rm_X5_cutFrom : Room := { frames := 0, cells := 0, slots := 0, locals := 0 }
set_option maxHeartbeats 8000000 in
set_option maxRecDepth 100000 in
/-- cutFrom -/
theorem c_X5_cutFrom (l : Launch) (D : va_G) (cs : Nat → ClassId) (ad : Nat → Nat) (sz : Nat) (swl : Int) (sun : Int) (sbo : Int) (scw : Int) (bo : Int) (cu : Int) (lo : Int) (wh : Int) (dps : Nat → Int) (alk : Nat → Int) (bof : Nat → Int) (us : Nat → Int) (bl : Nat → Int) (lg : Nat → Int) (b : Int) (size : Int) (hF : ((ffs scw sbo size ((bo, cu, wh), us, bl, lg, bof) : Nat) : Int) = b) (hbo : bo ≤ 160) (hb0 : b ≤ bo ∧ b < 160) (hcu : 0 ≤ cu ∧ cu < 160) : Met l yX5_cutFrom (Cond.code yX5_cutFrom cX5_cutFrom 3 none :: TB) rm_X5_cutFrom (va_Pc [.ref (ad 7), .int (iI b), .int (iI size)] (MPre D cs sz (sW cs ad swl sun sbo scw bo cu lo wh dps alk bof us bl lg) (fun _ _ => True))) (va_Qv (fun _ : Unit => True) (fun _ t => ∃ (bo2 : Int) (cu2 : Int) (wh2 : Int) (us2 : Nat → Int) (bl2 : Nat → Int) (lg2 : Nat → Int) (bof2 : Nat → Int), ((((bo2, cu2, wh2), us2, bl2, lg2, bof2) : CS) = cut1 scw sbo size ((bo, cu, wh), us, bl, lg, bof)) ∧ va_P D classes (sW cs ad swl sun sbo scw bo2 cu2 lo wh2 dps alk bof2 us2 bl2 lg2) t.heap ∧ va_D (va_A (sW cs ad swl sun sbo scw bo cu lo wh dps alk bof us bl lg) sz) (sW cs ad swl sun sbo scw bo2 cu2 lo wh2 dps alk bof2 us2 bl2 lg2)) (va_A (sW cs ad swl sun sbo scw bo cu lo wh dps alk bof us bl lg) sz)) 0 0 (va_A (sW cs ad swl sun sbo scw bo cu lo wh dps alk bof us bl lg) sz) := by
  refine enter (cc := cX5_cutFrom) (maxL := 3) (ret := none) (by decide) (Nat.le_of_ble_eq_true rfl) ?_
  intro pg ev s m below meth c Q ls hx hb hml hown hts hr hlocks hnm ⟨hsz, hP, hD0, hK, hX0⟩ hl hQ
  have ht : ∀ w ∈ TB, w.before _ s = true := fun w h => hts w (List.mem_cons_of_mem _ h)
  subst hsz
  have hD := hD0.self (sz := s.heap.size)
  obtain ⟨A, hAe⟩ : ∃ A, va_A (sW cs ad swl sun sbo scw bo cu lo wh dps alk bof us bl lg) s.heap.size = A := ⟨_, rfl⟩
  rw [hAe] at hD
  have hA : ∀ q : Nat, s.heap.size ≤ q → A q := fun q h => by rw [← hAe]; exact Or.inr h
  obtain ⟨H, hH⟩ : ∃ H, H = s.heap := ⟨_, rfl⟩
  obtain ⟨locs, hlocs⟩ : ∃ locs : List Loc, locs = [] := ⟨_, rfl⟩
  have hS : va_S A s.heap H locs := by rw [hH, hlocs]; exact va_S.rf
  rw [← hH] at hP
  suffices hgo : W pg l ev rm_X5_cutFrom s m [.ref (ad 7), .int (iI b), .int (iI size)].toArray below meth c H locs 0 0 Q (F0 m 0 ls []) by rw [hH, hlocs] at hgo; exact hgo
  have hl : lv_has ls 3 [(0, .ref (ad 7)), (1, .int (iI b)), (2, .int (iI size))] := hl
  have hb9 : 0 ≤ b := by omega
  have hFn : ffs scw sbo size ((bo, cu, wh), us, bl, lg, bof) = b.toNat := by omega
  refine lv_iload_n hx hb dX5_cutFrom_0 rfl (lv_at hl 1 rfl) ?_
  refine rv_if_lt (tgt := 21) hx hb dX5_cutFrom_1 (by decide) (by omega) (fun h1 => False.elim (by omega)) (fun h1 => ?_)
  refine lv_iload_n hx hb dX5_cutFrom_4 rfl (lv_at hl 1 rfl) ?_
  refine rv_sipush hx hb dX5_cutFrom_5 (by decide) ?_
  refine rv_icmp_ge (tgt := 21) hx hb dX5_cutFrom_8 (by decide) (by omega) (fun h8 => False.elim (by omega)) (fun h8 => ?_)
  refine lv_aload_n hx hb dX5_cutFrom_11 rfl (lv_at hl 0 rfl) ?_
  refine va_get (D := D) (ci := 4) (v := .int (iI cu)) (C := RX5) (T := TX5) (N := 14) hx hb ht inTB_X5 hown hK hP 0 rfl rfl 11 (by decide) (ht _ tb_91) (fun _ h9 => h9) rfl dX5_cutFrom_12 ?_
  refine rv_sipush hx hb dX5_cutFrom_15 (by decide) ?_
  refine rv_icmp_lt (tgt := 22) hx hb dX5_cutFrom_18 (by decide) (by omega) (fun h18 => ?_) (fun h18 => False.elim (by omega))
  refine lv_iload_n hx hb dX5_cutFrom_22 rfl (lv_at hl 1 rfl) ?_
  refine lv_aload_n hx hb dX5_cutFrom_23 rfl (lv_at hl 0 rfl) ?_
  refine va_get (D := D) (ci := 4) (v := .int (iI bo)) (C := RX5) (T := TX5) (N := 14) hx hb ht inTB_X5 hown hK hP 0 rfl rfl 10 (by decide) (ht _ tb_89) (fun _ h9 => h9) rfl dX5_cutFrom_24 ?_
  refine rv_icmp_ne (tgt := 61) hx hb dX5_cutFrom_27 (by decide) (by omega) (fun h27 => ?_) (fun h27 => ?_)
  · refine lv_aload_n hx hb dX5_cutFrom_61 rfl (lv_at hl 0 rfl) ?_
    refine va_get (D := D) (ci := 4) (v := .ref (ad 11)) (C := RX5) (T := TX5) (N := 14) hx hb ht inTB_X5 hown hK hP 0 rfl rfl 3 (by decide) (ht _ tb_80) (fun _ h9 => h9) rfl dX5_cutFrom_62 ?_
    refine lv_iload_n hx hb dX5_cutFrom_65 rfl (lv_at hl 1 rfl) ?_
    refine lv_dup2_11 hx hb dX5_cutFrom_66 rfl rfl ?_
    refine rv_iald hx hb hK hP 4 0 rfl rfl b.toNat (by omega) (by omega) dX5_cutFrom_67 ?_
    refine lv_iload_n hx hb dX5_cutFrom_68 rfl (lv_at hl 2 rfl) ?_
    refine rv_iadd hx hb dX5_cutFrom_69 ?_
    refine rv_iast hx hb hK hP hD hS 4 0 rfl rfl b.toNat (by omega) (by omega) dX5_cutFrom_70 (fun H locs hP hD hS => ?_)
    have hP : va_P D classes (sW cs ad swl sun sbo scw bo cu lo wh dps alk bof (upI us b.toNat ((us b.toNat) + size)) bl lg) H := hP
    have hD : va_D A (sW cs ad swl sun sbo scw bo cu lo wh dps alk bof (upI us b.toNat ((us b.toNat) + size)) bl lg) := hD
    refine lv_aload_n hx hb dX5_cutFrom_71 rfl (lv_at hl 0 rfl) ?_
    refine va_get (D := D) (ci := 4) (v := .ref (ad 12)) (C := RX5) (T := TX5) (N := 14) hx hb ht inTB_X5 hown hK hP 0 rfl rfl 4 (by decide) (ht _ tb_81) (fun _ h9 => h9) rfl dX5_cutFrom_72 ?_
    refine lv_iload_n hx hb dX5_cutFrom_75 rfl (lv_at hl 1 rfl) ?_
    refine lv_dup2_11 hx hb dX5_cutFrom_76 rfl rfl ?_
    refine rv_iald hx hb hK hP 5 0 rfl rfl b.toNat (by omega) (by omega) dX5_cutFrom_77 ?_
    refine rv_iconst hx hb dX5_cutFrom_78 ?_
    refine rv_iadd hx hb dX5_cutFrom_79 ?_
    refine rv_iast hx hb hK hP hD hS 5 0 rfl rfl b.toNat (by omega) (by omega) dX5_cutFrom_80 (fun H locs hP hD hS => ?_)
    have hP : va_P D classes (sW cs ad swl sun sbo scw bo cu lo wh dps alk bof (upI us b.toNat ((us b.toNat) + size)) (upI bl b.toNat ((bl b.toNat) + 1)) lg) H := hP
    have hD : va_D A (sW cs ad swl sun sbo scw bo cu lo wh dps alk bof (upI us b.toNat ((us b.toNat) + size)) (upI bl b.toNat ((bl b.toNat) + 1)) lg) := hD
    refine lv_aload_n hx hb dX5_cutFrom_81 rfl (lv_at hl 0 rfl) ?_
    refine va_get (D := D) (ci := 4) (v := .ref (ad 10)) (C := RX5) (T := TX5) (N := 14) hx hb ht inTB_X5 hown hK hP 0 rfl rfl 2 (by decide) (ht _ tb_79) (fun _ h9 => h9) rfl dX5_cutFrom_82 ?_
    refine lv_aload_n hx hb dX5_cutFrom_85 rfl (lv_at hl 0 rfl) ?_
    refine va_get (D := D) (ci := 4) (v := .int (iI cu)) (C := RX5) (T := TX5) (N := 14) hx hb ht inTB_X5 hown hK hP 0 rfl rfl 11 (by decide) (ht _ tb_91) (fun _ h9 => h9) rfl dX5_cutFrom_86 ?_
    refine lv_iload_n hx hb dX5_cutFrom_89 rfl (lv_at hl 1 rfl) ?_
    refine rv_iast hx hb hK hP hD hS 3 0 rfl rfl cu.toNat (by omega) (by omega) dX5_cutFrom_90 (fun H locs hP hD hS => ?_)
    have hP : va_P D classes (sW cs ad swl sun sbo scw bo cu lo wh dps alk (upI bof cu.toNat b) (upI us b.toNat ((us b.toNat) + size)) (upI bl b.toNat ((bl b.toNat) + 1)) lg) H := hP
    have hD : va_D A (sW cs ad swl sun sbo scw bo cu lo wh dps alk (upI bof cu.toNat b) (upI us b.toNat ((us b.toNat) + size)) (upI bl b.toNat ((bl b.toNat) + 1)) lg) := hD
    refine lv_aload_n hx hb dX5_cutFrom_91 rfl (lv_at hl 0 rfl) ?_
    refine lv_dup hx hb dX5_cutFrom_92 rfl ?_
    refine va_get (D := D) (ci := 4) (v := .int (iI cu)) (C := RX5) (T := TX5) (N := 14) hx hb ht inTB_X5 hown hK hP 0 rfl rfl 11 (by decide) (ht _ tb_91) (fun _ h9 => h9) rfl dX5_cutFrom_93 ?_
    refine rv_iconst hx hb dX5_cutFrom_96 ?_
    refine rv_iadd hx hb dX5_cutFrom_97 ?_
    refine va_put (D := D) (ci := 4) (v := .int (iI (cu + 1))) (ty := tyX5 11) (C := RX5) (T := TX5) (N := 14) hx hb ht inTB_X5 tyX5 tyX5_ok nmX5 hown hK hP hD hS 0 rfl rfl 11 (by decide) (ht _ tb_91) (fun _ h9 => h9) rfl (tyX5_ok 11 (by decide)) rfl rfl (Nat.le_of_ble_eq_true rfl) dX5_cutFrom_98 (fun H locs hP hD hS => ?_)
    have hP : va_P D classes (sW cs ad swl sun sbo scw bo (cu + 1) lo wh dps alk (upI bof cu.toNat b) (upI us b.toNat ((us b.toNat) + size)) (upI bl b.toNat ((bl b.toNat) + 1)) lg) H := hP
    have hD : va_D A (sW cs ad swl sun sbo scw bo (cu + 1) lo wh dps alk (upI bof cu.toNat b) (upI us b.toNat ((us b.toNat) + size)) (upI bl b.toNat ((bl b.toNat) + 1)) lg) := hD
    refine lv_aload_n hx hb dX5_cutFrom_101 rfl (lv_at hl 0 rfl) ?_
    refine lv_dup hx hb dX5_cutFrom_102 rfl ?_
    refine va_get (D := D) (ci := 4) (v := .int (iI wh)) (C := RX5) (T := TX5) (N := 14) hx hb ht inTB_X5 hown hK hP 0 rfl rfl 13 (by decide) (ht _ tb_95) (fun _ h9 => h9) rfl dX5_cutFrom_103 ?_
    refine lv_iload_n hx hb dX5_cutFrom_106 rfl (lv_at hl 2 rfl) ?_
    refine rv_iadd hx hb dX5_cutFrom_107 ?_
    refine va_put (D := D) (ci := 4) (v := .int (iI (wh + size))) (ty := tyX5 13) (C := RX5) (T := TX5) (N := 14) hx hb ht inTB_X5 tyX5 tyX5_ok nmX5 hown hK hP hD hS 0 rfl rfl 13 (by decide) (ht _ tb_95) (fun _ h9 => h9) rfl (tyX5_ok 13 (by decide)) rfl rfl (Nat.le_of_ble_eq_true rfl) dX5_cutFrom_108 (fun H locs hP hD hS => ?_)
    have hP : va_P D classes (sW cs ad swl sun sbo scw bo (cu + 1) lo (wh + size) dps alk (upI bof cu.toNat b) (upI us b.toNat ((us b.toNat) + size)) (upI bl b.toNat ((bl b.toNat) + 1)) lg) H := hP
    have hD : va_D A (sW cs ad swl sun sbo scw bo (cu + 1) lo (wh + size) dps alk (upI bof cu.toNat b) (upI us b.toNat ((us b.toNat) + size)) (upI bl b.toNat ((bl b.toNat) + 1)) lg) := hD
    subst hQ
    exact W.vret hx hb hr (fun t9 ht9 hW9 => ⟨⟨(), rfl, trivial, ⟨bo, (cu + 1), (wh + size), (upI us b.toNat ((us b.toNat) + size)), (upI bl b.toNat ((bl b.toNat) + 1)), lg, (upI bof cu.toNat b), by unfold cut1; rw [hFn]; first | (rw [if_pos (show ((b.toNat : Nat) : Int) = ((((bo, cu, wh), us, bl, lg, bof) : CS)).1.1 from (show ((b.toNat : Nat) : Int) = bo by omega)), show ((b.toNat : Nat) : Int) = b by omega]; done) | (rw [if_neg (show ¬ ((b.toNat : Nat) : Int) = ((((bo, cu, wh), us, bl, lg, bof) : CS)).1.1 from (show ¬ ((b.toNat : Nat) : Int) = bo by omega)), show ((b.toNat : Nat) : Int) = b by omega]; done), by rw [ht9]; exact hP, by rw [hAe]; exact hD⟩⟩, by rw [hAe]; exact hS.F ht9⟩) (by rw [hAe]; exact hS.2.2) dX5_cutFrom_111
  · refine lv_aload_n hx hb dX5_cutFrom_30 rfl (lv_at hl 0 rfl) ?_
    refine lv_dup hx hb dX5_cutFrom_31 rfl ?_
    refine va_get (D := D) (ci := 4) (v := .int (iI bo)) (C := RX5) (T := TX5) (N := 14) hx hb ht inTB_X5 hown hK hP 0 rfl rfl 10 (by decide) (ht _ tb_89) (fun _ h9 => h9) rfl dX5_cutFrom_32 ?_
    refine rv_iconst hx hb dX5_cutFrom_35 ?_
    refine rv_iadd hx hb dX5_cutFrom_36 ?_
    refine va_put (D := D) (ci := 4) (v := .int (iI (bo + 1))) (ty := tyX5 10) (C := RX5) (T := TX5) (N := 14) hx hb ht inTB_X5 tyX5 tyX5_ok nmX5 hown hK hP hD hS 0 rfl rfl 10 (by decide) (ht _ tb_89) (fun _ h9 => h9) rfl (tyX5_ok 10 (by decide)) rfl rfl (Nat.le_of_ble_eq_true rfl) dX5_cutFrom_37 (fun H locs hP hD hS => ?_)
    have hP : va_P D classes (sW cs ad swl sun sbo scw (bo + 1) cu lo wh dps alk bof us bl lg) H := hP
    have hD : va_D A (sW cs ad swl sun sbo scw (bo + 1) cu lo wh dps alk bof us bl lg) := hD
    refine lv_aload_n hx hb dX5_cutFrom_40 rfl (lv_at hl 0 rfl) ?_
    refine va_get (D := D) (ci := 4) (v := .ref (ad 11)) (C := RX5) (T := TX5) (N := 14) hx hb ht inTB_X5 hown hK hP 0 rfl rfl 3 (by decide) (ht _ tb_80) (fun _ h9 => h9) rfl dX5_cutFrom_41 ?_
    refine lv_iload_n hx hb dX5_cutFrom_44 rfl (lv_at hl 1 rfl) ?_
    refine rv_iconst hx hb dX5_cutFrom_45 ?_
    refine rv_iast hx hb hK hP hD hS 4 0 rfl rfl b.toNat (by omega) (by omega) dX5_cutFrom_46 (fun H locs hP hD hS => ?_)
    have hP : va_P D classes (sW cs ad swl sun sbo scw (bo + 1) cu lo wh dps alk bof (upI us b.toNat 0) bl lg) H := hP
    have hD : va_D A (sW cs ad swl sun sbo scw (bo + 1) cu lo wh dps alk bof (upI us b.toNat 0) bl lg) := hD
    refine lv_aload_n hx hb dX5_cutFrom_47 rfl (lv_at hl 0 rfl) ?_
    refine va_get (D := D) (ci := 4) (v := .ref (ad 12)) (C := RX5) (T := TX5) (N := 14) hx hb ht inTB_X5 hown hK hP 0 rfl rfl 4 (by decide) (ht _ tb_81) (fun _ h9 => h9) rfl dX5_cutFrom_48 ?_
    refine lv_iload_n hx hb dX5_cutFrom_51 rfl (lv_at hl 1 rfl) ?_
    refine rv_iconst hx hb dX5_cutFrom_52 ?_
    refine rv_iast hx hb hK hP hD hS 5 0 rfl rfl b.toNat (by omega) (by omega) dX5_cutFrom_53 (fun H locs hP hD hS => ?_)
    have hP : va_P D classes (sW cs ad swl sun sbo scw (bo + 1) cu lo wh dps alk bof (upI us b.toNat 0) (upI bl b.toNat 0) lg) H := hP
    have hD : va_D A (sW cs ad swl sun sbo scw (bo + 1) cu lo wh dps alk bof (upI us b.toNat 0) (upI bl b.toNat 0) lg) := hD
    refine lv_aload_n hx hb dX5_cutFrom_54 rfl (lv_at hl 0 rfl) ?_
    refine va_get (D := D) (ci := 4) (v := .ref (ad 13)) (C := RX5) (T := TX5) (N := 14) hx hb ht inTB_X5 hown hK hP 0 rfl rfl 5 (by decide) (ht _ tb_83) (fun _ h9 => h9) rfl dX5_cutFrom_55 ?_
    refine lv_iload_n hx hb dX5_cutFrom_58 rfl (lv_at hl 1 rfl) ?_
    refine lv_iload_n hx hb dX5_cutFrom_59 rfl (lv_at hl 2 rfl) ?_
    refine rv_iast hx hb hK hP hD hS 6 0 rfl rfl b.toNat (by omega) (by omega) dX5_cutFrom_60 (fun H locs hP hD hS => ?_)
    have hP : va_P D classes (sW cs ad swl sun sbo scw (bo + 1) cu lo wh dps alk bof (upI us b.toNat 0) (upI bl b.toNat 0) (upI lg b.toNat size)) H := hP
    have hD : va_D A (sW cs ad swl sun sbo scw (bo + 1) cu lo wh dps alk bof (upI us b.toNat 0) (upI bl b.toNat 0) (upI lg b.toNat size)) := hD
    refine lv_aload_n hx hb dX5_cutFrom_61 rfl (lv_at hl 0 rfl) ?_
    refine va_get (D := D) (ci := 4) (v := .ref (ad 11)) (C := RX5) (T := TX5) (N := 14) hx hb ht inTB_X5 hown hK hP 0 rfl rfl 3 (by decide) (ht _ tb_80) (fun _ h9 => h9) rfl dX5_cutFrom_62 ?_
    refine lv_iload_n hx hb dX5_cutFrom_65 rfl (lv_at hl 1 rfl) ?_
    refine lv_dup2_11 hx hb dX5_cutFrom_66 rfl rfl ?_
    refine rv_iald hx hb hK hP 4 0 rfl rfl b.toNat (by omega) (by omega) dX5_cutFrom_67 ?_
    refine lv_iload_n hx hb dX5_cutFrom_68 rfl (lv_at hl 2 rfl) ?_
    refine rv_iadd hx hb dX5_cutFrom_69 ?_
    refine rv_iast hx hb hK hP hD hS 4 0 rfl rfl b.toNat (by omega) (by omega) dX5_cutFrom_70 (fun H locs hP hD hS => ?_)
    have hP : va_P D classes (sW cs ad swl sun sbo scw (bo + 1) cu lo wh dps alk bof (upI (upI us b.toNat 0) b.toNat (((upI us b.toNat 0) b.toNat) + size)) (upI bl b.toNat 0) (upI lg b.toNat size)) H := hP
    have hD : va_D A (sW cs ad swl sun sbo scw (bo + 1) cu lo wh dps alk bof (upI (upI us b.toNat 0) b.toNat (((upI us b.toNat 0) b.toNat) + size)) (upI bl b.toNat 0) (upI lg b.toNat size)) := hD
    refine lv_aload_n hx hb dX5_cutFrom_71 rfl (lv_at hl 0 rfl) ?_
    refine va_get (D := D) (ci := 4) (v := .ref (ad 12)) (C := RX5) (T := TX5) (N := 14) hx hb ht inTB_X5 hown hK hP 0 rfl rfl 4 (by decide) (ht _ tb_81) (fun _ h9 => h9) rfl dX5_cutFrom_72 ?_
    refine lv_iload_n hx hb dX5_cutFrom_75 rfl (lv_at hl 1 rfl) ?_
    refine lv_dup2_11 hx hb dX5_cutFrom_76 rfl rfl ?_
    refine rv_iald hx hb hK hP 5 0 rfl rfl b.toNat (by omega) (by omega) dX5_cutFrom_77 ?_
    refine rv_iconst hx hb dX5_cutFrom_78 ?_
    refine rv_iadd hx hb dX5_cutFrom_79 ?_
    refine rv_iast hx hb hK hP hD hS 5 0 rfl rfl b.toNat (by omega) (by omega) dX5_cutFrom_80 (fun H locs hP hD hS => ?_)
    have hP : va_P D classes (sW cs ad swl sun sbo scw (bo + 1) cu lo wh dps alk bof (upI (upI us b.toNat 0) b.toNat (((upI us b.toNat 0) b.toNat) + size)) (upI (upI bl b.toNat 0) b.toNat (((upI bl b.toNat 0) b.toNat) + 1)) (upI lg b.toNat size)) H := hP
    have hD : va_D A (sW cs ad swl sun sbo scw (bo + 1) cu lo wh dps alk bof (upI (upI us b.toNat 0) b.toNat (((upI us b.toNat 0) b.toNat) + size)) (upI (upI bl b.toNat 0) b.toNat (((upI bl b.toNat 0) b.toNat) + 1)) (upI lg b.toNat size)) := hD
    refine lv_aload_n hx hb dX5_cutFrom_81 rfl (lv_at hl 0 rfl) ?_
    refine va_get (D := D) (ci := 4) (v := .ref (ad 10)) (C := RX5) (T := TX5) (N := 14) hx hb ht inTB_X5 hown hK hP 0 rfl rfl 2 (by decide) (ht _ tb_79) (fun _ h9 => h9) rfl dX5_cutFrom_82 ?_
    refine lv_aload_n hx hb dX5_cutFrom_85 rfl (lv_at hl 0 rfl) ?_
    refine va_get (D := D) (ci := 4) (v := .int (iI cu)) (C := RX5) (T := TX5) (N := 14) hx hb ht inTB_X5 hown hK hP 0 rfl rfl 11 (by decide) (ht _ tb_91) (fun _ h9 => h9) rfl dX5_cutFrom_86 ?_
    refine lv_iload_n hx hb dX5_cutFrom_89 rfl (lv_at hl 1 rfl) ?_
    refine rv_iast hx hb hK hP hD hS 3 0 rfl rfl cu.toNat (by omega) (by omega) dX5_cutFrom_90 (fun H locs hP hD hS => ?_)
    have hP : va_P D classes (sW cs ad swl sun sbo scw (bo + 1) cu lo wh dps alk (upI bof cu.toNat b) (upI (upI us b.toNat 0) b.toNat (((upI us b.toNat 0) b.toNat) + size)) (upI (upI bl b.toNat 0) b.toNat (((upI bl b.toNat 0) b.toNat) + 1)) (upI lg b.toNat size)) H := hP
    have hD : va_D A (sW cs ad swl sun sbo scw (bo + 1) cu lo wh dps alk (upI bof cu.toNat b) (upI (upI us b.toNat 0) b.toNat (((upI us b.toNat 0) b.toNat) + size)) (upI (upI bl b.toNat 0) b.toNat (((upI bl b.toNat 0) b.toNat) + 1)) (upI lg b.toNat size)) := hD
    refine lv_aload_n hx hb dX5_cutFrom_91 rfl (lv_at hl 0 rfl) ?_
    refine lv_dup hx hb dX5_cutFrom_92 rfl ?_
    refine va_get (D := D) (ci := 4) (v := .int (iI cu)) (C := RX5) (T := TX5) (N := 14) hx hb ht inTB_X5 hown hK hP 0 rfl rfl 11 (by decide) (ht _ tb_91) (fun _ h9 => h9) rfl dX5_cutFrom_93 ?_
    refine rv_iconst hx hb dX5_cutFrom_96 ?_
    refine rv_iadd hx hb dX5_cutFrom_97 ?_
    refine va_put (D := D) (ci := 4) (v := .int (iI (cu + 1))) (ty := tyX5 11) (C := RX5) (T := TX5) (N := 14) hx hb ht inTB_X5 tyX5 tyX5_ok nmX5 hown hK hP hD hS 0 rfl rfl 11 (by decide) (ht _ tb_91) (fun _ h9 => h9) rfl (tyX5_ok 11 (by decide)) rfl rfl (Nat.le_of_ble_eq_true rfl) dX5_cutFrom_98 (fun H locs hP hD hS => ?_)
    have hP : va_P D classes (sW cs ad swl sun sbo scw (bo + 1) (cu + 1) lo wh dps alk (upI bof cu.toNat b) (upI (upI us b.toNat 0) b.toNat (((upI us b.toNat 0) b.toNat) + size)) (upI (upI bl b.toNat 0) b.toNat (((upI bl b.toNat 0) b.toNat) + 1)) (upI lg b.toNat size)) H := hP
    have hD : va_D A (sW cs ad swl sun sbo scw (bo + 1) (cu + 1) lo wh dps alk (upI bof cu.toNat b) (upI (upI us b.toNat 0) b.toNat (((upI us b.toNat 0) b.toNat) + size)) (upI (upI bl b.toNat 0) b.toNat (((upI bl b.toNat 0) b.toNat) + 1)) (upI lg b.toNat size)) := hD
    refine lv_aload_n hx hb dX5_cutFrom_101 rfl (lv_at hl 0 rfl) ?_
    refine lv_dup hx hb dX5_cutFrom_102 rfl ?_
    refine va_get (D := D) (ci := 4) (v := .int (iI wh)) (C := RX5) (T := TX5) (N := 14) hx hb ht inTB_X5 hown hK hP 0 rfl rfl 13 (by decide) (ht _ tb_95) (fun _ h9 => h9) rfl dX5_cutFrom_103 ?_
    refine lv_iload_n hx hb dX5_cutFrom_106 rfl (lv_at hl 2 rfl) ?_
    refine rv_iadd hx hb dX5_cutFrom_107 ?_
    refine va_put (D := D) (ci := 4) (v := .int (iI (wh + size))) (ty := tyX5 13) (C := RX5) (T := TX5) (N := 14) hx hb ht inTB_X5 tyX5 tyX5_ok nmX5 hown hK hP hD hS 0 rfl rfl 13 (by decide) (ht _ tb_95) (fun _ h9 => h9) rfl (tyX5_ok 13 (by decide)) rfl rfl (Nat.le_of_ble_eq_true rfl) dX5_cutFrom_108 (fun H locs hP hD hS => ?_)
    have hP : va_P D classes (sW cs ad swl sun sbo scw (bo + 1) (cu + 1) lo (wh + size) dps alk (upI bof cu.toNat b) (upI (upI us b.toNat 0) b.toNat (((upI us b.toNat 0) b.toNat) + size)) (upI (upI bl b.toNat 0) b.toNat (((upI bl b.toNat 0) b.toNat) + 1)) (upI lg b.toNat size)) H := hP
    have hD : va_D A (sW cs ad swl sun sbo scw (bo + 1) (cu + 1) lo (wh + size) dps alk (upI bof cu.toNat b) (upI (upI us b.toNat 0) b.toNat (((upI us b.toNat 0) b.toNat) + size)) (upI (upI bl b.toNat 0) b.toNat (((upI bl b.toNat 0) b.toNat) + 1)) (upI lg b.toNat size)) := hD
    subst hQ
    exact W.vret hx hb hr (fun t9 ht9 hW9 => ⟨⟨(), rfl, trivial, ⟨(bo + 1), (cu + 1), (wh + size), (upI (upI us b.toNat 0) b.toNat (((upI us b.toNat 0) b.toNat) + size)), (upI (upI bl b.toNat 0) b.toNat (((upI bl b.toNat 0) b.toNat) + 1)), (upI lg b.toNat size), (upI bof cu.toNat b), by unfold cut1; rw [hFn]; first | (rw [if_pos (show ((b.toNat : Nat) : Int) = ((((bo, cu, wh), us, bl, lg, bof) : CS)).1.1 from (show ((b.toNat : Nat) : Int) = bo by omega)), show ((b.toNat : Nat) : Int) = b by omega]; done) | (rw [if_neg (show ¬ ((b.toNat : Nat) : Int) = ((((bo, cu, wh), us, bl, lg, bof) : CS)).1.1 from (show ¬ ((b.toNat : Nat) : Int) = bo by omega)), show ((b.toNat : Nat) : Int) = b by omega]; done), by rw [ht9]; exact hP, by rw [hAe]; exact hD⟩⟩, by rw [hAe]; exact hS.F ht9⟩) (by rw [hAe]; exact hS.2.2) dX5_cutFrom_111

abbrev rm_X5_cutAlike : Room := { frames := 1, cells := 0, slots := 0, locals := 22 }
set_option maxHeartbeats 8000000 in
set_option maxRecDepth 100000 in
/-- cutAlike -/
theorem c_X5_cutAlike (l : Launch) (D : va_G) (cs : Nat → ClassId) (ad : Nat → Nat) (sz : Nat) (swl : Int) (sun : Int) (sbo : Int) (scw : Int) (bo : Int) (cu : Int) (lo : Int) (wh : Int) (dps : Nat → Int) (alk : Nat → Int) (bof : Nat → Int) (us : Nat → Int) (bl : Nat → Int) (lg : Nat → Int) (size : Int) (many : Int) (hok : okC ((bo, cu, wh), us, bl, lg, bof)) (hsz : 0 ≤ size ∧ size ≤ sbo ∧ sbo ≤ 400) (hcw : 0 ≤ scw ∧ scw ≤ 5) (hmn : 0 ≤ many ∧ cu + many ≤ 160) : Met l yX5_cutAlike (Cond.code yX5_cutAlike cX5_cutAlike 5 none :: TB) rm_X5_cutAlike (va_Pc [.ref (ad 7), .int (iI size), .int (iI many)] (MPre D cs sz (sW cs ad swl sun sbo scw bo cu lo wh dps alk bof us bl lg) (fun _ _ => True))) (va_Qv (fun _ : Unit => True) (fun _ t => ∃ (bo2 : Int) (cu2 : Int) (wh2 : Int) (us2 : Nat → Int) (bl2 : Nat → Int) (lg2 : Nat → Int) (bof2 : Nat → Int), ((((bo2, cu2, wh2), us2, bl2, lg2, bof2) : CS) = itC scw sbo size many.toNat ((bo, cu, wh), us, bl, lg, bof)) ∧ va_P D classes (sW cs ad swl sun sbo scw bo2 cu2 lo wh2 dps alk bof2 us2 bl2 lg2) t.heap ∧ va_D (va_A (sW cs ad swl sun sbo scw bo cu lo wh dps alk bof us bl lg) sz) (sW cs ad swl sun sbo scw bo2 cu2 lo wh2 dps alk bof2 us2 bl2 lg2)) (va_A (sW cs ad swl sun sbo scw bo cu lo wh dps alk bof us bl lg) sz)) 0 0 (va_A (sW cs ad swl sun sbo scw bo cu lo wh dps alk bof us bl lg) sz) := by
  refine enter (cc := cX5_cutAlike) (maxL := 5) (ret := none) (by decide) (Nat.le_of_ble_eq_true rfl) ?_
  intro pg ev s m below meth c Q ls hx hb hml hown hts hr hlocks hnm ⟨hsz, hP, hD0, hK, hX0⟩ hl hQ
  have ht : ∀ w ∈ TB, w.before _ s = true := fun w h => hts w (List.mem_cons_of_mem _ h)
  subst hsz
  have hD := hD0.self (sz := s.heap.size)
  obtain ⟨A, hAe⟩ : ∃ A, va_A (sW cs ad swl sun sbo scw bo cu lo wh dps alk bof us bl lg) s.heap.size = A := ⟨_, rfl⟩
  rw [hAe] at hD
  have hA : ∀ q : Nat, s.heap.size ≤ q → A q := fun q h => by rw [← hAe]; exact Or.inr h
  obtain ⟨H, hH⟩ : ∃ H, H = s.heap := ⟨_, rfl⟩
  obtain ⟨locs, hlocs⟩ : ∃ locs : List Loc, locs = [] := ⟨_, rfl⟩
  have hS : va_S A s.heap H locs := by rw [hH, hlocs]; exact va_S.rf
  rw [← hH] at hP
  suffices hgo : W pg l ev rm_X5_cutAlike s m [.ref (ad 7), .int (iI size), .int (iI many)].toArray below meth c H locs 0 0 Q (F0 m 0 ls []) by rw [hH, hlocs] at hgo; exact hgo
  have hl : lv_has ls 5 [(0, .ref (ad 7)), (1, .int (iI size)), (2, .int (iI many))] := hl
  refine rv_iconst hx hb dX5_cutAlike_0 ?_
  refine lv_istore_n (lv' := [(3, .int (iI 0)), (0, .ref (ad 7)), (1, .int (iI size)), (2, .int (iI many))]) hx hb dX5_cutAlike_1 rfl hl (by decide) rfl (fun ls hl => ?_)
  refine rv_iconst hx hb dX5_cutAlike_2 ?_
  refine lv_istore (lv' := [(4, .int (iI 0)), (3, .int (iI 0)), (0, .ref (ad 7)), (1, .int (iI size)), (2, .int (iI many))]) hx hb dX5_cutAlike_3 hl (by decide) rfl (fun ls hl => ?_)
  have loop5 : ∀ (fuel5 : Nat) (i : Nat) (b : Nat) (B1 : Int) (C1 : Int) (W1 : Int) (U1 : Nat → Int) (L1 : Nat → Int) (G1 : Nat → Int) (F1 : Nat → Int), ((i : Int) ≤ many) → (((((B1, C1, W1), U1, L1, G1, F1) : CS)) = itC scw sbo size i ((bo, cu, wh), us, bl, lg, bof)) → ((b : Int) ≤ B1) → (∀ j : Nat, j < b → ¬ U1 j + scw * L1 j + size ≤ sbo) → (many - (i : Int)).toNat < fuel5 → ∀ (x3 x4 : Int), x3 = (b : Int) → x4 = (i : Int) → ∀ (H : Heap) (locs : List Loc), va_P D classes (sW cs ad swl sun sbo scw B1 C1 lo W1 dps alk F1 U1 L1 G1) H → va_D A (sW cs ad swl sun sbo scw B1 C1 lo W1 dps alk F1 U1 L1 G1) → va_S A s.heap H locs → ∀ ls : Array Slot, lv_has ls 5 [(0, .ref (ad 7)), (1, .int (iI size)), (2, .int (iI many)), (3, .int (iI x3)), (4, .int (iI x4))] → W pg l ev rm_X5_cutAlike s m [.ref (ad 7), .int (iI size), .int (iI many)].toArray below meth c H locs 0 0 Q (F0 m 5 ls []) := by
    intro fuel5
    induction fuel5 with
    | zero => intro i b B1 C1 W1 U1 L1 G1 F1 hi hq hbb hno hfuel5; exact absurd hfuel5 (Nat.not_lt_zero _)
    | succ fuel5 ih5 =>
      intro i b B1 C1 W1 U1 L1 G1 F1 hi hq hbb hno hfuel5 x3 x4 ex3 ex4 H locs hP hD hS ls hl
      subst ex3 ex4
      have hk1 : okC ((B1, C1, W1), U1, L1, G1, F1) := by rw [hq]; exact okC_itC hok hsz hcw.1 i
      have hc1 : C1 = cu + (i : Int) := by have := itC_cu scw sbo size i ((bo, cu, wh), us, bl, lg, bof); rw [← hq] at this; exact this
      obtain ⟨k0, k1, k2, k3, k4⟩ := id hk1
      have k0 : 0 ≤ B1 := k0
      have k1 : B1 ≤ C1 := k1
      have k4 : ∀ b : Nat, (b : Int) < B1 → (0 ≤ U1 b ∧ U1 b ≤ 400) ∧ (0 ≤ L1 b ∧ L1 b ≤ C1) := k4
      have hcu0 : 0 ≤ cu := by have h1 := hok.1; have h2 := hok.2.1; exact Int.le_trans h1 h2
      refine lv_iload hx hb dX5_cutAlike_5 (lv_at hl 4 rfl) ?_
      refine lv_iload_n hx hb dX5_cutAlike_7 rfl (lv_at hl 2 rfl) ?_
      refine rv_icmp_ge (tgt := 46) hx hb dX5_cutAlike_8 (by decide) (by omega) (fun h8 => ?_) (fun h8 => ?_)
      · subst hQ
        exact W.vret hx hb hr (fun t9 ht9 hW9 => ⟨⟨(), rfl, trivial, ⟨B1, C1, W1, U1, L1, G1, F1, by rw [show many.toNat = i by omega]; exact hq, by rw [ht9]; exact hP, by rw [hAe]; exact hD⟩⟩, by rw [hAe]; exact hS.F ht9⟩) (by rw [hAe]; exact hS.2.2) dX5_cutAlike_46
      · have loop11 : ∀ (fuel11 : Nat) (b2 : Nat), ((b2 : Int) ≤ B1) → (∀ j : Nat, j < b2 → ¬ U1 j + scw * L1 j + size ≤ sbo) → (B1.toNat - b2) < fuel11 → ∀ (x3 x4 : Int), x3 = (b2 : Int) → x4 = (i : Int) → ∀ ls : Array Slot, lv_has ls 5 [(0, .ref (ad 7)), (1, .int (iI size)), (2, .int (iI many)), (3, .int (iI x3)), (4, .int (iI x4))] → W pg l ev rm_X5_cutAlike s m [.ref (ad 7), .int (iI size), .int (iI many)].toArray below meth c H locs 0 0 Q (F0 m 11 ls []) := by
          intro fuel11
          induction fuel11 with
          | zero => intro b2 hb2 hn2 hfuel11; exact absurd hfuel11 (Nat.not_lt_zero _)
          | succ fuel11 ih11 =>
            intro b2 hb2 hn2 hfuel11 x3 x4 ex3 ex4 ls hl
            subst ex3 ex4
            refine lv_iload_n hx hb dX5_cutAlike_11 rfl (lv_at hl 3 rfl) ?_
            refine lv_aload_n hx hb dX5_cutAlike_12 rfl (lv_at hl 0 rfl) ?_
            refine va_get (D := D) (ci := 4) (v := .int (iI B1)) (C := RX5) (T := TX5) (N := 14) hx hb ht inTB_X5 hown hK hP 0 rfl rfl 10 (by decide) (ht _ tb_89) (fun _ h9 => h9) rfl dX5_cutAlike_13 ?_
            refine rv_icmp_ge (tgt := 34) hx hb dX5_cutAlike_16 (by decide) (by omega) (fun h16 => ?_) (fun h16 => ?_)
            · have hFb : ffs scw sbo size ((B1, C1, W1), U1, L1, G1, F1) = b2 := by first | (unfold ffs; rw [ffr_skip b2 _ 0 (by show b2 ≤ B1.toNat; omega) (fun j _ hj => hn2 j (by omega)), show ((((B1, C1, W1), U1, L1, G1, F1) : CS)).1.1.toNat - b2 = 0 from (show B1.toNat - b2 = 0 by omega), ffr, Nat.zero_add]; done) | (unfold ffs; rw [ffr_skip b2 _ 0 (by show b2 ≤ B1.toNat; omega) (fun j _ hj => hn2 j (by omega)), show ((((B1, C1, W1), U1, L1, G1, F1) : CS)).1.1.toNat - b2 = (B1.toNat - b2 - 1) + 1 from (show B1.toNat - b2 = (B1.toNat - b2 - 1) + 1 by omega), ffr, Nat.zero_add]; exact if_pos (by rw [Int.toNat_natCast] at hb22; exact hb22))
              refine lv_aload_n hx hb dX5_cutAlike_34 rfl (lv_at hl 0 rfl) ?_
              refine lv_iload_n hx hb dX5_cutAlike_35 rfl (lv_at hl 3 rfl) ?_
              refine lv_iload_n hx hb dX5_cutAlike_36 rfl (lv_at hl 1 rfl) ?_
              have hFc := va_free (wc := (sW cs ad swl sun sbo scw B1 C1 lo W1 dps alk F1 U1 L1 G1)) hD hS hA [0, 1, 2, 3, 4, 5, 6] rfl
              refine va_callv (va_runV (As := [.int (iI (b2 : Int)), .int (iI size)]) (rest := []) ⟨hx, hb, hml, hown, hts⟩ (c_X5_cutFrom l D cs ad H.size swl sun sbo scw B1 C1 lo W1 dps alk F1 U1 L1 G1 (b2 : Int) size (by rw [hFb]) (by omega) (by omega) (by omega)) (cwV 2 hts (gV tb_532 tb_534 tbs_14 tb_4 tb_535) rfl rfl rfl (by decide +kernel) ⟨Nat.le_of_ble_eq_true rfl, Nat.le_of_ble_eq_true rfl⟩) (preV_M (X := fun _ _ => True) Stb_T hK (va_recv hK hP (ci := 4) (q0 := 0) rfl rfl) hP hD trivial) rfl rfl hl.1 rfl (lv_room (Nat.le_of_ble_eq_true rfl)) dX5_cutAlike_37 ⟨Nat.le_of_ble_eq_true rfl, Nat.le_of_ble_eq_true rfl⟩) hS (fun q _ h => hFc q h) hFc (fun u9 t9 H9 locs ht9 hvm9 hw9 hB9 hz9 hk9 hS => ?_)
              obtain ⟨bo2_37, cu2_37, wh2_37, us2_37, bl2_37, lg2_37, bof2_37, hf37_0, hP1, hD1⟩ := hB9
              rw [ht9] at hP1
              have hP := hP1
              have hD := hD1.weaken (fun _ _ _ h => hFc _ h)
              generalize H9 = H at hP hS hz9 hk9 ht9 ⊢
              have hP : va_P D classes (sW cs ad swl sun sbo scw bo2_37 cu2_37 lo wh2_37 dps alk bof2_37 us2_37 bl2_37 lg2_37) H := hP
              have hD : va_D A (sW cs ad swl sun sbo scw bo2_37 cu2_37 lo wh2_37 dps alk bof2_37 us2_37 bl2_37 lg2_37) := hD
              have hok2 : okC (cut1 scw sbo size ((B1, C1, W1), U1, L1, G1, F1)) := okC_cut1 hk1 hsz hcw.1
              have hcl : ∀ j : Nat, j < b2 → us2_37 j = U1 j ∧ bl2_37 j = L1 j := fun j hj => by have hz := cut1_lo (cw := scw) (B := sbo) (size := size) (s := ((B1, C1, W1), U1, L1, G1, F1)) (j := j) (by rw [hFb]; exact hj); rw [← hf37_0] at hz; exact hz
              have hcb := cut1_bo (cw := scw) (B := sbo) (size := size) hk1
              rw [hFb, ← hf37_0] at hcb
              have hcb2 : (b2 : Int) ≤ bo2_37 := hcb.2
              refine rv_iinc (k := 4) (lv' := [(4, .int (iI ((i : Int) + 1))), (0, .ref (ad 7)), (1, .int (iI size)), (2, .int (iI many)), (3, .int (iI (b2 : Int)))]) hx hb dX5_cutAlike_40 hl rfl (by decide) rfl (fun ls hl => ?_)
              refine lv_goto (tgt := 5) hx hb dX5_cutAlike_43 (by decide) ?_
              exact ih5 (i + 1) b2 bo2_37 cu2_37 wh2_37 us2_37 bl2_37 lg2_37 bof2_37 (by omega) (by rw [itC, ← hq]; exact hf37_0) hcb2 (fun j hj => by rw [(hcl j hj).1, (hcl j hj).2]; exact hn2 j hj) (by omega) _ _ rfl (by omega) H locs hP hD hS ls (lv_sub hl [1, 2, 3, 4, 0] rfl)
            · refine lv_aload_n hx hb dX5_cutAlike_19 rfl (lv_at hl 0 rfl) ?_
              refine lv_iload_n hx hb dX5_cutAlike_20 rfl (lv_at hl 3 rfl) ?_
              refine lv_iload_n hx hb dX5_cutAlike_21 rfl (lv_at hl 1 rfl) ?_
              refine vp_callSi (W.runV (As := [.int (iI (b2 : Int)), .int (iI size)]) (rest := []) ⟨hx, hb, hml, hown, hts⟩ (c_X5_hasRoom l D cs ad swl sun sbo scw B1 C1 lo W1 dps alk F1 U1 L1 G1 (b2 : Int) size (by omega) (by omega) (by rw [Int.toNat_natCast]; exact (k4 b2 (by omega)).1) (by rw [Int.toNat_natCast]; have := (k4 b2 (by omega)).2; omega) (by omega) (by omega)) (cwV 2 hts (gV tb_528 tb_530 tbs_13 tb_4 tb_531) rfl rfl rfl (by decide +kernel) ⟨Nat.le_of_ble_eq_true rfl, Nat.le_of_ble_eq_true rfl⟩) (preV_sw hK hP) rfl rfl hl.1 rfl (lv_room (Nat.le_of_ble_eq_true rfl)) dX5_cutAlike_22 ⟨Nat.le_of_ble_eq_true rfl, Nat.le_of_ble_eq_true rfl⟩) (fun r9 hr9 => ?_)
              rcases hr9 with ⟨rfl, hb22⟩ | ⟨rfl, hb22⟩
              · refine rv_if_ne (tgt := 34) hx hb dX5_cutAlike_25 (by decide) (by decide) (fun _ => ?_) (fun q => absurd q (by decide))
                have hFb : ffs scw sbo size ((B1, C1, W1), U1, L1, G1, F1) = b2 := by first | (unfold ffs; rw [ffr_skip b2 _ 0 (by show b2 ≤ B1.toNat; omega) (fun j _ hj => hn2 j (by omega)), show ((((B1, C1, W1), U1, L1, G1, F1) : CS)).1.1.toNat - b2 = 0 from (show B1.toNat - b2 = 0 by omega), ffr, Nat.zero_add]; done) | (unfold ffs; rw [ffr_skip b2 _ 0 (by show b2 ≤ B1.toNat; omega) (fun j _ hj => hn2 j (by omega)), show ((((B1, C1, W1), U1, L1, G1, F1) : CS)).1.1.toNat - b2 = (B1.toNat - b2 - 1) + 1 from (show B1.toNat - b2 = (B1.toNat - b2 - 1) + 1 by omega), ffr, Nat.zero_add]; exact if_pos (by rw [Int.toNat_natCast] at hb22; exact hb22))
                refine lv_aload_n hx hb dX5_cutAlike_34 rfl (lv_at hl 0 rfl) ?_
                refine lv_iload_n hx hb dX5_cutAlike_35 rfl (lv_at hl 3 rfl) ?_
                refine lv_iload_n hx hb dX5_cutAlike_36 rfl (lv_at hl 1 rfl) ?_
                have hFc := va_free (wc := (sW cs ad swl sun sbo scw B1 C1 lo W1 dps alk F1 U1 L1 G1)) hD hS hA [0, 1, 2, 3, 4, 5, 6] rfl
                refine va_callv (va_runV (As := [.int (iI (b2 : Int)), .int (iI size)]) (rest := []) ⟨hx, hb, hml, hown, hts⟩ (c_X5_cutFrom l D cs ad H.size swl sun sbo scw B1 C1 lo W1 dps alk F1 U1 L1 G1 (b2 : Int) size (by rw [hFb]) (by omega) (by omega) (by omega)) (cwV 2 hts (gV tb_532 tb_534 tbs_14 tb_4 tb_535) rfl rfl rfl (by decide +kernel) ⟨Nat.le_of_ble_eq_true rfl, Nat.le_of_ble_eq_true rfl⟩) (preV_M (X := fun _ _ => True) Stb_T hK (va_recv hK hP (ci := 4) (q0 := 0) rfl rfl) hP hD trivial) rfl rfl hl.1 rfl (lv_room (Nat.le_of_ble_eq_true rfl)) dX5_cutAlike_37 ⟨Nat.le_of_ble_eq_true rfl, Nat.le_of_ble_eq_true rfl⟩) hS (fun q _ h => hFc q h) hFc (fun u9 t9 H9 locs ht9 hvm9 hw9 hB9 hz9 hk9 hS => ?_)
                obtain ⟨bo2_37, cu2_37, wh2_37, us2_37, bl2_37, lg2_37, bof2_37, hf37_0, hP1, hD1⟩ := hB9
                rw [ht9] at hP1
                have hP := hP1
                have hD := hD1.weaken (fun _ _ _ h => hFc _ h)
                generalize H9 = H at hP hS hz9 hk9 ht9 ⊢
                have hP : va_P D classes (sW cs ad swl sun sbo scw bo2_37 cu2_37 lo wh2_37 dps alk bof2_37 us2_37 bl2_37 lg2_37) H := hP
                have hD : va_D A (sW cs ad swl sun sbo scw bo2_37 cu2_37 lo wh2_37 dps alk bof2_37 us2_37 bl2_37 lg2_37) := hD
                have hok2 : okC (cut1 scw sbo size ((B1, C1, W1), U1, L1, G1, F1)) := okC_cut1 hk1 hsz hcw.1
                have hcl : ∀ j : Nat, j < b2 → us2_37 j = U1 j ∧ bl2_37 j = L1 j := fun j hj => by have hz := cut1_lo (cw := scw) (B := sbo) (size := size) (s := ((B1, C1, W1), U1, L1, G1, F1)) (j := j) (by rw [hFb]; exact hj); rw [← hf37_0] at hz; exact hz
                have hcb := cut1_bo (cw := scw) (B := sbo) (size := size) hk1
                rw [hFb, ← hf37_0] at hcb
                have hcb2 : (b2 : Int) ≤ bo2_37 := hcb.2
                refine rv_iinc (k := 4) (lv' := [(4, .int (iI ((i : Int) + 1))), (0, .ref (ad 7)), (1, .int (iI size)), (2, .int (iI many)), (3, .int (iI (b2 : Int)))]) hx hb dX5_cutAlike_40 hl rfl (by decide) rfl (fun ls hl => ?_)
                refine lv_goto (tgt := 5) hx hb dX5_cutAlike_43 (by decide) ?_
                exact ih5 (i + 1) b2 bo2_37 cu2_37 wh2_37 us2_37 bl2_37 lg2_37 bof2_37 (by omega) (by rw [itC, ← hq]; exact hf37_0) hcb2 (fun j hj => by rw [(hcl j hj).1, (hcl j hj).2]; exact hn2 j hj) (by omega) _ _ rfl (by omega) H locs hP hD hS ls (lv_sub hl [1, 2, 3, 4, 0] rfl)
              · refine rv_if_ne (tgt := 34) hx hb dX5_cutAlike_25 (by decide) (by decide) (fun q => absurd q (by decide)) (fun _ => ?_)
                refine rv_iinc (k := 3) (lv' := [(3, .int (iI ((b2 : Int) + 1))), (0, .ref (ad 7)), (1, .int (iI size)), (2, .int (iI many)), (4, .int (iI (i : Int)))]) hx hb dX5_cutAlike_28 hl rfl (by decide) rfl (fun ls hl => ?_)
                refine lv_goto (tgt := 11) hx hb dX5_cutAlike_31 (by decide) ?_
                exact ih11 (b2 + 1) (by omega) (fun j hj => by by_cases z : j = b2; (subst z; rw [Int.toNat_natCast] at hb22; exact hb22); exact hn2 j (by omega)) (by omega) _ _ (by omega) rfl ls (lv_sub hl [1, 2, 3, 0, 4] rfl)
        exact loop11 (_ + 1) b hbb hno (Nat.lt_succ_self _) _ _ rfl rfl ls (lv_sub hl [0, 1, 2, 3, 4] rfl)
  exact loop5 (_ + 1) 0 0 bo cu wh us bl lg bof (by omega) rfl (by have := hok.1; exact this) (fun j h => absurd h (Nat.not_lt_zero _)) (Nat.lt_succ_self _) _ _ rfl rfl H locs hP hD hS ls (lv_sub hl [2, 3, 4, 1, 0] rfl)

abbrev rm_X5_start : Room := { frames := 1, cells := 0, slots := 0, locals := 23 }
set_option maxHeartbeats 8000000 in
set_option maxRecDepth 100000 in
/-- start -/
theorem c_X5_start (l : Launch) (D : va_G) (cs : Nat → ClassId) (ad : Nat → Nat) (sz : Nat) (swl : Int) (sun : Int) (sbo : Int) (scw : Int) (bo : Int) (cu : Int) (lo : Int) (wh : Int) (dps : Nat → Int) (alk : Nat → Int) (bof : Nat → Int) (us : Nat → Int) (bl : Nat → Int) (lg : Nat → Int) (M : Nat → Prop) (a : Nat) (v : Nat → Int) (hM : ∀ q, inAd ad 7 14 q → M q) : Met l yX5_start (Cond.code yX5_start cX5_start 2 none :: TB) rm_X5_start (va_Pc [.ref (ad 7), .ref a] (MPre D cs sz (sW cs ad swl sun sbo scw bo cu lo wh dps alk bof us bl lg) (fun U H => PlanAt D cs M H a v))) (va_Qv (fun _ : Unit => True) (fun _ t => ∃ (alk2 : Nat → Int), (∀ i : Nat, i < 31 → alk2 i = 0) ∧ va_P D classes (sW cs ad 0 (v 21) (v 22) (v 23) 0 0 0 0 dps alk2 bof us bl lg) t.heap ∧ va_D (va_A (sW cs ad swl sun sbo scw bo cu lo wh dps alk bof us bl lg) sz) (sW cs ad 0 (v 21) (v 22) (v 23) 0 0 0 0 dps alk2 bof us bl lg)) (va_A (sW cs ad swl sun sbo scw bo cu lo wh dps alk bof us bl lg) sz)) 0 0 (va_A (sW cs ad swl sun sbo scw bo cu lo wh dps alk bof us bl lg) sz) := by
  refine enter (cc := cX5_start) (maxL := 2) (ret := none) (by decide) (Nat.le_of_ble_eq_true rfl) ?_
  intro pg ev s m below meth c Q ls hx hb hml hown hts hr hlocks hnm ⟨hsz, hP, hD0, hK, hX0⟩ hl hQ
  have ht : ∀ w ∈ TB, w.before _ s = true := fun w h => hts w (List.mem_cons_of_mem _ h)
  subst hsz
  have hD := hD0.self (sz := s.heap.size)
  obtain ⟨A, hAe⟩ : ∃ A, va_A (sW cs ad swl sun sbo scw bo cu lo wh dps alk bof us bl lg) s.heap.size = A := ⟨_, rfl⟩
  rw [hAe] at hD
  have hA : ∀ q : Nat, s.heap.size ≤ q → A q := fun q h => by rw [← hAe]; exact Or.inr h
  obtain ⟨H, hH⟩ : ∃ H, H = s.heap := ⟨_, rfl⟩
  obtain ⟨locs, hlocs⟩ : ∃ locs : List Loc, locs = [] := ⟨_, rfl⟩
  have hS : va_S A s.heap H locs := by rw [hH, hlocs]; exact va_S.rf
  rw [← hH] at hP
  suffices hgo : W pg l ev rm_X5_start s m [.ref (ad 7), .ref a].toArray below meth c H locs 0 0 Q (F0 m 0 ls []) by rw [hH, hlocs] at hgo; exact hgo
  have hl : lv_has ls 2 [(0, .ref (ad 7)), (1, .ref a)] := hl
  obtain ⟨arr, g, hG0⟩ := hX0.g
  refine lv_aload_n hx hb dX5_start_0 rfl (lv_at hl 0 rfl) ?_
  refine lv_aload_n hx hb dX5_start_1 rfl (lv_at hl 1 rfl) ?_
  obtain ⟨hvL, hPl, hna, hnr, hgy⟩ := hG0.inS (fun q z => hM q (Mw_sW q z)) hAe hS
  refine va_get (D := D) (ci := 2) (v := .int (iI (v 21))) (C := RX3) (T := TX3) (N := 4) hx hb ht inTB_X3 hown hK hPl 0 rfl rfl 1 (by decide) (ht _ tb_182) (fun _ h9 => h9) rfl dX5_start_2 ?_
  refine va_put (D := D) (ci := 4) (v := .int (iI (v 21))) (ty := tyX5 7) (C := RX5) (T := TX5) (N := 14) hx hb ht inTB_X5 tyX5 tyX5_ok nmX5 hown hK hP hD hS 0 rfl rfl 7 (by decide) (ht _ tb_86) (fun _ h9 => h9) rfl (tyX5_ok 7 (by decide)) rfl rfl (Nat.le_of_ble_eq_true rfl) dX5_start_5 (fun H locs hP hD hS => ?_)
  have hP : va_P D classes (sW cs ad swl (v 21) sbo scw bo cu lo wh dps alk bof us bl lg) H := hP
  have hD : va_D A (sW cs ad swl (v 21) sbo scw bo cu lo wh dps alk bof us bl lg) := hD
  refine lv_aload_n hx hb dX5_start_8 rfl (lv_at hl 0 rfl) ?_
  refine lv_aload_n hx hb dX5_start_9 rfl (lv_at hl 1 rfl) ?_
  obtain ⟨hvL, hPl, hna, hnr, hgy⟩ := hG0.inS (fun q z => hM q (Mw_sW q z)) hAe hS
  refine va_get (D := D) (ci := 2) (v := .int (iI (v 22))) (C := RX3) (T := TX3) (N := 4) hx hb ht inTB_X3 hown hK hPl 0 rfl rfl 2 (by decide) (ht _ tb_185) (fun _ h9 => h9) rfl dX5_start_10 ?_
  refine va_put (D := D) (ci := 4) (v := .int (iI (v 22))) (ty := tyX5 8) (C := RX5) (T := TX5) (N := 14) hx hb ht inTB_X5 tyX5 tyX5_ok nmX5 hown hK hP hD hS 0 rfl rfl 8 (by decide) (ht _ tb_87) (fun _ h9 => h9) rfl (tyX5_ok 8 (by decide)) rfl rfl (Nat.le_of_ble_eq_true rfl) dX5_start_13 (fun H locs hP hD hS => ?_)
  have hP : va_P D classes (sW cs ad swl (v 21) (v 22) scw bo cu lo wh dps alk bof us bl lg) H := hP
  have hD : va_D A (sW cs ad swl (v 21) (v 22) scw bo cu lo wh dps alk bof us bl lg) := hD
  refine lv_aload_n hx hb dX5_start_16 rfl (lv_at hl 0 rfl) ?_
  refine lv_aload_n hx hb dX5_start_17 rfl (lv_at hl 1 rfl) ?_
  obtain ⟨hvL, hPl, hna, hnr, hgy⟩ := hG0.inS (fun q z => hM q (Mw_sW q z)) hAe hS
  refine va_get (D := D) (ci := 2) (v := .int (iI (v 23))) (C := RX3) (T := TX3) (N := 4) hx hb ht inTB_X3 hown hK hPl 0 rfl rfl 3 (by decide) (ht _ tb_188) (fun _ h9 => h9) rfl dX5_start_18 ?_
  refine va_put (D := D) (ci := 4) (v := .int (iI (v 23))) (ty := tyX5 9) (C := RX5) (T := TX5) (N := 14) hx hb ht inTB_X5 tyX5 tyX5_ok nmX5 hown hK hP hD hS 0 rfl rfl 9 (by decide) (ht _ tb_88) (fun _ h9 => h9) rfl (tyX5_ok 9 (by decide)) rfl rfl (Nat.le_of_ble_eq_true rfl) dX5_start_21 (fun H locs hP hD hS => ?_)
  have hP : va_P D classes (sW cs ad swl (v 21) (v 22) (v 23) bo cu lo wh dps alk bof us bl lg) H := hP
  have hD : va_D A (sW cs ad swl (v 21) (v 22) (v 23) bo cu lo wh dps alk bof us bl lg) := hD
  refine lv_aload_n hx hb dX5_start_24 rfl (lv_at hl 0 rfl) ?_
  refine rv_iconst hx hb dX5_start_25 ?_
  refine va_put (D := D) (ci := 4) (v := .int (iI 0)) (ty := tyX5 6) (C := RX5) (T := TX5) (N := 14) hx hb ht inTB_X5 tyX5 tyX5_ok nmX5 hown hK hP hD hS 0 rfl rfl 6 (by decide) (ht _ tb_85) (fun _ h9 => h9) rfl (tyX5_ok 6 (by decide)) rfl rfl (Nat.le_of_ble_eq_true rfl) dX5_start_26 (fun H locs hP hD hS => ?_)
  have hP : va_P D classes (sW cs ad 0 (v 21) (v 22) (v 23) bo cu lo wh dps alk bof us bl lg) H := hP
  have hD : va_D A (sW cs ad 0 (v 21) (v 22) (v 23) bo cu lo wh dps alk bof us bl lg) := hD
  refine lv_aload_n hx hb dX5_start_29 rfl (lv_at hl 0 rfl) ?_
  refine rv_iconst hx hb dX5_start_30 ?_
  refine va_put (D := D) (ci := 4) (v := .int (iI 0)) (ty := tyX5 10) (C := RX5) (T := TX5) (N := 14) hx hb ht inTB_X5 tyX5 tyX5_ok nmX5 hown hK hP hD hS 0 rfl rfl 10 (by decide) (ht _ tb_89) (fun _ h9 => h9) rfl (tyX5_ok 10 (by decide)) rfl rfl (Nat.le_of_ble_eq_true rfl) dX5_start_31 (fun H locs hP hD hS => ?_)
  have hP : va_P D classes (sW cs ad 0 (v 21) (v 22) (v 23) 0 cu lo wh dps alk bof us bl lg) H := hP
  have hD : va_D A (sW cs ad 0 (v 21) (v 22) (v 23) 0 cu lo wh dps alk bof us bl lg) := hD
  refine lv_aload_n hx hb dX5_start_34 rfl (lv_at hl 0 rfl) ?_
  refine rv_iconst hx hb dX5_start_35 ?_
  refine va_put (D := D) (ci := 4) (v := .int (iI 0)) (ty := tyX5 11) (C := RX5) (T := TX5) (N := 14) hx hb ht inTB_X5 tyX5 tyX5_ok nmX5 hown hK hP hD hS 0 rfl rfl 11 (by decide) (ht _ tb_91) (fun _ h9 => h9) rfl (tyX5_ok 11 (by decide)) rfl rfl (Nat.le_of_ble_eq_true rfl) dX5_start_36 (fun H locs hP hD hS => ?_)
  have hP : va_P D classes (sW cs ad 0 (v 21) (v 22) (v 23) 0 0 lo wh dps alk bof us bl lg) H := hP
  have hD : va_D A (sW cs ad 0 (v 21) (v 22) (v 23) 0 0 lo wh dps alk bof us bl lg) := hD
  refine lv_aload_n hx hb dX5_start_39 rfl (lv_at hl 0 rfl) ?_
  refine rv_iconst hx hb dX5_start_40 ?_
  refine va_put (D := D) (ci := 4) (v := .int (iI 0)) (ty := tyX5 12) (C := RX5) (T := TX5) (N := 14) hx hb ht inTB_X5 tyX5 tyX5_ok nmX5 hown hK hP hD hS 0 rfl rfl 12 (by decide) (ht _ tb_93) (fun _ h9 => h9) rfl (tyX5_ok 12 (by decide)) rfl rfl (Nat.le_of_ble_eq_true rfl) dX5_start_41 (fun H locs hP hD hS => ?_)
  have hP : va_P D classes (sW cs ad 0 (v 21) (v 22) (v 23) 0 0 0 wh dps alk bof us bl lg) H := hP
  have hD : va_D A (sW cs ad 0 (v 21) (v 22) (v 23) 0 0 0 wh dps alk bof us bl lg) := hD
  refine lv_aload_n hx hb dX5_start_44 rfl (lv_at hl 0 rfl) ?_
  refine rv_iconst hx hb dX5_start_45 ?_
  refine va_put (D := D) (ci := 4) (v := .int (iI 0)) (ty := tyX5 13) (C := RX5) (T := TX5) (N := 14) hx hb ht inTB_X5 tyX5 tyX5_ok nmX5 hown hK hP hD hS 0 rfl rfl 13 (by decide) (ht _ tb_95) (fun _ h9 => h9) rfl (tyX5_ok 13 (by decide)) rfl rfl (Nat.le_of_ble_eq_true rfl) dX5_start_46 (fun H locs hP hD hS => ?_)
  have hP : va_P D classes (sW cs ad 0 (v 21) (v 22) (v 23) 0 0 0 0 dps alk bof us bl lg) H := hP
  have hD : va_D A (sW cs ad 0 (v 21) (v 22) (v 23) 0 0 0 0 dps alk bof us bl lg) := hD
  refine lv_aload_n hx hb dX5_start_49 rfl (lv_at hl 0 rfl) ?_
  refine va_get (D := D) (ci := 4) (v := .ref (ad 9)) (C := RX5) (T := TX5) (N := 14) hx hb ht inTB_X5 hown hK hP 0 rfl rfl 1 (by decide) (ht _ tb_78) (fun _ h9 => h9) rfl dX5_start_50 ?_
  refine rv_iconst hx hb dX5_start_53 ?_
  have hFc := va_free (wc := [((ad 9), iaC cs 31 alk)]) hD hS hA [2] rfl
  have hPc := hP.sub (ws' := [((ad 9), iaC cs 31 alk)]) [2] rfl
  have hDc := hD.sub (ws' := [((ad 9), iaC cs 31 alk)]) [2] (by decide) rfl
  refine va_callv (va_runS (As := [.ref (ad 9), .int (iI 0)]) (rest := []) ⟨hx, hb, hml, hown, hts⟩ (c_J7_fill_53178 l D cs H.size (ad 9) 31 alk 0 (by omega)) (va_cwS 2 hts (gS tb_517 tb_456 tb_11 tb_457) rfl rfl rfl (by decide +kernel) ⟨Nat.le_of_ble_eq_true rfl, Nat.le_of_ble_eq_true rfl⟩) (preS_M (X := fun _ _ => True) Stb_T hK hPc hDc trivial) rfl rfl hl.1 rfl (lv_room (Nat.le_of_ble_eq_true rfl)) dX5_start_54 ⟨Nat.le_of_ble_eq_true rfl, Nat.le_of_ble_eq_true rfl⟩) hS (fun q _ h => hFc q h) hFc (fun u9 t9 H9 locs ht9 hvm9 hw9 hB9 hz9 hk9 hS => ?_)
  obtain ⟨F2_54, hf54_0, hP1, hD1⟩ := hB9
  rw [ht9] at hP1
  obtain ⟨hPj, hDj⟩ := va_join (wr := [_, _, _, _, _, _]) hP hD [2] [0, 1, 3, 4, 5, 6] rfl rfl (by decide) (by decide) hk9 hFc hP1 hD1
  generalize H9 = H at *
  have hP : va_P D classes (sW cs ad 0 (v 21) (v 22) (v 23) 0 0 0 0 dps F2_54 bof us bl lg) H := hPj.sub [0, 1, 6, 2, 3, 4, 5] rfl
  have hD : va_D A (sW cs ad 0 (v 21) (v 22) (v 23) 0 0 0 0 dps F2_54 bof us bl lg) := hDj.sub [0, 1, 6, 2, 3, 4, 5] (by decide) rfl
  subst hQ
  exact W.vret hx hb hr (fun t9 ht9 hW9 => ⟨⟨(), rfl, trivial, ⟨F2_54, hf54_0, by rw [ht9]; exact hP, by rw [hAe]; exact hD⟩⟩, by rw [hAe]; exact hS.F ht9⟩) (by rw [hAe]; exact hS.2.2) dX5_start_57

abbrev rm_X5_gather : Room := { frames := 2, cells := 0, slots := 0, locals := 44 }
set_option maxHeartbeats 8000000 in
set_option maxRecDepth 100000 in
/-- gather -/
theorem c_X5_gather (l : Launch) (D : va_G) (cs : Nat → ClassId) (ad : Nat → Nat) (sz : Nat) (swl : Int) (sun : Int) (sbo : Int) (scw : Int) (bo : Int) (cu : Int) (lo : Int) (wh : Int) (dps : Nat → Int) (alk : Nat → Int) (bof : Nat → Int) (us : Nat → Int) (bl : Nat → Int) (lg : Nat → Int) (M : Nat → Prop) (y : Nat) (off : Int) (o : Int) (v : Nat → Int) (p : Nat) (hM : ∀ q, inAd ad 7 14 q → M q) (hvL : vL v) (hp : (p : Int) < v 20) (hG : GI v swl dps alk (40 * p)) (hoff : off = v (5 * p + 3)) : Met l yX5_gather (Cond.code yX5_gather cX5_gather 5 none :: TB) rm_X5_gather (va_Pc [.ref (ad 7), .ref y, .int (iI off)] (MPre D cs sz (sW cs ad swl sun sbo scw bo cu lo wh dps alk bof us bl lg) (fun U H => PanelAt D cs M H y (v (5 * p)) (v (5 * p + 1)) (v (5 * p + 2)) o (v (5 * p + 4))))) (va_Qv (fun _ : Unit => True) (fun _ t => ∃ (swl2 : Int) (dps2 : Nat → Int) (alk2 : Nat → Int), (GI v swl2 dps2 alk2 (40 * (p + 1))) ∧ va_P D classes (sW cs ad swl2 sun sbo scw bo cu lo wh dps2 alk2 bof us bl lg) t.heap ∧ va_D (va_A (sW cs ad swl sun sbo scw bo cu lo wh dps alk bof us bl lg) sz) (sW cs ad swl2 sun sbo scw bo cu lo wh dps2 alk2 bof us bl lg)) (va_A (sW cs ad swl sun sbo scw bo cu lo wh dps alk bof us bl lg) sz)) 0 0 (va_A (sW cs ad swl sun sbo scw bo cu lo wh dps alk bof us bl lg) sz) := by
  refine enter (cc := cX5_gather) (maxL := 5) (ret := none) (by decide) (Nat.le_of_ble_eq_true rfl) ?_
  intro pg ev s m below meth c Q ls hx hb hml hown hts hr hlocks hnm ⟨hsz, hP, hD0, hK, hX0⟩ hl hQ
  have ht : ∀ w ∈ TB, w.before _ s = true := fun w h => hts w (List.mem_cons_of_mem _ h)
  subst hsz
  have hD := hD0.self (sz := s.heap.size)
  obtain ⟨A, hAe⟩ : ∃ A, va_A (sW cs ad swl sun sbo scw bo cu lo wh dps alk bof us bl lg) s.heap.size = A := ⟨_, rfl⟩
  rw [hAe] at hD
  have hA : ∀ q : Nat, s.heap.size ≤ q → A q := fun q h => by rw [← hAe]; exact Or.inr h
  obtain ⟨H, hH⟩ : ∃ H, H = s.heap := ⟨_, rfl⟩
  obtain ⟨locs, hlocs⟩ : ∃ locs : List Loc, locs = [] := ⟨_, rfl⟩
  have hS : va_S A s.heap H locs := by rw [hH, hlocs]; exact va_S.rf
  rw [← hH] at hP
  suffices hgo : W pg l ev rm_X5_gather s m [.ref (ad 7), .ref y, .int (iI off)].toArray below meth c H locs 0 0 Q (F0 m 0 ls []) by rw [hH, hlocs] at hgo; exact hgo
  have hl : lv_has ls 5 [(0, .ref (ad 7)), (1, .ref y), (2, .int (iI off))] := hl
  obtain ⟨hvk, hvn, hvf, hvo, hvw⟩ := hvL.2.2.2.2 p hp
  have hnb := isPr_bd hvn
  have hp4 := hvL.1
  refine rv_iconst hx hb dX5_gather_0 ?_
  refine lv_istore_n (lv' := [(3, .int (iI 0)), (0, .ref (ad 7)), (1, .ref y), (2, .int (iI off))]) hx hb dX5_gather_1 rfl hl (by decide) rfl (fun ls hl => ?_)
  have loop2 : ∀ (fuel2 : Nat) (i : Nat) (SW : Int) (DP : Nat → Int) (AL : Nat → Int), ((i : Int) ≤ v (5 * p + 4)) → (GI v SW DP AL (40 * p + i)) → (v (5 * p + 4) - (i : Int)).toNat < fuel2 → ∀ (x3 : Int), x3 = (i : Int) → ∀ (H : Heap) (locs : List Loc), va_P D classes (sW cs ad SW sun sbo scw bo cu lo wh DP AL bof us bl lg) H → va_D A (sW cs ad SW sun sbo scw bo cu lo wh DP AL bof us bl lg) → va_S A s.heap H locs → ∀ ls : Array Slot, lv_has ls 5 [(0, .ref (ad 7)), (1, .ref y), (2, .int (iI off)), (3, .int (iI x3))] → W pg l ev rm_X5_gather s m [.ref (ad 7), .ref y, .int (iI off)].toArray below meth c H locs 0 0 Q (F0 m 2 ls []) := by
    intro fuel2
    induction fuel2 with
    | zero => intro i SW DP AL hi hGi hfuel2; exact absurd hfuel2 (Nat.not_lt_zero _)
    | succ fuel2 ih2 =>
      intro i SW DP AL hi hGi hfuel2 x3 ex3 H locs hP hD hS ls hl
      subst ex3
      have hsw := hGi.1
      have hsl := ix_le v (40 * p + i)
      have hpan := PanelAt.inS hX0 (fun q z => hM q (Mw_sW q z)) hAe hS
      obtain ⟨_, r0, row0, hPn, _, _, _⟩ := id hpan
      refine lv_iload_n hx hb dX5_gather_2 rfl (lv_at hl 3 rfl) ?_
      refine lv_aload_n hx hb dX5_gather_3 rfl (lv_at hl 1 rfl) ?_
      refine va_get (D := D) (ci := 0) (v := .int (iI (v (5 * p + 4)))) (C := RX1) (T := TX1) (N := 7) hx hb ht inTB_X1 hown hK hPn 0 rfl rfl 4 (by decide) (ht _ tb_152) (fun _ h9 => h9) rfl dX5_gather_4 ?_
      refine rv_icmp_ge (tgt := 82) hx hb dX5_gather_7 (by decide) (by omega) (fun h7 => ?_) (fun h7 => ?_)
      · subst hQ
        exact W.vret hx hb hr (fun t9 ht9 hW9 => ⟨⟨(), rfl, trivial, ⟨SW, DP, AL, GI_panel (i := i) (by omega) (by omega) hGi, by rw [ht9]; exact hP, by rw [hAe]; exact hD⟩⟩, by rw [hAe]; exact hS.F ht9⟩) (by rw [hAe]; exact hS.2.2) dX5_gather_82
      · refine lv_aload_n hx hb dX5_gather_10 rfl (lv_at hl 0 rfl) ?_
        refine va_get (D := D) (ci := 4) (v := .int (iI SW)) (C := RX5) (T := TX5) (N := 14) hx hb ht inTB_X5 hown hK hP 0 rfl rfl 6 (by decide) (ht _ tb_85) (fun _ h9 => h9) rfl dX5_gather_11 ?_
        refine rv_sipush hx hb dX5_gather_14 (by decide) ?_
        refine rv_icmp_ge (tgt := 82) hx hb dX5_gather_17 (by decide) (by omega) (fun h17 => False.elim (by omega)) (fun h17 => ?_)
        refine lv_aload_n hx hb dX5_gather_20 rfl (lv_at hl 1 rfl) ?_
        refine lv_iload_n hx hb dX5_gather_21 rfl (lv_at hl 3 rfl) ?_
        refine lv_iload_n hx hb dX5_gather_22 rfl (lv_at hl 2 rfl) ?_
        refine rv_iadd hx hb dX5_gather_23 ?_
        refine vp_callSi (W.runV (As := [.int (iI ((i : Int) + off))]) (rest := []) ⟨hx, hb, hml, hown, hts⟩ (c_X1_depthAt l D cs y (v (5 * p)) (v (5 * p + 1)) (v (5 * p + 2)) o (v (5 * p + 4)) ((i : Int) + off) (by omega)) (cwV 1 hts (gV tb_523 tb_429 tb_430 tb_5 tb_431) rfl rfl rfl (by decide +kernel) ⟨Nat.le_of_ble_eq_true rfl, Nat.le_of_ble_eq_true rfl⟩) (preV_pan hK hpan) rfl rfl hl.1 rfl (lv_room (Nat.le_of_ble_eq_true rfl)) dX5_gather_24 ⟨Nat.le_of_ble_eq_true rfl, Nat.le_of_ble_eq_true rfl⟩) (fun r9 hr9 => ?_)
        obtain ⟨rfl, hx24_0⟩ := hr9
        refine lv_istore (lv' := [(4, .int (iI (dpt (v (5 * p)) (v (5 * p + 1)) (v (5 * p + 2)) ((i : Int) + off)))), (0, .ref (ad 7)), (1, .ref y), (2, .int (iI off)), (3, .int (iI (i : Int)))]) hx hb dX5_gather_27 hl (by decide) rfl (fun ls hl => ?_)
        refine lv_iload hx hb dX5_gather_29 (lv_at hl 0 rfl) ?_
        refine rv_if_lt (tgt := 55) hx hb dX5_gather_31 (by decide) (by omega) (fun h31 => False.elim (by omega)) (fun h31 => ?_)
        refine lv_iload hx hb dX5_gather_34 (lv_at hl 0 rfl) ?_
        refine lv_aload_n hx hb dX5_gather_36 rfl (lv_at hl 1 rfl) ?_
        refine va_get (D := D) (ci := 4) (v := .ref (ad 9)) (C := RX5) (T := TX5) (N := 14) hx hb ht inTB_X5 hown hK hP 0 rfl rfl 1 (by decide) (ht _ tb_78) (fun _ h9 => h9) rfl dX5_gather_37 ?_
        refine rv_alen hx hb hK hP 2 0 rfl rfl dX5_gather_40 ?_
        refine rv_icmp_ge (tgt := 55) hx hb dX5_gather_41 (by decide) (by omega) (fun h41 => False.elim (by omega)) (fun h41 => ?_)
        refine lv_aload_n hx hb dX5_gather_44 rfl (lv_at hl 1 rfl) ?_
        refine va_get (D := D) (ci := 4) (v := .ref (ad 9)) (C := RX5) (T := TX5) (N := 14) hx hb ht inTB_X5 hown hK hP 0 rfl rfl 1 (by decide) (ht _ tb_78) (fun _ h9 => h9) rfl dX5_gather_45 ?_
        refine lv_iload hx hb dX5_gather_48 (lv_at hl 0 rfl) ?_
        refine lv_dup2_11 hx hb dX5_gather_50 rfl rfl ?_
        refine rv_iald hx hb hK hP 2 0 rfl rfl ((dpt (v (5 * p)) (v (5 * p + 1)) (v (5 * p + 2)) ((i : Int) + off)).toNat) (by omega) (by omega) dX5_gather_51 ?_
        refine rv_iconst hx hb dX5_gather_52 ?_
        refine rv_iadd hx hb dX5_gather_53 ?_
        refine rv_iast hx hb hK hP hD hS 2 0 rfl rfl ((dpt (v (5 * p)) (v (5 * p + 1)) (v (5 * p + 2)) ((i : Int) + off)).toNat) (by omega) (by omega) dX5_gather_54 (fun H locs hP hD hS => ?_)
        have hP : va_P D classes (sW cs ad SW sun sbo scw bo cu lo wh DP (upI AL ((dpt (v (5 * p)) (v (5 * p + 1)) (v (5 * p + 2)) ((i : Int) + off)).toNat) ((AL ((dpt (v (5 * p)) (v (5 * p + 1)) (v (5 * p + 2)) ((i : Int) + off)).toNat)) + 1)) bof us bl lg) H := hP
        have hD : va_D A (sW cs ad SW sun sbo scw bo cu lo wh DP (upI AL ((dpt (v (5 * p)) (v (5 * p + 1)) (v (5 * p + 2)) ((i : Int) + off)).toNat) ((AL ((dpt (v (5 * p)) (v (5 * p + 1)) (v (5 * p + 2)) ((i : Int) + off)).toNat)) + 1)) bof us bl lg) := hD
        refine lv_aload_n hx hb dX5_gather_55 rfl (lv_at hl 1 rfl) ?_
        refine va_get (D := D) (ci := 4) (v := .ref (ad 8)) (C := RX5) (T := TX5) (N := 14) hx hb ht inTB_X5 hown hK hP 0 rfl rfl 0 (by decide) (ht _ tb_77) (fun _ h9 => h9) rfl dX5_gather_56 ?_
        refine lv_aload_n hx hb dX5_gather_59 rfl (lv_at hl 1 rfl) ?_
        refine va_get (D := D) (ci := 4) (v := .int (iI SW)) (C := RX5) (T := TX5) (N := 14) hx hb ht inTB_X5 hown hK hP 0 rfl rfl 6 (by decide) (ht _ tb_85) (fun _ h9 => h9) rfl dX5_gather_60 ?_
        refine lv_iload hx hb dX5_gather_63 (lv_at hl 0 rfl) ?_
        refine rv_iast hx hb hK hP hD hS 1 0 rfl rfl SW.toNat (by omega) (by omega) dX5_gather_65 (fun H locs hP hD hS => ?_)
        have hP : va_P D classes (sW cs ad SW sun sbo scw bo cu lo wh (upI DP SW.toNat (dpt (v (5 * p)) (v (5 * p + 1)) (v (5 * p + 2)) ((i : Int) + off))) (upI AL ((dpt (v (5 * p)) (v (5 * p + 1)) (v (5 * p + 2)) ((i : Int) + off)).toNat) ((AL ((dpt (v (5 * p)) (v (5 * p + 1)) (v (5 * p + 2)) ((i : Int) + off)).toNat)) + 1)) bof us bl lg) H := hP
        have hD : va_D A (sW cs ad SW sun sbo scw bo cu lo wh (upI DP SW.toNat (dpt (v (5 * p)) (v (5 * p + 1)) (v (5 * p + 2)) ((i : Int) + off))) (upI AL ((dpt (v (5 * p)) (v (5 * p + 1)) (v (5 * p + 2)) ((i : Int) + off)).toNat) ((AL ((dpt (v (5 * p)) (v (5 * p + 1)) (v (5 * p + 2)) ((i : Int) + off)).toNat)) + 1)) bof us bl lg) := hD
        refine lv_aload_n hx hb dX5_gather_66 rfl (lv_at hl 1 rfl) ?_
        refine lv_dup hx hb dX5_gather_67 rfl ?_
        refine va_get (D := D) (ci := 4) (v := .int (iI SW)) (C := RX5) (T := TX5) (N := 14) hx hb ht inTB_X5 hown hK hP 0 rfl rfl 6 (by decide) (ht _ tb_85) (fun _ h9 => h9) rfl dX5_gather_68 ?_
        refine rv_iconst hx hb dX5_gather_71 ?_
        refine rv_iadd hx hb dX5_gather_72 ?_
        refine va_put (D := D) (ci := 4) (v := .int (iI (SW + 1))) (ty := tyX5 6) (C := RX5) (T := TX5) (N := 14) hx hb ht inTB_X5 tyX5 tyX5_ok nmX5 hown hK hP hD hS 0 rfl rfl 6 (by decide) (ht _ tb_85) (fun _ h9 => h9) rfl (tyX5_ok 6 (by decide)) rfl rfl (Nat.le_of_ble_eq_true rfl) dX5_gather_73 (fun H locs hP hD hS => ?_)
        have hP : va_P D classes (sW cs ad (SW + 1) sun sbo scw bo cu lo wh (upI DP SW.toNat (dpt (v (5 * p)) (v (5 * p + 1)) (v (5 * p + 2)) ((i : Int) + off))) (upI AL ((dpt (v (5 * p)) (v (5 * p + 1)) (v (5 * p + 2)) ((i : Int) + off)).toNat) ((AL ((dpt (v (5 * p)) (v (5 * p + 1)) (v (5 * p + 2)) ((i : Int) + off)).toNat)) + 1)) bof us bl lg) H := hP
        have hD : va_D A (sW cs ad (SW + 1) sun sbo scw bo cu lo wh (upI DP SW.toNat (dpt (v (5 * p)) (v (5 * p + 1)) (v (5 * p + 2)) ((i : Int) + off))) (upI AL ((dpt (v (5 * p)) (v (5 * p + 1)) (v (5 * p + 2)) ((i : Int) + off)).toNat) ((AL ((dpt (v (5 * p)) (v (5 * p + 1)) (v (5 * p + 2)) ((i : Int) + off)).toNat)) + 1)) bof us bl lg) := hD
        refine rv_iinc (k := 4) (lv' := [(3, .int (iI ((i : Int) + 1))), (4, .int (iI (dpt (v (5 * p)) (v (5 * p + 1)) (v (5 * p + 2)) ((i : Int) + off)))), (0, .ref (ad 7)), (1, .ref y), (2, .int (iI off))]) hx hb dX5_gather_76 hl rfl (by decide) rfl (fun ls hl => ?_)
        refine lv_goto (tgt := 2) hx hb dX5_gather_79 (by decide) ?_
        exact ih2 (i + 1) (SW + 1) (upI DP SW.toNat (dpt (v (5 * p)) (v (5 * p + 1)) (v (5 * p + 2)) ((i : Int) + off))) (upI AL ((dpt (v (5 * p)) (v (5 * p + 1)) (v (5 * p + 2)) ((i : Int) + off)).toNat) ((AL ((dpt (v (5 * p)) (v (5 * p + 1)) (v (5 * p + 2)) ((i : Int) + off)).toNat)) + 1)) (by omega) (GI_step hvL hGi ((exW_at (by omega)).mpr ⟨hp, by omega⟩) (by rw [dM_at (by omega) ⟨hp, by omega⟩, hoff])) (by omega) _ (by omega) H locs hP hD hS ls (lv_sub hl [2, 3, 4, 0] rfl)
  exact loop2 (_ + 1) 0 swl dps alk (by omega) hG (Nat.lt_succ_self _) _ rfl H locs hP hD hS ls (lv_sub hl [1, 2, 3, 0] rfl)

