/-! the model: cutting -/

abbrev rm_X7_cuts : Room := { frames := 0, cells := 0, slots := 0, locals := 0 }
set_option maxHeartbeats 8000000 in
set_option maxRecDepth 100000 in
/-- cuts -/
theorem c_X7_cuts (l : Launch) (D : va_G) (cs : Nat → ClassId) (ad : Nat → Nat) (sz : Nat) (len : Int) (spot : Int) (un : Int) (bo : Int) (cu : Int) (lo : Int) (wh : Int) (tx : Nat → Int) (now : Nat → Int) (rd : Nat → Int) (bf : Nat → Int) (bl : Nat → Int) (us : Nat → Int) (lg : Nat → Int) (bd : Nat → Int) (dp : Nat → Int) (size : Int) (well : Int) (br : Nat → Int) (hvL : vL now) (hok : okC ((bo, cu, wh), us, bl, lg, br)) (hcu : cu < 160) (hsz : 0 ≤ size ∧ size ≤ now 22) (hwl : 0 ≤ well ∧ well < 160) : Met l yX7_cuts (Cond.code yX7_cuts cX7_cuts 4 none :: TB) rm_X7_cuts (va_Pc [.ref (ad 0), .int (iI size), .int (iI well)] (MPre D cs sz (mW cs ad len spot un bo cu lo wh tx now rd bf bl us lg bd dp) (fun _ _ => True))) (va_Qv (fun _ : Unit => True) (fun _ t => ∃ (bo2 : Int) (cu2 : Int) (wh2 : Int) (us2 : Nat → Int) (bl2 : Nat → Int) (lg2 : Nat → Int) (bd2 : Nat → Int) (br2 : Nat → Int), ((((bo2, cu2, wh2), us2, bl2, lg2, br2) : CS) = cut1 (now 23) (now 22) size ((bo, cu, wh), us, bl, lg, br)) ∧ (bd2 = upI bd well.toNat ((ffs (now 23) (now 22) size ((bo, cu, wh), us, bl, lg, br) : Nat) : Int)) ∧ va_P D classes (mW cs ad len spot un bo2 cu2 lo wh2 tx now rd bf bl2 us2 lg2 bd2 dp) t.heap ∧ va_D (va_A (mW cs ad len spot un bo cu lo wh tx now rd bf bl us lg bd dp) sz) (mW cs ad len spot un bo2 cu2 lo wh2 tx now rd bf bl2 us2 lg2 bd2 dp)) (va_A (mW cs ad len spot un bo cu lo wh tx now rd bf bl us lg bd dp) sz)) 0 0 (va_A (mW cs ad len spot un bo cu lo wh tx now rd bf bl us lg bd dp) sz) := by
  refine enter (cc := cX7_cuts) (maxL := 4) (ret := none) (by decide) (Nat.le_of_ble_eq_true rfl) ?_
  intro pg ev s m below meth c Q ls hx hb hml hown hts hr hlocks hnm ⟨hsz, hP, hD0, hK, hX0⟩ hl hQ
  have ht : ∀ w ∈ TB, w.before _ s = true := fun w h => hts w (List.mem_cons_of_mem _ h)
  subst hsz
  have hD := hD0.self (sz := s.heap.size)
  obtain ⟨A, hAe⟩ : ∃ A, va_A (mW cs ad len spot un bo cu lo wh tx now rd bf bl us lg bd dp) s.heap.size = A := ⟨_, rfl⟩
  rw [hAe] at hD
  have hA : ∀ q : Nat, s.heap.size ≤ q → A q := fun q h => by rw [← hAe]; exact Or.inr h
  obtain ⟨H, hH⟩ : ∃ H, H = s.heap := ⟨_, rfl⟩
  obtain ⟨locs, hlocs⟩ : ∃ locs : List Loc, locs = [] := ⟨_, rfl⟩
  have hS : va_S A s.heap H locs := by rw [hH, hlocs]; exact va_S.rf
  rw [← hH] at hP
  suffices hgo : W pg l ev rm_X7_cuts s m [.ref (ad 0), .int (iI size), .int (iI well)].toArray below meth c H locs 0 0 Q (F0 m 0 ls []) by rw [hH, hlocs] at hgo; exact hgo
  have hl : lv_has ls 4 [(0, .ref (ad 0)), (1, .int (iI size)), (2, .int (iI well))] := hl
  obtain ⟨hv20, hv21, hv22, hv23, hvp⟩ := id hvL
  obtain ⟨k0, k1, k2, k3, k4⟩ := id hok
  have k0 : 0 ≤ bo := k0
  have k1 : bo ≤ cu := k1
  have k2 : 0 ≤ wh := k2
  have k3 : wh ≤ 400 * cu := k3
  have k4 : ∀ b : Nat, (b : Int) < bo → (0 ≤ us b ∧ us b ≤ 400) ∧ (0 ≤ bl b ∧ bl b ≤ cu) := k4
  refine rv_iconst hx hb dX7_cuts_0 ?_
  refine lv_istore_n (lv' := [(3, .int (iI 0)), (0, .ref (ad 0)), (1, .int (iI size)), (2, .int (iI well))]) hx hb dX7_cuts_1 rfl hl (by decide) rfl (fun ls hl => ?_)
  have loop2 : ∀ (fuel2 : Nat) (b : Nat), ((b : Int) ≤ bo) → (ffr us bl (now 23) (now 22) size (bo.toNat - b) b = ffs (now 23) (now 22) size ((bo, cu, wh), us, bl, lg, br)) → (bo.toNat - b) < fuel2 → ∀ (x3 : Int), x3 = (b : Int) → ∀ ls : Array Slot, lv_has ls 4 [(0, .ref (ad 0)), (1, .int (iI size)), (2, .int (iI well)), (3, .int (iI x3))] → W pg l ev rm_X7_cuts s m [.ref (ad 0), .int (iI size), .int (iI well)].toArray below meth c H locs 0 0 Q (F0 m 2 ls []) := by
    intro fuel2
    induction fuel2 with
    | zero => intro b hb1 hq hfuel2; exact absurd hfuel2 (Nat.not_lt_zero _)
    | succ fuel2 ih2 =>
      intro b hb1 hq hfuel2 x3 ex3 ls hl
      subst ex3
      refine lv_iload_n hx hb dX7_cuts_2 rfl (lv_at hl 3 rfl) ?_
      refine lv_aload_n hx hb dX7_cuts_3 rfl (lv_at hl 0 rfl) ?_
      refine va_get (D := D) (ci := 6) (v := .int (iI bo)) (C := RX7) (T := TX7) (N := 16) hx hb ht inTB_X7 hown hK hP 0 rfl rfl 12 (by decide) (ht _ tb_600) (fun _ h9 => h9) rfl dX7_cuts_4 ?_
      refine rv_icmp_ge (tgt := 49) hx hb dX7_cuts_7 (by decide) (by omega) (fun h7 => ?_) (fun h7 => ?_)
      · have hF : ffs (now 23) (now 22) size ((bo, cu, wh), us, bl, lg, br) = b := by first | (rw [show bo.toNat - b = 0 by omega, ffr] at hq; exact hq.symm) | (rw [show bo.toNat - b = (bo.toNat - (b + 1)) + 1 by omega, ffr, if_pos h40] at hq; exact hq.symm)
        refine lv_iload_n hx hb dX7_cuts_49 rfl (lv_at hl 3 rfl) ?_
        refine lv_aload_n hx hb dX7_cuts_50 rfl (lv_at hl 0 rfl) ?_
        refine va_get (D := D) (ci := 6) (v := .int (iI bo)) (C := RX7) (T := TX7) (N := 16) hx hb ht inTB_X7 hown hK hP 0 rfl rfl 12 (by decide) (ht _ tb_600) (fun _ h9 => h9) rfl dX7_cuts_51 ?_
        refine rv_icmp_ne (tgt := 88) hx hb dX7_cuts_54 (by decide) (by omega) (fun h54 => ?_) (fun h54 => ?_)
        · refine lv_aload_n hx hb dX7_cuts_88 rfl (lv_at hl 0 rfl) ?_
          refine va_get (D := D) (ci := 6) (v := .ref (ad 5)) (C := RX7) (T := TX7) (N := 16) hx hb ht inTB_X7 hown hK hP 0 rfl rfl 7 (by decide) (ht _ tb_595) (fun _ h9 => h9) rfl dX7_cuts_89 ?_
          refine lv_iload_n hx hb dX7_cuts_92 rfl (lv_at hl 3 rfl) ?_
          refine lv_dup2_11 hx hb dX7_cuts_93 rfl rfl ?_
          refine rv_iald hx hb hK hP 5 0 rfl rfl b rfl (by omega) dX7_cuts_94 ?_
          refine rv_iconst hx hb dX7_cuts_95 ?_
          refine rv_iadd hx hb dX7_cuts_96 ?_
          refine rv_iast hx hb hK hP hD hS 5 0 rfl rfl b rfl (by omega) dX7_cuts_97 (fun H locs hP hD hS => ?_)
          have hP : va_P D classes (mW cs ad len spot un bo cu lo wh tx now rd bf (upI bl b ((bl b) + 1)) us lg bd dp) H := hP
          have hD : va_D A (mW cs ad len spot un bo cu lo wh tx now rd bf (upI bl b ((bl b) + 1)) us lg bd dp) := hD
          refine lv_aload_n hx hb dX7_cuts_98 rfl (lv_at hl 0 rfl) ?_
          refine va_get (D := D) (ci := 6) (v := .ref (ad 6)) (C := RX7) (T := TX7) (N := 16) hx hb ht inTB_X7 hown hK hP 0 rfl rfl 8 (by decide) (ht _ tb_596) (fun _ h9 => h9) rfl dX7_cuts_99 ?_
          refine lv_iload_n hx hb dX7_cuts_102 rfl (lv_at hl 3 rfl) ?_
          refine lv_dup2_11 hx hb dX7_cuts_103 rfl rfl ?_
          refine rv_iald hx hb hK hP 6 0 rfl rfl b rfl (by omega) dX7_cuts_104 ?_
          refine lv_iload_n hx hb dX7_cuts_105 rfl (lv_at hl 1 rfl) ?_
          refine rv_iadd hx hb dX7_cuts_106 ?_
          refine rv_iast hx hb hK hP hD hS 6 0 rfl rfl b rfl (by omega) dX7_cuts_107 (fun H locs hP hD hS => ?_)
          have hP : va_P D classes (mW cs ad len spot un bo cu lo wh tx now rd bf (upI bl b ((bl b) + 1)) (upI us b ((us b) + size)) lg bd dp) H := hP
          have hD : va_D A (mW cs ad len spot un bo cu lo wh tx now rd bf (upI bl b ((bl b) + 1)) (upI us b ((us b) + size)) lg bd dp) := hD
          refine lv_aload_n hx hb dX7_cuts_108 rfl (lv_at hl 0 rfl) ?_
          refine va_get (D := D) (ci := 6) (v := .ref (ad 8)) (C := RX7) (T := TX7) (N := 16) hx hb ht inTB_X7 hown hK hP 0 rfl rfl 10 (by decide) (ht _ tb_598) (fun _ h9 => h9) rfl dX7_cuts_109 ?_
          refine lv_iload_n hx hb dX7_cuts_112 rfl (lv_at hl 2 rfl) ?_
          refine lv_iload_n hx hb dX7_cuts_113 rfl (lv_at hl 3 rfl) ?_
          refine rv_iast hx hb hK hP hD hS 8 0 rfl rfl well.toNat (by omega) (by omega) dX7_cuts_114 (fun H locs hP hD hS => ?_)
          have hP : va_P D classes (mW cs ad len spot un bo cu lo wh tx now rd bf (upI bl b ((bl b) + 1)) (upI us b ((us b) + size)) lg (upI bd well.toNat (b : Int)) dp) H := hP
          have hD : va_D A (mW cs ad len spot un bo cu lo wh tx now rd bf (upI bl b ((bl b) + 1)) (upI us b ((us b) + size)) lg (upI bd well.toNat (b : Int)) dp) := hD
          refine lv_aload_n hx hb dX7_cuts_115 rfl (lv_at hl 0 rfl) ?_
          refine lv_dup hx hb dX7_cuts_116 rfl ?_
          refine va_get (D := D) (ci := 6) (v := .int (iI cu)) (C := RX7) (T := TX7) (N := 16) hx hb ht inTB_X7 hown hK hP 0 rfl rfl 13 (by decide) (ht _ tb_601) (fun _ h9 => h9) rfl dX7_cuts_117 ?_
          refine rv_iconst hx hb dX7_cuts_120 ?_
          refine rv_iadd hx hb dX7_cuts_121 ?_
          refine va_put (D := D) (ci := 6) (v := .int (iI (cu + 1))) (ty := tyX7 13) (C := RX7) (T := TX7) (N := 16) hx hb ht inTB_X7 tyX7 tyX7_ok nmX7 hown hK hP hD hS 0 rfl rfl 13 (by decide) (ht _ tb_601) (fun _ h9 => h9) rfl (tyX7_ok 13 (by decide)) rfl rfl (Nat.le_of_ble_eq_true rfl) dX7_cuts_122 (fun H locs hP hD hS => ?_)
          have hP : va_P D classes (mW cs ad len spot un bo (cu + 1) lo wh tx now rd bf (upI bl b ((bl b) + 1)) (upI us b ((us b) + size)) lg (upI bd well.toNat (b : Int)) dp) H := hP
          have hD : va_D A (mW cs ad len spot un bo (cu + 1) lo wh tx now rd bf (upI bl b ((bl b) + 1)) (upI us b ((us b) + size)) lg (upI bd well.toNat (b : Int)) dp) := hD
          refine lv_aload_n hx hb dX7_cuts_125 rfl (lv_at hl 0 rfl) ?_
          refine lv_dup hx hb dX7_cuts_126 rfl ?_
          refine va_get (D := D) (ci := 6) (v := .int (iI wh)) (C := RX7) (T := TX7) (N := 16) hx hb ht inTB_X7 hown hK hP 0 rfl rfl 15 (by decide) (ht _ tb_603) (fun _ h9 => h9) rfl dX7_cuts_127 ?_
          refine lv_iload_n hx hb dX7_cuts_130 rfl (lv_at hl 1 rfl) ?_
          refine rv_iadd hx hb dX7_cuts_131 ?_
          refine va_put (D := D) (ci := 6) (v := .int (iI (wh + size))) (ty := tyX7 15) (C := RX7) (T := TX7) (N := 16) hx hb ht inTB_X7 tyX7 tyX7_ok nmX7 hown hK hP hD hS 0 rfl rfl 15 (by decide) (ht _ tb_603) (fun _ h9 => h9) rfl (tyX7_ok 15 (by decide)) rfl rfl (Nat.le_of_ble_eq_true rfl) dX7_cuts_132 (fun H locs hP hD hS => ?_)
          have hP : va_P D classes (mW cs ad len spot un bo (cu + 1) lo (wh + size) tx now rd bf (upI bl b ((bl b) + 1)) (upI us b ((us b) + size)) lg (upI bd well.toNat (b : Int)) dp) H := hP
          have hD : va_D A (mW cs ad len spot un bo (cu + 1) lo (wh + size) tx now rd bf (upI bl b ((bl b) + 1)) (upI us b ((us b) + size)) lg (upI bd well.toNat (b : Int)) dp) := hD
          subst hQ
          exact W.vret hx hb hr (fun t9 ht9 hW9 => ⟨⟨(), rfl, trivial, ⟨bo, (cu + 1), (wh + size), (upI us b ((us b) + size)), (upI bl b ((bl b) + 1)), lg, (upI bd well.toNat (b : Int)), (upI br cu.toNat (b : Int)), by unfold cut1; rw [hF]; first | (rw [if_pos (show ((b : Nat) : Int) = ((((bo, cu, wh), us, bl, lg, br) : CS)).1.1 from h54)]; done) | (rw [if_neg (show ¬ ((b : Nat) : Int) = ((((bo, cu, wh), us, bl, lg, br) : CS)).1.1 from h54)]; done), by rw [hF], by rw [ht9]; exact hP, by rw [hAe]; exact hD⟩⟩, by rw [hAe]; exact hS.F ht9⟩) (by rw [hAe]; exact hS.2.2) dX7_cuts_135
        · refine lv_aload_n hx hb dX7_cuts_57 rfl (lv_at hl 0 rfl) ?_
          refine va_get (D := D) (ci := 6) (v := .ref (ad 5)) (C := RX7) (T := TX7) (N := 16) hx hb ht inTB_X7 hown hK hP 0 rfl rfl 7 (by decide) (ht _ tb_595) (fun _ h9 => h9) rfl dX7_cuts_58 ?_
          refine lv_iload_n hx hb dX7_cuts_61 rfl (lv_at hl 3 rfl) ?_
          refine rv_iconst hx hb dX7_cuts_62 ?_
          refine rv_iast hx hb hK hP hD hS 5 0 rfl rfl b rfl (by omega) dX7_cuts_63 (fun H locs hP hD hS => ?_)
          have hP : va_P D classes (mW cs ad len spot un bo cu lo wh tx now rd bf (upI bl b 0) us lg bd dp) H := hP
          have hD : va_D A (mW cs ad len spot un bo cu lo wh tx now rd bf (upI bl b 0) us lg bd dp) := hD
          refine lv_aload_n hx hb dX7_cuts_64 rfl (lv_at hl 0 rfl) ?_
          refine va_get (D := D) (ci := 6) (v := .ref (ad 6)) (C := RX7) (T := TX7) (N := 16) hx hb ht inTB_X7 hown hK hP 0 rfl rfl 8 (by decide) (ht _ tb_596) (fun _ h9 => h9) rfl dX7_cuts_65 ?_
          refine lv_iload_n hx hb dX7_cuts_68 rfl (lv_at hl 3 rfl) ?_
          refine rv_iconst hx hb dX7_cuts_69 ?_
          refine rv_iast hx hb hK hP hD hS 6 0 rfl rfl b rfl (by omega) dX7_cuts_70 (fun H locs hP hD hS => ?_)
          have hP : va_P D classes (mW cs ad len spot un bo cu lo wh tx now rd bf (upI bl b 0) (upI us b 0) lg bd dp) H := hP
          have hD : va_D A (mW cs ad len spot un bo cu lo wh tx now rd bf (upI bl b 0) (upI us b 0) lg bd dp) := hD
          refine lv_aload_n hx hb dX7_cuts_71 rfl (lv_at hl 0 rfl) ?_
          refine va_get (D := D) (ci := 6) (v := .ref (ad 7)) (C := RX7) (T := TX7) (N := 16) hx hb ht inTB_X7 hown hK hP 0 rfl rfl 9 (by decide) (ht _ tb_597) (fun _ h9 => h9) rfl dX7_cuts_72 ?_
          refine lv_iload_n hx hb dX7_cuts_75 rfl (lv_at hl 3 rfl) ?_
          refine lv_iload_n hx hb dX7_cuts_76 rfl (lv_at hl 1 rfl) ?_
          refine rv_iast hx hb hK hP hD hS 7 0 rfl rfl b rfl (by omega) dX7_cuts_77 (fun H locs hP hD hS => ?_)
          have hP : va_P D classes (mW cs ad len spot un bo cu lo wh tx now rd bf (upI bl b 0) (upI us b 0) (upI lg b size) bd dp) H := hP
          have hD : va_D A (mW cs ad len spot un bo cu lo wh tx now rd bf (upI bl b 0) (upI us b 0) (upI lg b size) bd dp) := hD
          refine lv_aload_n hx hb dX7_cuts_78 rfl (lv_at hl 0 rfl) ?_
          refine lv_dup hx hb dX7_cuts_79 rfl ?_
          refine va_get (D := D) (ci := 6) (v := .int (iI bo)) (C := RX7) (T := TX7) (N := 16) hx hb ht inTB_X7 hown hK hP 0 rfl rfl 12 (by decide) (ht _ tb_600) (fun _ h9 => h9) rfl dX7_cuts_80 ?_
          refine rv_iconst hx hb dX7_cuts_83 ?_
          refine rv_iadd hx hb dX7_cuts_84 ?_
          refine va_put (D := D) (ci := 6) (v := .int (iI (bo + 1))) (ty := tyX7 12) (C := RX7) (T := TX7) (N := 16) hx hb ht inTB_X7 tyX7 tyX7_ok nmX7 hown hK hP hD hS 0 rfl rfl 12 (by decide) (ht _ tb_600) (fun _ h9 => h9) rfl (tyX7_ok 12 (by decide)) rfl rfl (Nat.le_of_ble_eq_true rfl) dX7_cuts_85 (fun H locs hP hD hS => ?_)
          have hP : va_P D classes (mW cs ad len spot un (bo + 1) cu lo wh tx now rd bf (upI bl b 0) (upI us b 0) (upI lg b size) bd dp) H := hP
          have hD : va_D A (mW cs ad len spot un (bo + 1) cu lo wh tx now rd bf (upI bl b 0) (upI us b 0) (upI lg b size) bd dp) := hD
          refine lv_aload_n hx hb dX7_cuts_88 rfl (lv_at hl 0 rfl) ?_
          refine va_get (D := D) (ci := 6) (v := .ref (ad 5)) (C := RX7) (T := TX7) (N := 16) hx hb ht inTB_X7 hown hK hP 0 rfl rfl 7 (by decide) (ht _ tb_595) (fun _ h9 => h9) rfl dX7_cuts_89 ?_
          refine lv_iload_n hx hb dX7_cuts_92 rfl (lv_at hl 3 rfl) ?_
          refine lv_dup2_11 hx hb dX7_cuts_93 rfl rfl ?_
          refine rv_iald hx hb hK hP 5 0 rfl rfl b rfl (by omega) dX7_cuts_94 ?_
          refine rv_iconst hx hb dX7_cuts_95 ?_
          refine rv_iadd hx hb dX7_cuts_96 ?_
          refine rv_iast hx hb hK hP hD hS 5 0 rfl rfl b rfl (by omega) dX7_cuts_97 (fun H locs hP hD hS => ?_)
          have hP : va_P D classes (mW cs ad len spot un (bo + 1) cu lo wh tx now rd bf (upI (upI bl b 0) b (((upI bl b 0) b) + 1)) (upI us b 0) (upI lg b size) bd dp) H := hP
          have hD : va_D A (mW cs ad len spot un (bo + 1) cu lo wh tx now rd bf (upI (upI bl b 0) b (((upI bl b 0) b) + 1)) (upI us b 0) (upI lg b size) bd dp) := hD
          refine lv_aload_n hx hb dX7_cuts_98 rfl (lv_at hl 0 rfl) ?_
          refine va_get (D := D) (ci := 6) (v := .ref (ad 6)) (C := RX7) (T := TX7) (N := 16) hx hb ht inTB_X7 hown hK hP 0 rfl rfl 8 (by decide) (ht _ tb_596) (fun _ h9 => h9) rfl dX7_cuts_99 ?_
          refine lv_iload_n hx hb dX7_cuts_102 rfl (lv_at hl 3 rfl) ?_
          refine lv_dup2_11 hx hb dX7_cuts_103 rfl rfl ?_
          refine rv_iald hx hb hK hP 6 0 rfl rfl b rfl (by omega) dX7_cuts_104 ?_
          refine lv_iload_n hx hb dX7_cuts_105 rfl (lv_at hl 1 rfl) ?_
          refine rv_iadd hx hb dX7_cuts_106 ?_
          refine rv_iast hx hb hK hP hD hS 6 0 rfl rfl b rfl (by omega) dX7_cuts_107 (fun H locs hP hD hS => ?_)
          have hP : va_P D classes (mW cs ad len spot un (bo + 1) cu lo wh tx now rd bf (upI (upI bl b 0) b (((upI bl b 0) b) + 1)) (upI (upI us b 0) b (((upI us b 0) b) + size)) (upI lg b size) bd dp) H := hP
          have hD : va_D A (mW cs ad len spot un (bo + 1) cu lo wh tx now rd bf (upI (upI bl b 0) b (((upI bl b 0) b) + 1)) (upI (upI us b 0) b (((upI us b 0) b) + size)) (upI lg b size) bd dp) := hD
          refine lv_aload_n hx hb dX7_cuts_108 rfl (lv_at hl 0 rfl) ?_
          refine va_get (D := D) (ci := 6) (v := .ref (ad 8)) (C := RX7) (T := TX7) (N := 16) hx hb ht inTB_X7 hown hK hP 0 rfl rfl 10 (by decide) (ht _ tb_598) (fun _ h9 => h9) rfl dX7_cuts_109 ?_
          refine lv_iload_n hx hb dX7_cuts_112 rfl (lv_at hl 2 rfl) ?_
          refine lv_iload_n hx hb dX7_cuts_113 rfl (lv_at hl 3 rfl) ?_
          refine rv_iast hx hb hK hP hD hS 8 0 rfl rfl well.toNat (by omega) (by omega) dX7_cuts_114 (fun H locs hP hD hS => ?_)
          have hP : va_P D classes (mW cs ad len spot un (bo + 1) cu lo wh tx now rd bf (upI (upI bl b 0) b (((upI bl b 0) b) + 1)) (upI (upI us b 0) b (((upI us b 0) b) + size)) (upI lg b size) (upI bd well.toNat (b : Int)) dp) H := hP
          have hD : va_D A (mW cs ad len spot un (bo + 1) cu lo wh tx now rd bf (upI (upI bl b 0) b (((upI bl b 0) b) + 1)) (upI (upI us b 0) b (((upI us b 0) b) + size)) (upI lg b size) (upI bd well.toNat (b : Int)) dp) := hD
          refine lv_aload_n hx hb dX7_cuts_115 rfl (lv_at hl 0 rfl) ?_
          refine lv_dup hx hb dX7_cuts_116 rfl ?_
          refine va_get (D := D) (ci := 6) (v := .int (iI cu)) (C := RX7) (T := TX7) (N := 16) hx hb ht inTB_X7 hown hK hP 0 rfl rfl 13 (by decide) (ht _ tb_601) (fun _ h9 => h9) rfl dX7_cuts_117 ?_
          refine rv_iconst hx hb dX7_cuts_120 ?_
          refine rv_iadd hx hb dX7_cuts_121 ?_
          refine va_put (D := D) (ci := 6) (v := .int (iI (cu + 1))) (ty := tyX7 13) (C := RX7) (T := TX7) (N := 16) hx hb ht inTB_X7 tyX7 tyX7_ok nmX7 hown hK hP hD hS 0 rfl rfl 13 (by decide) (ht _ tb_601) (fun _ h9 => h9) rfl (tyX7_ok 13 (by decide)) rfl rfl (Nat.le_of_ble_eq_true rfl) dX7_cuts_122 (fun H locs hP hD hS => ?_)
          have hP : va_P D classes (mW cs ad len spot un (bo + 1) (cu + 1) lo wh tx now rd bf (upI (upI bl b 0) b (((upI bl b 0) b) + 1)) (upI (upI us b 0) b (((upI us b 0) b) + size)) (upI lg b size) (upI bd well.toNat (b : Int)) dp) H := hP
          have hD : va_D A (mW cs ad len spot un (bo + 1) (cu + 1) lo wh tx now rd bf (upI (upI bl b 0) b (((upI bl b 0) b) + 1)) (upI (upI us b 0) b (((upI us b 0) b) + size)) (upI lg b size) (upI bd well.toNat (b : Int)) dp) := hD
          refine lv_aload_n hx hb dX7_cuts_125 rfl (lv_at hl 0 rfl) ?_
          refine lv_dup hx hb dX7_cuts_126 rfl ?_
          refine va_get (D := D) (ci := 6) (v := .int (iI wh)) (C := RX7) (T := TX7) (N := 16) hx hb ht inTB_X7 hown hK hP 0 rfl rfl 15 (by decide) (ht _ tb_603) (fun _ h9 => h9) rfl dX7_cuts_127 ?_
          refine lv_iload_n hx hb dX7_cuts_130 rfl (lv_at hl 1 rfl) ?_
          refine rv_iadd hx hb dX7_cuts_131 ?_
          refine va_put (D := D) (ci := 6) (v := .int (iI (wh + size))) (ty := tyX7 15) (C := RX7) (T := TX7) (N := 16) hx hb ht inTB_X7 tyX7 tyX7_ok nmX7 hown hK hP hD hS 0 rfl rfl 15 (by decide) (ht _ tb_603) (fun _ h9 => h9) rfl (tyX7_ok 15 (by decide)) rfl rfl (Nat.le_of_ble_eq_true rfl) dX7_cuts_132 (fun H locs hP hD hS => ?_)
          have hP : va_P D classes (mW cs ad len spot un (bo + 1) (cu + 1) lo (wh + size) tx now rd bf (upI (upI bl b 0) b (((upI bl b 0) b) + 1)) (upI (upI us b 0) b (((upI us b 0) b) + size)) (upI lg b size) (upI bd well.toNat (b : Int)) dp) H := hP
          have hD : va_D A (mW cs ad len spot un (bo + 1) (cu + 1) lo (wh + size) tx now rd bf (upI (upI bl b 0) b (((upI bl b 0) b) + 1)) (upI (upI us b 0) b (((upI us b 0) b) + size)) (upI lg b size) (upI bd well.toNat (b : Int)) dp) := hD
          subst hQ
          exact W.vret hx hb hr (fun t9 ht9 hW9 => ⟨⟨(), rfl, trivial, ⟨(bo + 1), (cu + 1), (wh + size), (upI (upI us b 0) b (((upI us b 0) b) + size)), (upI (upI bl b 0) b (((upI bl b 0) b) + 1)), (upI lg b size), (upI bd well.toNat (b : Int)), (upI br cu.toNat (b : Int)), by unfold cut1; rw [hF]; first | (rw [if_pos (show ((b : Nat) : Int) = ((((bo, cu, wh), us, bl, lg, br) : CS)).1.1 from h54)]; done) | (rw [if_neg (show ¬ ((b : Nat) : Int) = ((((bo, cu, wh), us, bl, lg, br) : CS)).1.1 from h54)]; done), by rw [hF], by rw [ht9]; exact hP, by rw [hAe]; exact hD⟩⟩, by rw [hAe]; exact hS.F ht9⟩) (by rw [hAe]; exact hS.2.2) dX7_cuts_135
      · have hkb := k4 b (by omega)
        have hmb : now 23 * bl b ≤ 5 * 160 := Int.mul_le_mul (by omega) (by omega) (by omega) (by decide)
        have hma : 0 ≤ now 23 * bl b := Int.mul_nonneg (by omega) (by omega)
        refine lv_aload_n hx hb dX7_cuts_10 rfl (lv_at hl 0 rfl) ?_
        refine va_get (D := D) (ci := 6) (v := .ref (ad 6)) (C := RX7) (T := TX7) (N := 16) hx hb ht inTB_X7 hown hK hP 0 rfl rfl 8 (by decide) (ht _ tb_596) (fun _ h9 => h9) rfl dX7_cuts_11 ?_
        refine lv_iload_n hx hb dX7_cuts_14 rfl (lv_at hl 3 rfl) ?_
        refine rv_iald hx hb hK hP 6 0 rfl rfl b rfl (by omega) dX7_cuts_15 ?_
        refine lv_aload_n hx hb dX7_cuts_16 rfl (lv_at hl 0 rfl) ?_
        refine va_get (D := D) (ci := 6) (v := .ref (ad 2)) (C := RX7) (T := TX7) (N := 16) hx hb ht inTB_X7 hown hK hP 0 rfl rfl 3 (by decide) (ht _ tb_591) (fun _ h9 => h9) rfl dX7_cuts_17 ?_
        refine rv_bipush hx hb dX7_cuts_20 (by decide) ?_
        refine rv_iald hx hb hK hP 2 0 rfl rfl 23 rfl (by omega) dX7_cuts_22 ?_
        refine lv_aload_n hx hb dX7_cuts_23 rfl (lv_at hl 0 rfl) ?_
        refine va_get (D := D) (ci := 6) (v := .ref (ad 5)) (C := RX7) (T := TX7) (N := 16) hx hb ht inTB_X7 hown hK hP 0 rfl rfl 7 (by decide) (ht _ tb_595) (fun _ h9 => h9) rfl dX7_cuts_24 ?_
        refine lv_iload_n hx hb dX7_cuts_27 rfl (lv_at hl 3 rfl) ?_
        refine rv_iald hx hb hK hP 5 0 rfl rfl b rfl (by omega) dX7_cuts_28 ?_
        refine rv_imul hx hb dX7_cuts_29 ?_
        refine rv_iadd hx hb dX7_cuts_30 ?_
        refine lv_iload_n hx hb dX7_cuts_31 rfl (lv_at hl 1 rfl) ?_
        refine rv_iadd hx hb dX7_cuts_32 ?_
        refine lv_aload_n hx hb dX7_cuts_33 rfl (lv_at hl 0 rfl) ?_
        refine va_get (D := D) (ci := 6) (v := .ref (ad 2)) (C := RX7) (T := TX7) (N := 16) hx hb ht inTB_X7 hown hK hP 0 rfl rfl 3 (by decide) (ht _ tb_591) (fun _ h9 => h9) rfl dX7_cuts_34 ?_
        refine rv_bipush hx hb dX7_cuts_37 (by decide) ?_
        refine rv_iald hx hb hK hP 2 0 rfl rfl 22 rfl (by omega) dX7_cuts_39 ?_
        refine rv_icmp_le (tgt := 49) hx hb dX7_cuts_40 (by decide) (by omega) (fun h40 => ?_) (fun h40 => ?_)
        · have hF : ffs (now 23) (now 22) size ((bo, cu, wh), us, bl, lg, br) = b := by first | (rw [show bo.toNat - b = 0 by omega, ffr] at hq; exact hq.symm) | (rw [show bo.toNat - b = (bo.toNat - (b + 1)) + 1 by omega, ffr, if_pos h40] at hq; exact hq.symm)
          refine lv_iload_n hx hb dX7_cuts_49 rfl (lv_at hl 3 rfl) ?_
          refine lv_aload_n hx hb dX7_cuts_50 rfl (lv_at hl 0 rfl) ?_
          refine va_get (D := D) (ci := 6) (v := .int (iI bo)) (C := RX7) (T := TX7) (N := 16) hx hb ht inTB_X7 hown hK hP 0 rfl rfl 12 (by decide) (ht _ tb_600) (fun _ h9 => h9) rfl dX7_cuts_51 ?_
          refine rv_icmp_ne (tgt := 88) hx hb dX7_cuts_54 (by decide) (by omega) (fun h54 => ?_) (fun h54 => ?_)
          · refine lv_aload_n hx hb dX7_cuts_88 rfl (lv_at hl 0 rfl) ?_
            refine va_get (D := D) (ci := 6) (v := .ref (ad 5)) (C := RX7) (T := TX7) (N := 16) hx hb ht inTB_X7 hown hK hP 0 rfl rfl 7 (by decide) (ht _ tb_595) (fun _ h9 => h9) rfl dX7_cuts_89 ?_
            refine lv_iload_n hx hb dX7_cuts_92 rfl (lv_at hl 3 rfl) ?_
            refine lv_dup2_11 hx hb dX7_cuts_93 rfl rfl ?_
            refine rv_iald hx hb hK hP 5 0 rfl rfl b rfl (by omega) dX7_cuts_94 ?_
            refine rv_iconst hx hb dX7_cuts_95 ?_
            refine rv_iadd hx hb dX7_cuts_96 ?_
            refine rv_iast hx hb hK hP hD hS 5 0 rfl rfl b rfl (by omega) dX7_cuts_97 (fun H locs hP hD hS => ?_)
            have hP : va_P D classes (mW cs ad len spot un bo cu lo wh tx now rd bf (upI bl b ((bl b) + 1)) us lg bd dp) H := hP
            have hD : va_D A (mW cs ad len spot un bo cu lo wh tx now rd bf (upI bl b ((bl b) + 1)) us lg bd dp) := hD
            refine lv_aload_n hx hb dX7_cuts_98 rfl (lv_at hl 0 rfl) ?_
            refine va_get (D := D) (ci := 6) (v := .ref (ad 6)) (C := RX7) (T := TX7) (N := 16) hx hb ht inTB_X7 hown hK hP 0 rfl rfl 8 (by decide) (ht _ tb_596) (fun _ h9 => h9) rfl dX7_cuts_99 ?_
            refine lv_iload_n hx hb dX7_cuts_102 rfl (lv_at hl 3 rfl) ?_
            refine lv_dup2_11 hx hb dX7_cuts_103 rfl rfl ?_
            refine rv_iald hx hb hK hP 6 0 rfl rfl b rfl (by omega) dX7_cuts_104 ?_
            refine lv_iload_n hx hb dX7_cuts_105 rfl (lv_at hl 1 rfl) ?_
            refine rv_iadd hx hb dX7_cuts_106 ?_
            refine rv_iast hx hb hK hP hD hS 6 0 rfl rfl b rfl (by omega) dX7_cuts_107 (fun H locs hP hD hS => ?_)
            have hP : va_P D classes (mW cs ad len spot un bo cu lo wh tx now rd bf (upI bl b ((bl b) + 1)) (upI us b ((us b) + size)) lg bd dp) H := hP
            have hD : va_D A (mW cs ad len spot un bo cu lo wh tx now rd bf (upI bl b ((bl b) + 1)) (upI us b ((us b) + size)) lg bd dp) := hD
            refine lv_aload_n hx hb dX7_cuts_108 rfl (lv_at hl 0 rfl) ?_
            refine va_get (D := D) (ci := 6) (v := .ref (ad 8)) (C := RX7) (T := TX7) (N := 16) hx hb ht inTB_X7 hown hK hP 0 rfl rfl 10 (by decide) (ht _ tb_598) (fun _ h9 => h9) rfl dX7_cuts_109 ?_
            refine lv_iload_n hx hb dX7_cuts_112 rfl (lv_at hl 2 rfl) ?_
            refine lv_iload_n hx hb dX7_cuts_113 rfl (lv_at hl 3 rfl) ?_
            refine rv_iast hx hb hK hP hD hS 8 0 rfl rfl well.toNat (by omega) (by omega) dX7_cuts_114 (fun H locs hP hD hS => ?_)
            have hP : va_P D classes (mW cs ad len spot un bo cu lo wh tx now rd bf (upI bl b ((bl b) + 1)) (upI us b ((us b) + size)) lg (upI bd well.toNat (b : Int)) dp) H := hP
            have hD : va_D A (mW cs ad len spot un bo cu lo wh tx now rd bf (upI bl b ((bl b) + 1)) (upI us b ((us b) + size)) lg (upI bd well.toNat (b : Int)) dp) := hD
            refine lv_aload_n hx hb dX7_cuts_115 rfl (lv_at hl 0 rfl) ?_
            refine lv_dup hx hb dX7_cuts_116 rfl ?_
            refine va_get (D := D) (ci := 6) (v := .int (iI cu)) (C := RX7) (T := TX7) (N := 16) hx hb ht inTB_X7 hown hK hP 0 rfl rfl 13 (by decide) (ht _ tb_601) (fun _ h9 => h9) rfl dX7_cuts_117 ?_
            refine rv_iconst hx hb dX7_cuts_120 ?_
            refine rv_iadd hx hb dX7_cuts_121 ?_
            refine va_put (D := D) (ci := 6) (v := .int (iI (cu + 1))) (ty := tyX7 13) (C := RX7) (T := TX7) (N := 16) hx hb ht inTB_X7 tyX7 tyX7_ok nmX7 hown hK hP hD hS 0 rfl rfl 13 (by decide) (ht _ tb_601) (fun _ h9 => h9) rfl (tyX7_ok 13 (by decide)) rfl rfl (Nat.le_of_ble_eq_true rfl) dX7_cuts_122 (fun H locs hP hD hS => ?_)
            have hP : va_P D classes (mW cs ad len spot un bo (cu + 1) lo wh tx now rd bf (upI bl b ((bl b) + 1)) (upI us b ((us b) + size)) lg (upI bd well.toNat (b : Int)) dp) H := hP
            have hD : va_D A (mW cs ad len spot un bo (cu + 1) lo wh tx now rd bf (upI bl b ((bl b) + 1)) (upI us b ((us b) + size)) lg (upI bd well.toNat (b : Int)) dp) := hD
            refine lv_aload_n hx hb dX7_cuts_125 rfl (lv_at hl 0 rfl) ?_
            refine lv_dup hx hb dX7_cuts_126 rfl ?_
            refine va_get (D := D) (ci := 6) (v := .int (iI wh)) (C := RX7) (T := TX7) (N := 16) hx hb ht inTB_X7 hown hK hP 0 rfl rfl 15 (by decide) (ht _ tb_603) (fun _ h9 => h9) rfl dX7_cuts_127 ?_
            refine lv_iload_n hx hb dX7_cuts_130 rfl (lv_at hl 1 rfl) ?_
            refine rv_iadd hx hb dX7_cuts_131 ?_
            refine va_put (D := D) (ci := 6) (v := .int (iI (wh + size))) (ty := tyX7 15) (C := RX7) (T := TX7) (N := 16) hx hb ht inTB_X7 tyX7 tyX7_ok nmX7 hown hK hP hD hS 0 rfl rfl 15 (by decide) (ht _ tb_603) (fun _ h9 => h9) rfl (tyX7_ok 15 (by decide)) rfl rfl (Nat.le_of_ble_eq_true rfl) dX7_cuts_132 (fun H locs hP hD hS => ?_)
            have hP : va_P D classes (mW cs ad len spot un bo (cu + 1) lo (wh + size) tx now rd bf (upI bl b ((bl b) + 1)) (upI us b ((us b) + size)) lg (upI bd well.toNat (b : Int)) dp) H := hP
            have hD : va_D A (mW cs ad len spot un bo (cu + 1) lo (wh + size) tx now rd bf (upI bl b ((bl b) + 1)) (upI us b ((us b) + size)) lg (upI bd well.toNat (b : Int)) dp) := hD
            subst hQ
            exact W.vret hx hb hr (fun t9 ht9 hW9 => ⟨⟨(), rfl, trivial, ⟨bo, (cu + 1), (wh + size), (upI us b ((us b) + size)), (upI bl b ((bl b) + 1)), lg, (upI bd well.toNat (b : Int)), (upI br cu.toNat (b : Int)), by unfold cut1; rw [hF]; first | (rw [if_pos (show ((b : Nat) : Int) = ((((bo, cu, wh), us, bl, lg, br) : CS)).1.1 from h54)]; done) | (rw [if_neg (show ¬ ((b : Nat) : Int) = ((((bo, cu, wh), us, bl, lg, br) : CS)).1.1 from h54)]; done), by rw [hF], by rw [ht9]; exact hP, by rw [hAe]; exact hD⟩⟩, by rw [hAe]; exact hS.F ht9⟩) (by rw [hAe]; exact hS.2.2) dX7_cuts_135
          · refine lv_aload_n hx hb dX7_cuts_57 rfl (lv_at hl 0 rfl) ?_
            refine va_get (D := D) (ci := 6) (v := .ref (ad 5)) (C := RX7) (T := TX7) (N := 16) hx hb ht inTB_X7 hown hK hP 0 rfl rfl 7 (by decide) (ht _ tb_595) (fun _ h9 => h9) rfl dX7_cuts_58 ?_
            refine lv_iload_n hx hb dX7_cuts_61 rfl (lv_at hl 3 rfl) ?_
            refine rv_iconst hx hb dX7_cuts_62 ?_
            refine rv_iast hx hb hK hP hD hS 5 0 rfl rfl b rfl (by omega) dX7_cuts_63 (fun H locs hP hD hS => ?_)
            have hP : va_P D classes (mW cs ad len spot un bo cu lo wh tx now rd bf (upI bl b 0) us lg bd dp) H := hP
            have hD : va_D A (mW cs ad len spot un bo cu lo wh tx now rd bf (upI bl b 0) us lg bd dp) := hD
            refine lv_aload_n hx hb dX7_cuts_64 rfl (lv_at hl 0 rfl) ?_
            refine va_get (D := D) (ci := 6) (v := .ref (ad 6)) (C := RX7) (T := TX7) (N := 16) hx hb ht inTB_X7 hown hK hP 0 rfl rfl 8 (by decide) (ht _ tb_596) (fun _ h9 => h9) rfl dX7_cuts_65 ?_
            refine lv_iload_n hx hb dX7_cuts_68 rfl (lv_at hl 3 rfl) ?_
            refine rv_iconst hx hb dX7_cuts_69 ?_
            refine rv_iast hx hb hK hP hD hS 6 0 rfl rfl b rfl (by omega) dX7_cuts_70 (fun H locs hP hD hS => ?_)
            have hP : va_P D classes (mW cs ad len spot un bo cu lo wh tx now rd bf (upI bl b 0) (upI us b 0) lg bd dp) H := hP
            have hD : va_D A (mW cs ad len spot un bo cu lo wh tx now rd bf (upI bl b 0) (upI us b 0) lg bd dp) := hD
            refine lv_aload_n hx hb dX7_cuts_71 rfl (lv_at hl 0 rfl) ?_
            refine va_get (D := D) (ci := 6) (v := .ref (ad 7)) (C := RX7) (T := TX7) (N := 16) hx hb ht inTB_X7 hown hK hP 0 rfl rfl 9 (by decide) (ht _ tb_597) (fun _ h9 => h9) rfl dX7_cuts_72 ?_
            refine lv_iload_n hx hb dX7_cuts_75 rfl (lv_at hl 3 rfl) ?_
            refine lv_iload_n hx hb dX7_cuts_76 rfl (lv_at hl 1 rfl) ?_
            refine rv_iast hx hb hK hP hD hS 7 0 rfl rfl b rfl (by omega) dX7_cuts_77 (fun H locs hP hD hS => ?_)
            have hP : va_P D classes (mW cs ad len spot un bo cu lo wh tx now rd bf (upI bl b 0) (upI us b 0) (upI lg b size) bd dp) H := hP
            have hD : va_D A (mW cs ad len spot un bo cu lo wh tx now rd bf (upI bl b 0) (upI us b 0) (upI lg b size) bd dp) := hD
            refine lv_aload_n hx hb dX7_cuts_78 rfl (lv_at hl 0 rfl) ?_
            refine lv_dup hx hb dX7_cuts_79 rfl ?_
            refine va_get (D := D) (ci := 6) (v := .int (iI bo)) (C := RX7) (T := TX7) (N := 16) hx hb ht inTB_X7 hown hK hP 0 rfl rfl 12 (by decide) (ht _ tb_600) (fun _ h9 => h9) rfl dX7_cuts_80 ?_
            refine rv_iconst hx hb dX7_cuts_83 ?_
            refine rv_iadd hx hb dX7_cuts_84 ?_
            refine va_put (D := D) (ci := 6) (v := .int (iI (bo + 1))) (ty := tyX7 12) (C := RX7) (T := TX7) (N := 16) hx hb ht inTB_X7 tyX7 tyX7_ok nmX7 hown hK hP hD hS 0 rfl rfl 12 (by decide) (ht _ tb_600) (fun _ h9 => h9) rfl (tyX7_ok 12 (by decide)) rfl rfl (Nat.le_of_ble_eq_true rfl) dX7_cuts_85 (fun H locs hP hD hS => ?_)
            have hP : va_P D classes (mW cs ad len spot un (bo + 1) cu lo wh tx now rd bf (upI bl b 0) (upI us b 0) (upI lg b size) bd dp) H := hP
            have hD : va_D A (mW cs ad len spot un (bo + 1) cu lo wh tx now rd bf (upI bl b 0) (upI us b 0) (upI lg b size) bd dp) := hD
            refine lv_aload_n hx hb dX7_cuts_88 rfl (lv_at hl 0 rfl) ?_
            refine va_get (D := D) (ci := 6) (v := .ref (ad 5)) (C := RX7) (T := TX7) (N := 16) hx hb ht inTB_X7 hown hK hP 0 rfl rfl 7 (by decide) (ht _ tb_595) (fun _ h9 => h9) rfl dX7_cuts_89 ?_
            refine lv_iload_n hx hb dX7_cuts_92 rfl (lv_at hl 3 rfl) ?_
            refine lv_dup2_11 hx hb dX7_cuts_93 rfl rfl ?_
            refine rv_iald hx hb hK hP 5 0 rfl rfl b rfl (by omega) dX7_cuts_94 ?_
            refine rv_iconst hx hb dX7_cuts_95 ?_
            refine rv_iadd hx hb dX7_cuts_96 ?_
            refine rv_iast hx hb hK hP hD hS 5 0 rfl rfl b rfl (by omega) dX7_cuts_97 (fun H locs hP hD hS => ?_)
            have hP : va_P D classes (mW cs ad len spot un (bo + 1) cu lo wh tx now rd bf (upI (upI bl b 0) b (((upI bl b 0) b) + 1)) (upI us b 0) (upI lg b size) bd dp) H := hP
            have hD : va_D A (mW cs ad len spot un (bo + 1) cu lo wh tx now rd bf (upI (upI bl b 0) b (((upI bl b 0) b) + 1)) (upI us b 0) (upI lg b size) bd dp) := hD
            refine lv_aload_n hx hb dX7_cuts_98 rfl (lv_at hl 0 rfl) ?_
            refine va_get (D := D) (ci := 6) (v := .ref (ad 6)) (C := RX7) (T := TX7) (N := 16) hx hb ht inTB_X7 hown hK hP 0 rfl rfl 8 (by decide) (ht _ tb_596) (fun _ h9 => h9) rfl dX7_cuts_99 ?_
            refine lv_iload_n hx hb dX7_cuts_102 rfl (lv_at hl 3 rfl) ?_
            refine lv_dup2_11 hx hb dX7_cuts_103 rfl rfl ?_
            refine rv_iald hx hb hK hP 6 0 rfl rfl b rfl (by omega) dX7_cuts_104 ?_
            refine lv_iload_n hx hb dX7_cuts_105 rfl (lv_at hl 1 rfl) ?_
            refine rv_iadd hx hb dX7_cuts_106 ?_
            refine rv_iast hx hb hK hP hD hS 6 0 rfl rfl b rfl (by omega) dX7_cuts_107 (fun H locs hP hD hS => ?_)
            have hP : va_P D classes (mW cs ad len spot un (bo + 1) cu lo wh tx now rd bf (upI (upI bl b 0) b (((upI bl b 0) b) + 1)) (upI (upI us b 0) b (((upI us b 0) b) + size)) (upI lg b size) bd dp) H := hP
            have hD : va_D A (mW cs ad len spot un (bo + 1) cu lo wh tx now rd bf (upI (upI bl b 0) b (((upI bl b 0) b) + 1)) (upI (upI us b 0) b (((upI us b 0) b) + size)) (upI lg b size) bd dp) := hD
            refine lv_aload_n hx hb dX7_cuts_108 rfl (lv_at hl 0 rfl) ?_
            refine va_get (D := D) (ci := 6) (v := .ref (ad 8)) (C := RX7) (T := TX7) (N := 16) hx hb ht inTB_X7 hown hK hP 0 rfl rfl 10 (by decide) (ht _ tb_598) (fun _ h9 => h9) rfl dX7_cuts_109 ?_
            refine lv_iload_n hx hb dX7_cuts_112 rfl (lv_at hl 2 rfl) ?_
            refine lv_iload_n hx hb dX7_cuts_113 rfl (lv_at hl 3 rfl) ?_
            refine rv_iast hx hb hK hP hD hS 8 0 rfl rfl well.toNat (by omega) (by omega) dX7_cuts_114 (fun H locs hP hD hS => ?_)
            have hP : va_P D classes (mW cs ad len spot un (bo + 1) cu lo wh tx now rd bf (upI (upI bl b 0) b (((upI bl b 0) b) + 1)) (upI (upI us b 0) b (((upI us b 0) b) + size)) (upI lg b size) (upI bd well.toNat (b : Int)) dp) H := hP
            have hD : va_D A (mW cs ad len spot un (bo + 1) cu lo wh tx now rd bf (upI (upI bl b 0) b (((upI bl b 0) b) + 1)) (upI (upI us b 0) b (((upI us b 0) b) + size)) (upI lg b size) (upI bd well.toNat (b : Int)) dp) := hD
            refine lv_aload_n hx hb dX7_cuts_115 rfl (lv_at hl 0 rfl) ?_
            refine lv_dup hx hb dX7_cuts_116 rfl ?_
            refine va_get (D := D) (ci := 6) (v := .int (iI cu)) (C := RX7) (T := TX7) (N := 16) hx hb ht inTB_X7 hown hK hP 0 rfl rfl 13 (by decide) (ht _ tb_601) (fun _ h9 => h9) rfl dX7_cuts_117 ?_
            refine rv_iconst hx hb dX7_cuts_120 ?_
            refine rv_iadd hx hb dX7_cuts_121 ?_
            refine va_put (D := D) (ci := 6) (v := .int (iI (cu + 1))) (ty := tyX7 13) (C := RX7) (T := TX7) (N := 16) hx hb ht inTB_X7 tyX7 tyX7_ok nmX7 hown hK hP hD hS 0 rfl rfl 13 (by decide) (ht _ tb_601) (fun _ h9 => h9) rfl (tyX7_ok 13 (by decide)) rfl rfl (Nat.le_of_ble_eq_true rfl) dX7_cuts_122 (fun H locs hP hD hS => ?_)
            have hP : va_P D classes (mW cs ad len spot un (bo + 1) (cu + 1) lo wh tx now rd bf (upI (upI bl b 0) b (((upI bl b 0) b) + 1)) (upI (upI us b 0) b (((upI us b 0) b) + size)) (upI lg b size) (upI bd well.toNat (b : Int)) dp) H := hP
            have hD : va_D A (mW cs ad len spot un (bo + 1) (cu + 1) lo wh tx now rd bf (upI (upI bl b 0) b (((upI bl b 0) b) + 1)) (upI (upI us b 0) b (((upI us b 0) b) + size)) (upI lg b size) (upI bd well.toNat (b : Int)) dp) := hD
            refine lv_aload_n hx hb dX7_cuts_125 rfl (lv_at hl 0 rfl) ?_
            refine lv_dup hx hb dX7_cuts_126 rfl ?_
            refine va_get (D := D) (ci := 6) (v := .int (iI wh)) (C := RX7) (T := TX7) (N := 16) hx hb ht inTB_X7 hown hK hP 0 rfl rfl 15 (by decide) (ht _ tb_603) (fun _ h9 => h9) rfl dX7_cuts_127 ?_
            refine lv_iload_n hx hb dX7_cuts_130 rfl (lv_at hl 1 rfl) ?_
            refine rv_iadd hx hb dX7_cuts_131 ?_
            refine va_put (D := D) (ci := 6) (v := .int (iI (wh + size))) (ty := tyX7 15) (C := RX7) (T := TX7) (N := 16) hx hb ht inTB_X7 tyX7 tyX7_ok nmX7 hown hK hP hD hS 0 rfl rfl 15 (by decide) (ht _ tb_603) (fun _ h9 => h9) rfl (tyX7_ok 15 (by decide)) rfl rfl (Nat.le_of_ble_eq_true rfl) dX7_cuts_132 (fun H locs hP hD hS => ?_)
            have hP : va_P D classes (mW cs ad len spot un (bo + 1) (cu + 1) lo (wh + size) tx now rd bf (upI (upI bl b 0) b (((upI bl b 0) b) + 1)) (upI (upI us b 0) b (((upI us b 0) b) + size)) (upI lg b size) (upI bd well.toNat (b : Int)) dp) H := hP
            have hD : va_D A (mW cs ad len spot un (bo + 1) (cu + 1) lo (wh + size) tx now rd bf (upI (upI bl b 0) b (((upI bl b 0) b) + 1)) (upI (upI us b 0) b (((upI us b 0) b) + size)) (upI lg b size) (upI bd well.toNat (b : Int)) dp) := hD
            subst hQ
            exact W.vret hx hb hr (fun t9 ht9 hW9 => ⟨⟨(), rfl, trivial, ⟨(bo + 1), (cu + 1), (wh + size), (upI (upI us b 0) b (((upI us b 0) b) + size)), (upI (upI bl b 0) b (((upI bl b 0) b) + 1)), (upI lg b size), (upI bd well.toNat (b : Int)), (upI br cu.toNat (b : Int)), by unfold cut1; rw [hF]; first | (rw [if_pos (show ((b : Nat) : Int) = ((((bo, cu, wh), us, bl, lg, br) : CS)).1.1 from h54)]; done) | (rw [if_neg (show ¬ ((b : Nat) : Int) = ((((bo, cu, wh), us, bl, lg, br) : CS)).1.1 from h54)]; done), by rw [hF], by rw [ht9]; exact hP, by rw [hAe]; exact hD⟩⟩, by rw [hAe]; exact hS.F ht9⟩) (by rw [hAe]; exact hS.2.2) dX7_cuts_135
        · refine rv_iinc (k := 3) (lv' := [(3, .int (iI ((b : Int) + 1))), (0, .ref (ad 0)), (1, .int (iI size)), (2, .int (iI well))]) hx hb dX7_cuts_43 hl rfl (by decide) rfl (fun ls hl => ?_)
          refine lv_goto (tgt := 2) hx hb dX7_cuts_46 (by decide) ?_
          exact ih2 (b + 1) (by omega) (by rw [show bo.toNat - b = (bo.toNat - (b + 1)) + 1 by omega, ffr, if_neg h40] at hq; exact hq) (by omega) _ (by omega) ls (lv_sub hl [1, 2, 3, 0] rfl)
  exact loop2 (_ + 1) 0 (by omega) rfl (Nat.lt_succ_self _) _ rfl ls (lv_sub hl [1, 2, 3, 0] rfl)

abbrev rm_X7_cutsAll : Room := { frames := 3, cells := 0, slots := 0, locals := 72 }
set_option maxHeartbeats 8000000 in
set_option maxRecDepth 100000 in
/-- cutsAll -/
theorem c_X7_cutsAll (l : Launch) (D : va_G) (cs : Nat → ClassId) (ad : Nat → Nat) (sz : Nat) (len : Int) (spot : Int) (un : Int) (bo : Int) (cu : Int) (lo : Int) (wh : Int) (tx : Nat → Int) (now : Nat → Int) (rd : Nat → Int) (bf : Nat → Int) (bl : Nat → Int) (us : Nat → Int) (lg : Nat → Int) (bd : Nat → Int) (dp : Nat → Int) (hvL : vL now) : Met l yX7_cutsAll (Cond.code yX7_cutsAll cX7_cutsAll 4 none :: TB) rm_X7_cutsAll (va_Pc [.ref (ad 0)] (MPre D cs sz (mW cs ad len spot un bo cu lo wh tx now rd bf bl us lg bd dp) (fun _ _ => True))) (va_Qv (fun _ : Unit => True) (fun _ t => ∃ (us2 : Nat → Int) (bl2 : Nat → Int) (lg2 : Nat → Int) (bd2 : Nat → Int) (dp2 : Nat → Int), (∀ b : Nat, (b : Int) < (fC now).1.1 → us2 b = (fC now).2.1 b ∧ bl2 b = (fC now).2.2.1 b ∧ lg2 b = (fC now).2.2.2.1 b) ∧ (∀ k : Nat, k < 160 → bd2 k = whB now k) ∧ va_P D classes (mW cs ad len spot un ((fC now).1.1) ((fC now).1.2.1) (lvL now 30) ((fC now).1.2.2) tx now rd bf bl2 us2 lg2 bd2 dp2) t.heap ∧ va_D (va_A (mW cs ad len spot un bo cu lo wh tx now rd bf bl us lg bd dp) sz) (mW cs ad len spot un ((fC now).1.1) ((fC now).1.2.1) (lvL now 30) ((fC now).1.2.2) tx now rd bf bl2 us2 lg2 bd2 dp2)) (va_A (mW cs ad len spot un bo cu lo wh tx now rd bf bl us lg bd dp) sz)) 0 0 (va_A (mW cs ad len spot un bo cu lo wh tx now rd bf bl us lg bd dp) sz) := by
  refine enter (cc := cX7_cutsAll) (maxL := 4) (ret := none) (by decide) (Nat.le_of_ble_eq_true rfl) ?_
  intro pg ev s m below meth c Q ls hx hb hml hown hts hr hlocks hnm ⟨hsz, hP, hD0, hK, hX0⟩ hl hQ
  have ht : ∀ w ∈ TB, w.before _ s = true := fun w h => hts w (List.mem_cons_of_mem _ h)
  subst hsz
  have hD := hD0.self (sz := s.heap.size)
  obtain ⟨A, hAe⟩ : ∃ A, va_A (mW cs ad len spot un bo cu lo wh tx now rd bf bl us lg bd dp) s.heap.size = A := ⟨_, rfl⟩
  rw [hAe] at hD
  have hA : ∀ q : Nat, s.heap.size ≤ q → A q := fun q h => by rw [← hAe]; exact Or.inr h
  obtain ⟨H, hH⟩ : ∃ H, H = s.heap := ⟨_, rfl⟩
  obtain ⟨locs, hlocs⟩ : ∃ locs : List Loc, locs = [] := ⟨_, rfl⟩
  have hS : va_S A s.heap H locs := by rw [hH, hlocs]; exact va_S.rf
  rw [← hH] at hP
  suffices hgo : W pg l ev rm_X7_cutsAll s m [.ref (ad 0)].toArray below meth c H locs 0 0 Q (F0 m 0 ls []) by rw [hH, hlocs] at hgo; exact hgo
  have hl : lv_has ls 4 [(0, .ref (ad 0))] := hl
  obtain ⟨hv20, hv21, hv22, hv23, hvp⟩ := id hvL
  have ok0 : okC ((0, 0, 0), us, bl, lg, fun _ => 0) := okC_0 us bl lg (fun _ => 0)
  refine lv_aload_n hx hb dX7_cutsAll_0 rfl (lv_at hl 0 rfl) ?_
  refine rv_iconst hx hb dX7_cutsAll_1 ?_
  refine va_put (D := D) (ci := 6) (v := .int (iI 0)) (ty := tyX7 12) (C := RX7) (T := TX7) (N := 16) hx hb ht inTB_X7 tyX7 tyX7_ok nmX7 hown hK hP hD hS 0 rfl rfl 12 (by decide) (ht _ tb_600) (fun _ h9 => h9) rfl (tyX7_ok 12 (by decide)) rfl rfl (Nat.le_of_ble_eq_true rfl) dX7_cutsAll_2 (fun H locs hP hD hS => ?_)
  have hP : va_P D classes (mW cs ad len spot un 0 cu lo wh tx now rd bf bl us lg bd dp) H := hP
  have hD : va_D A (mW cs ad len spot un 0 cu lo wh tx now rd bf bl us lg bd dp) := hD
  refine lv_aload_n hx hb dX7_cutsAll_5 rfl (lv_at hl 0 rfl) ?_
  refine rv_iconst hx hb dX7_cutsAll_6 ?_
  refine va_put (D := D) (ci := 6) (v := .int (iI 0)) (ty := tyX7 13) (C := RX7) (T := TX7) (N := 16) hx hb ht inTB_X7 tyX7 tyX7_ok nmX7 hown hK hP hD hS 0 rfl rfl 13 (by decide) (ht _ tb_601) (fun _ h9 => h9) rfl (tyX7_ok 13 (by decide)) rfl rfl (Nat.le_of_ble_eq_true rfl) dX7_cutsAll_7 (fun H locs hP hD hS => ?_)
  have hP : va_P D classes (mW cs ad len spot un 0 0 lo wh tx now rd bf bl us lg bd dp) H := hP
  have hD : va_D A (mW cs ad len spot un 0 0 lo wh tx now rd bf bl us lg bd dp) := hD
  refine lv_aload_n hx hb dX7_cutsAll_10 rfl (lv_at hl 0 rfl) ?_
  refine rv_iconst hx hb dX7_cutsAll_11 ?_
  refine va_put (D := D) (ci := 6) (v := .int (iI 0)) (ty := tyX7 14) (C := RX7) (T := TX7) (N := 16) hx hb ht inTB_X7 tyX7 tyX7_ok nmX7 hown hK hP hD hS 0 rfl rfl 14 (by decide) (ht _ tb_602) (fun _ h9 => h9) rfl (tyX7_ok 14 (by decide)) rfl rfl (Nat.le_of_ble_eq_true rfl) dX7_cutsAll_12 (fun H locs hP hD hS => ?_)
  have hP : va_P D classes (mW cs ad len spot un 0 0 0 wh tx now rd bf bl us lg bd dp) H := hP
  have hD : va_D A (mW cs ad len spot un 0 0 0 wh tx now rd bf bl us lg bd dp) := hD
  refine lv_aload_n hx hb dX7_cutsAll_15 rfl (lv_at hl 0 rfl) ?_
  refine rv_iconst hx hb dX7_cutsAll_16 ?_
  refine va_put (D := D) (ci := 6) (v := .int (iI 0)) (ty := tyX7 15) (C := RX7) (T := TX7) (N := 16) hx hb ht inTB_X7 tyX7 tyX7_ok nmX7 hown hK hP hD hS 0 rfl rfl 15 (by decide) (ht _ tb_603) (fun _ h9 => h9) rfl (tyX7_ok 15 (by decide)) rfl rfl (Nat.le_of_ble_eq_true rfl) dX7_cutsAll_17 (fun H locs hP hD hS => ?_)
  have hP : va_P D classes (mW cs ad len spot un 0 0 0 0 tx now rd bf bl us lg bd dp) H := hP
  have hD : va_D A (mW cs ad len spot un 0 0 0 0 tx now rd bf bl us lg bd dp) := hD
  refine rv_iconst hx hb dX7_cutsAll_20 ?_
  refine lv_istore_n (lv' := [(1, .int (iI 0)), (0, .ref (ad 0))]) hx hb dX7_cutsAll_21 rfl hl (by decide) rfl (fun ls hl => ?_)
  have loop22 : ∀ (fuel22 : Nat) (k : Nat) (DP : Nat → Int) (BD0 : Nat → Int), (k ≤ 160) → (∀ i : Nat, i < k → DP i = dM now i) → (∀ i : Nat, i < k → BD0 i = -4) → 160 - k < fuel22 → ∀ (x1 : Int), x1 = (k : Int) → ∀ (H : Heap) (locs : List Loc), va_P D classes (mW cs ad len spot un 0 0 0 0 tx now rd bf bl us lg BD0 DP) H → va_D A (mW cs ad len spot un 0 0 0 0 tx now rd bf bl us lg BD0 DP) → va_S A s.heap H locs → ∀ ls : Array Slot, lv_has ls 4 [(0, .ref (ad 0)), (1, .int (iI x1))] → W pg l ev rm_X7_cutsAll s m [.ref (ad 0)].toArray below meth c H locs 0 0 Q (F0 m 22 ls []) := by
    intro fuel22
    induction fuel22 with
    | zero => intro k DP BD0 hk hd hb0 hfuel22; exact absurd hfuel22 (Nat.not_lt_zero _)
    | succ fuel22 ih22 =>
      intro k DP BD0 hk hd hb0 hfuel22 x1 ex1 H locs hP hD hS ls hl
      subst ex1
      have hk1 : ((k / 40 : Nat) : Int) = (k : Int) / 40 := by omega
      have hk2 : ((k % 40 : Nat) : Int) = (k : Int) % 40 := by omega
      refine lv_iload_n hx hb dX7_cutsAll_22 rfl (lv_at hl 1 rfl) ?_
      refine rv_sipush hx hb dX7_cutsAll_23 (by decide) ?_
      refine rv_icmp_ge (tgt := 109) hx hb dX7_cutsAll_26 (by decide) (by omega) (fun h26 => ?_) (fun h26 => ?_)
      · refine rv_bipush hx hb dX7_cutsAll_109 (by decide) ?_
        refine lv_istore_n (lv' := [(1, .int (iI 30)), (0, .ref (ad 0))]) hx hb dX7_cutsAll_111 rfl hl (by decide) rfl (fun ls hl => ?_)
        have hd160 : ∀ i : Nat, i < 160 → DP i = dM now i := fun i h => hd i (by omega)
        have loop112 : ∀ (fuel112 : Nat) (j : Nat) (S : CS) (LO : Int) (BD : Nat → Int), (j ≤ 30) → (S = lvC now ((0, 0, 0), us, bl, lg, fun _ => 0) j) → (LO = lvL now j) → (BDI now ((0, 0, 0), us, bl, lg, fun _ => 0) BD S.2.2.2.2 j 0) → 31 - j < fuel112 → ∀ (x1 : Int), x1 = (30 - (j : Int)) → ∀ (H : Heap) (locs : List Loc), va_P D classes (mW cs ad len spot un S.1.1 S.1.2.1 LO S.1.2.2 tx now rd bf S.2.2.1 S.2.1 S.2.2.2.1 BD DP) H → va_D A (mW cs ad len spot un S.1.1 S.1.2.1 LO S.1.2.2 tx now rd bf S.2.2.1 S.2.1 S.2.2.2.1 BD DP) → va_S A s.heap H locs → ∀ ls : Array Slot, lv_has ls 4 [(0, .ref (ad 0)), (1, .int (iI x1))] → W pg l ev rm_X7_cutsAll s m [.ref (ad 0)].toArray below meth c H locs 0 0 Q (F0 m 112 ls []) := by
          intro fuel112
          induction fuel112 with
          | zero => intro j S LO BD hj hSv hLO hBD hfuel112; exact absurd hfuel112 (Nat.not_lt_zero _)
          | succ fuel112 ih112 =>
            intro j S LO BD hj hSv hLO hBD hfuel112 x1 ex1 H locs hP hD hS ls hl
            subst ex1
            have hokS : okC S := by rw [hSv]; exact okC_lvC hvL ok0 j hj
            refine lv_iload_n hx hb dX7_cutsAll_112 rfl (lv_at hl 1 rfl) ?_
            refine rv_if_le (tgt := 197) hx hb dX7_cutsAll_113 (by decide) (by omega) (fun h113 => ?_) (fun h113 => ?_)
            · have hj30 : j = 30 := by omega
              have hS30 : S = lvC now ((0, 0, 0), us, bl, lg, fun _ => 0) 30 := by rw [hSv, hj30]
              have hBD30 : BDI now ((0, 0, 0), us, bl, lg, fun _ => 0) BD S.2.2.2.2 30 0 := by rw [hj30] at hBD; exact hBD
              have hce := cutEnd hvL hS30
              subst hQ
              exact W.vret hx hb hr (fun t9 ht9 hW9 => ⟨⟨(), rfl, trivial, ⟨S.2.1, S.2.2.1, S.2.2.2.1, BD, DP, fun b hb => (hce.2.1 b (by rw [hce.1]; exact hb)), bdEnd hvL hS30 hBD30, by rw [ht9]; rw [← hce.1, show lvL now 30 = LO by rw [hLO, show j = 30 by omega]]; exact hP, by rw [hAe]; rw [← hce.1, show lvL now 30 = LO by rw [hLO, show j = 30 by omega]]; exact hD⟩⟩, by rw [hAe]; exact hS.F ht9⟩) (by rw [hAe]; exact hS.2.2) dX7_cutsAll_197
            · refine lv_iload_n hx hb dX7_cutsAll_116 rfl (lv_at hl 1 rfl) ?_
              refine lv_aload_n hx hb dX7_cutsAll_117 rfl (lv_at hl 0 rfl) ?_
              refine va_get (D := D) (ci := 6) (v := .ref (ad 2)) (C := RX7) (T := TX7) (N := 16) hx hb ht inTB_X7 hown hK hP 0 rfl rfl 3 (by decide) (ht _ tb_591) (fun _ h9 => h9) rfl dX7_cutsAll_118 ?_
              refine rv_bipush hx hb dX7_cutsAll_121 (by decide) ?_
              refine rv_iald hx hb hK hP 2 0 rfl rfl 21 rfl (by omega) dX7_cutsAll_123 ?_
              refine rv_imul hx hb dX7_cutsAll_124 ?_
              refine lv_istore_n (lv' := [(2, .int (iI ((30 - (j : Int)) * (now 21)))), (0, .ref (ad 0)), (1, .int (iI (30 - (j : Int))))]) hx hb dX7_cutsAll_125 rfl hl (by decide) rfl (fun ls hl => ?_)
              refine rv_iconst hx hb dX7_cutsAll_126 ?_
              refine lv_istore_n (lv' := [(3, .int (iI 0)), (2, .int (iI ((30 - (j : Int)) * (now 21)))), (0, .ref (ad 0)), (1, .int (iI (30 - (j : Int))))]) hx hb dX7_cutsAll_127 rfl hl (by decide) rfl (fun ls hl => ?_)
              have hszb : 0 ≤ (30 - (j : Int)) * now 21 := Int.mul_nonneg (by omega) (by omega)
              have hszc : (30 - (j : Int)) * now 21 ≤ 30 * 20 := Int.mul_le_mul (by omega) (by omega) (by omega) (by decide)
              have loop128 : ∀ (fuel128 : Nat) (K : Nat) (T : CS) (LO2 : Int) (BD2 : Nat → Int), (K ≤ 160) → (T = stT now ((0, 0, 0), us, bl, lg, fun _ => 0) j K) → (LO2 = lvL now j + cif (now 22 < ((30 - (j : Int)) * now 21)) (cnt now (30 - (j : Int)) K : Int) 0) → (BDI now ((0, 0, 0), us, bl, lg, fun _ => 0) BD2 T.2.2.2.2 j K) → 160 - K < fuel128 → ∀ (x1 x2 x3 : Int), x1 = (30 - (j : Int)) → x2 = ((30 - (j : Int)) * now 21) → x3 = (K : Int) → ∀ (H : Heap) (locs : List Loc), va_P D classes (mW cs ad len spot un T.1.1 T.1.2.1 LO2 T.1.2.2 tx now rd bf T.2.2.1 T.2.1 T.2.2.2.1 BD2 DP) H → va_D A (mW cs ad len spot un T.1.1 T.1.2.1 LO2 T.1.2.2 tx now rd bf T.2.2.1 T.2.1 T.2.2.2.1 BD2 DP) → va_S A s.heap H locs → ∀ ls : Array Slot, lv_has ls 4 [(0, .ref (ad 0)), (1, .int (iI x1)), (2, .int (iI x2)), (3, .int (iI x3))] → W pg l ev rm_X7_cutsAll s m [.ref (ad 0)].toArray below meth c H locs 0 0 Q (F0 m 128 ls []) := by
                intro fuel128
                induction fuel128 with
                | zero => intro K T LO2 BD2 hKv hT hLO2 hBD2 hfuel128; exact absurd hfuel128 (Nat.not_lt_zero _)
                | succ fuel128 ih128 =>
                  intro K T LO2 BD2 hKv hT hLO2 hBD2 hfuel128 x1 x2 x3 ex1 ex2 ex3 H locs hP hD hS ls hl
                  subst ex1 ex2 ex3
                  have hdK : K < 160 → DP K = dM now K := fun h => hd160 K h
                  have hdb := dM_bd hvL K
                  have hokT : okC T := by rw [hT]; exact okC_stT hvL ok0 (by omega)
                  have hcuT : dM now K = 30 - (j : Int) → ¬ now 22 < ((30 - (j : Int)) * now 21) → K < 160 → T.1.2.1 < 160 := fun a1 a2 a3 => by rw [hT, stT_cu, cif_neg a2]; exact cu_lt rfl j K a3 a1
                  have hlob := lo_le now j
                  have hcl := cnt_le now (30 - (j : Int)) K
                  have hcg := cntG_le now (30 - (j : Int)) 160
                  refine lv_iload_n hx hb dX7_cutsAll_128 rfl (lv_at hl 3 rfl) ?_
                  refine rv_sipush hx hb dX7_cutsAll_129 (by decide) ?_
                  refine rv_icmp_ge (tgt := 191) hx hb dX7_cutsAll_132 (by decide) (by omega) (fun h132 => ?_) (fun h132 => ?_)
                  · refine rv_iinc (k := 1) (lv' := [(1, .int (iI ((30 - (j : Int)) + (-1)))), (0, .ref (ad 0)), (2, .int (iI ((30 - (j : Int)) * now 21))), (3, .int (iI (K : Int)))]) hx hb dX7_cutsAll_191 hl rfl (by decide) rfl (fun ls hl => ?_)
                    refine lv_goto (tgt := 112) hx hb dX7_cutsAll_194 (by decide) ?_
                    exact ih112 (j + 1) T LO2 BD2 (by omega) (by rw [hT, show K = 160 by omega, stT_160]) (by rw [hLO2, lvL, show K = 160 by omega]) (BDI_next (by rw [show K = 160 by omega] at hBD2; exact hBD2)) (by omega) _ (by omega) H locs hP hD hS ls (lv_sub hl [1, 0] rfl)
                  · have hdK1 := hdK (by omega)
                    have hdK2 := hdK1
                    refine lv_aload_n hx hb dX7_cutsAll_135 rfl (lv_at hl 0 rfl) ?_
                    refine va_get (D := D) (ci := 6) (v := .ref (ad 9)) (C := RX7) (T := TX7) (N := 16) hx hb ht inTB_X7 hown hK hP 0 rfl rfl 11 (by decide) (ht _ tb_599) (fun _ h9 => h9) rfl dX7_cutsAll_136 ?_
                    refine lv_iload_n hx hb dX7_cutsAll_139 rfl (lv_at hl 3 rfl) ?_
                    refine rv_iald hx hb hK hP 9 0 rfl rfl K rfl (by omega) dX7_cutsAll_140 ?_
                    refine lv_iload_n hx hb dX7_cutsAll_141 rfl (lv_at hl 1 rfl) ?_
                    refine rv_icmp_ne (tgt := 169) hx hb dX7_cutsAll_142 (by decide) (by omega) (fun h142 => ?_) (fun h142 => ?_)
                    · refine lv_aload_n hx hb dX7_cutsAll_169 rfl (lv_at hl 0 rfl) ?_
                      refine va_get (D := D) (ci := 6) (v := .ref (ad 9)) (C := RX7) (T := TX7) (N := 16) hx hb ht inTB_X7 hown hK hP 0 rfl rfl 11 (by decide) (ht _ tb_599) (fun _ h9 => h9) rfl dX7_cutsAll_170 ?_
                      refine lv_iload_n hx hb dX7_cutsAll_173 rfl (lv_at hl 3 rfl) ?_
                      refine rv_iald hx hb hK hP 9 0 rfl rfl K rfl (by omega) dX7_cutsAll_174 ?_
                      refine lv_iload_n hx hb dX7_cutsAll_175 rfl (lv_at hl 1 rfl) ?_
                      refine rv_icmp_ne (tgt := 185) hx hb dX7_cutsAll_176 (by decide) (by omega) (fun h176 => ?_) (fun h176 => ?_)
                      · have hnm : ¬ dM now K = 30 - (j : Int) := by omega
                        refine rv_iinc (k := 3) (lv' := [(3, .int (iI ((K : Int) + 1))), (0, .ref (ad 0)), (1, .int (iI (30 - (j : Int)))), (2, .int (iI ((30 - (j : Int)) * now 21)))]) hx hb dX7_cutsAll_185 hl rfl (by decide) rfl (fun ls hl => ?_)
                        refine lv_goto (tgt := 128) hx hb dX7_cutsAll_188 (by decide) ?_
                        exact ih128 (K + 1) T LO2 BD2 (by omega) (by first | (rw [hT]; exact (stT_no hnm).symm) | (rw [hT]; exact stT_lost hlost) | (rw [hf182_0]; rw [stT_cut hnl hdm, ← hT])) (by first | (rw [hLO2, cnt, cF_neg hnm, Nat.add_zero]) | (rw [hLO2, cif_pos hlost, cif_pos hlost, cnt, cF_pos hdm2]; omega) | (rw [hLO2, cif_neg hnl, cif_neg hnl])) (by first | exact BDI_no hBD2 hnm | exact BDI_lost hBD2 hlost | (have hz := BDI_cut hvL ok0 (by omega) (by omega) (by rw [← hT]; exact hBD2) hnl hdm ((ffs (now 23) (now 22) ((30 - (j : Int)) * now 21) T : Nat) : Int); rw [← hT] at hz; have hb4 := cut1_br (now 23) (now 22) ((30 - (j : Int)) * now 21) T; rw [← hf182_0] at hb4; rw [hf182_1]; have hb5 : br2_182 = _ := hb4; rw [hb5]; exact hz)) (by omega) _ _ _ rfl rfl (by omega) H locs hP hD hS ls (lv_sub hl [1, 2, 3, 0] rfl)
                      · have hdm : dM now K = 30 - (j : Int) := by omega
                        have hnl : ¬ now 22 < ((30 - (j : Int)) * now 21) := by omega
                        have hcuT := fun (a1 : dM now K = 30 - (j : Int)) (a2 : ¬ now 22 < ((30 - (j : Int)) * now 21)) => hcuT a1 a2 (by omega)
                        refine lv_aload_n hx hb dX7_cutsAll_179 rfl (lv_at hl 0 rfl) ?_
                        refine lv_iload_n hx hb dX7_cutsAll_180 rfl (lv_at hl 2 rfl) ?_
                        refine lv_iload_n hx hb dX7_cutsAll_181 rfl (lv_at hl 3 rfl) ?_
                        have hFc := va_free (wc := (mW cs ad len spot un T.1.1 T.1.2.1 LO2 T.1.2.2 tx now rd bf T.2.2.1 T.2.1 T.2.2.2.1 BD2 DP)) hD hS hA [0, 1, 2, 3, 4, 5, 6, 7, 8, 9] rfl
                        refine va_callv (va_runV (As := [.int (iI ((30 - (j : Int)) * now 21)), .int (iI (K : Int))]) (rest := []) ⟨hx, hb, hml, hown, hts⟩ (c_X7_cuts l D cs ad H.size len spot un T.1.1 T.1.2.1 LO2 T.1.2.2 tx now rd bf T.2.2.1 T.2.1 T.2.2.2.1 BD2 DP ((30 - (j : Int)) * now 21) (K : Int) T.2.2.2.2 hvL hokT (by have := hcuT hdm hnl; omega) (by omega) (by omega)) (cwV 2 hts (gV tb_798 tb_800 tbs_31 tb_8 tb_801) rfl rfl rfl (by decide +kernel) ⟨Nat.le_of_ble_eq_true rfl, Nat.le_of_ble_eq_true rfl⟩) (preV_M (X := fun _ _ => True) Stb_T hK (va_recv hK hP (ci := 6) (q0 := 0) rfl rfl) hP hD trivial) rfl rfl hl.1 rfl (lv_room (Nat.le_of_ble_eq_true rfl)) dX7_cutsAll_182 ⟨Nat.le_of_ble_eq_true rfl, Nat.le_of_ble_eq_true rfl⟩) hS (fun q _ h => hFc q h) hFc (fun u9 t9 H9 locs ht9 hvm9 hw9 hB9 hz9 hk9 hS => ?_)
                        obtain ⟨bo2_182, cu2_182, wh2_182, us2_182, bl2_182, lg2_182, bd2_182, br2_182, hf182_0, hf182_1, hP1, hD1⟩ := hB9
                        rw [ht9] at hP1
                        have hP := hP1
                        have hD := hD1.weaken (fun _ _ _ h => hFc _ h)
                        generalize H9 = H at hP hS hz9 hk9 ht9 ⊢
                        have hP : va_P D classes (mW cs ad len spot un bo2_182 cu2_182 LO2 wh2_182 tx now rd bf bl2_182 us2_182 lg2_182 bd2_182 DP) H := hP
                        have hD : va_D A (mW cs ad len spot un bo2_182 cu2_182 LO2 wh2_182 tx now rd bf bl2_182 us2_182 lg2_182 bd2_182 DP) := hD
                        refine rv_iinc (k := 3) (lv' := [(3, .int (iI ((K : Int) + 1))), (0, .ref (ad 0)), (1, .int (iI (30 - (j : Int)))), (2, .int (iI ((30 - (j : Int)) * now 21)))]) hx hb dX7_cutsAll_185 hl rfl (by decide) rfl (fun ls hl => ?_)
                        refine lv_goto (tgt := 128) hx hb dX7_cutsAll_188 (by decide) ?_
                        exact ih128 (K + 1) ((bo2_182, cu2_182, wh2_182), us2_182, bl2_182, lg2_182, br2_182) LO2 bd2_182 (by omega) (by first | (rw [hT]; exact (stT_no hnm).symm) | (rw [hT]; exact stT_lost hlost) | (rw [hf182_0]; rw [stT_cut hnl hdm, ← hT])) (by first | (rw [hLO2, cnt, cF_neg hnm, Nat.add_zero]) | (rw [hLO2, cif_pos hlost, cif_pos hlost, cnt, cF_pos hdm2]; omega) | (rw [hLO2, cif_neg hnl, cif_neg hnl])) (by first | exact BDI_no hBD2 hnm | exact BDI_lost hBD2 hlost | (have hz := BDI_cut hvL ok0 (by omega) (by omega) (by rw [← hT]; exact hBD2) hnl hdm ((ffs (now 23) (now 22) ((30 - (j : Int)) * now 21) T : Nat) : Int); rw [← hT] at hz; have hb4 := cut1_br (now 23) (now 22) ((30 - (j : Int)) * now 21) T; rw [← hf182_0] at hb4; rw [hf182_1]; have hb5 : br2_182 = _ := hb4; rw [hb5]; exact hz)) (by omega) _ _ _ rfl rfl (by omega) H locs hP hD hS ls (lv_sub hl [1, 2, 3, 0] rfl)
                    · refine lv_iload_n hx hb dX7_cutsAll_145 rfl (lv_at hl 2 rfl) ?_
                      refine lv_aload_n hx hb dX7_cutsAll_146 rfl (lv_at hl 0 rfl) ?_
                      refine va_get (D := D) (ci := 6) (v := .ref (ad 2)) (C := RX7) (T := TX7) (N := 16) hx hb ht inTB_X7 hown hK hP 0 rfl rfl 3 (by decide) (ht _ tb_591) (fun _ h9 => h9) rfl dX7_cutsAll_147 ?_
                      refine rv_bipush hx hb dX7_cutsAll_150 (by decide) ?_
                      refine rv_iald hx hb hK hP 2 0 rfl rfl 22 rfl (by omega) dX7_cutsAll_152 ?_
                      refine rv_icmp_le (tgt := 169) hx hb dX7_cutsAll_153 (by decide) (by omega) (fun h153 => ?_) (fun h153 => ?_)
                      · refine lv_aload_n hx hb dX7_cutsAll_169 rfl (lv_at hl 0 rfl) ?_
                        refine va_get (D := D) (ci := 6) (v := .ref (ad 9)) (C := RX7) (T := TX7) (N := 16) hx hb ht inTB_X7 hown hK hP 0 rfl rfl 11 (by decide) (ht _ tb_599) (fun _ h9 => h9) rfl dX7_cutsAll_170 ?_
                        refine lv_iload_n hx hb dX7_cutsAll_173 rfl (lv_at hl 3 rfl) ?_
                        refine rv_iald hx hb hK hP 9 0 rfl rfl K rfl (by omega) dX7_cutsAll_174 ?_
                        refine lv_iload_n hx hb dX7_cutsAll_175 rfl (lv_at hl 1 rfl) ?_
                        refine rv_icmp_ne (tgt := 185) hx hb dX7_cutsAll_176 (by decide) (by omega) (fun h176 => ?_) (fun h176 => ?_)
                        · have hnm : ¬ dM now K = 30 - (j : Int) := by omega
                          refine rv_iinc (k := 3) (lv' := [(3, .int (iI ((K : Int) + 1))), (0, .ref (ad 0)), (1, .int (iI (30 - (j : Int)))), (2, .int (iI ((30 - (j : Int)) * now 21)))]) hx hb dX7_cutsAll_185 hl rfl (by decide) rfl (fun ls hl => ?_)
                          refine lv_goto (tgt := 128) hx hb dX7_cutsAll_188 (by decide) ?_
                          exact ih128 (K + 1) T LO2 BD2 (by omega) (by first | (rw [hT]; exact (stT_no hnm).symm) | (rw [hT]; exact stT_lost hlost) | (rw [hf182_0]; rw [stT_cut hnl hdm, ← hT])) (by first | (rw [hLO2, cnt, cF_neg hnm, Nat.add_zero]) | (rw [hLO2, cif_pos hlost, cif_pos hlost, cnt, cF_pos hdm2]; omega) | (rw [hLO2, cif_neg hnl, cif_neg hnl])) (by first | exact BDI_no hBD2 hnm | exact BDI_lost hBD2 hlost | (have hz := BDI_cut hvL ok0 (by omega) (by omega) (by rw [← hT]; exact hBD2) hnl hdm ((ffs (now 23) (now 22) ((30 - (j : Int)) * now 21) T : Nat) : Int); rw [← hT] at hz; have hb4 := cut1_br (now 23) (now 22) ((30 - (j : Int)) * now 21) T; rw [← hf182_0] at hb4; rw [hf182_1]; have hb5 : br2_182 = _ := hb4; rw [hb5]; exact hz)) (by omega) _ _ _ rfl rfl (by omega) H locs hP hD hS ls (lv_sub hl [1, 2, 3, 0] rfl)
                        · have hdm : dM now K = 30 - (j : Int) := by omega
                          have hnl : ¬ now 22 < ((30 - (j : Int)) * now 21) := by omega
                          have hcuT := fun (a1 : dM now K = 30 - (j : Int)) (a2 : ¬ now 22 < ((30 - (j : Int)) * now 21)) => hcuT a1 a2 (by omega)
                          refine lv_aload_n hx hb dX7_cutsAll_179 rfl (lv_at hl 0 rfl) ?_
                          refine lv_iload_n hx hb dX7_cutsAll_180 rfl (lv_at hl 2 rfl) ?_
                          refine lv_iload_n hx hb dX7_cutsAll_181 rfl (lv_at hl 3 rfl) ?_
                          have hFc := va_free (wc := (mW cs ad len spot un T.1.1 T.1.2.1 LO2 T.1.2.2 tx now rd bf T.2.2.1 T.2.1 T.2.2.2.1 BD2 DP)) hD hS hA [0, 1, 2, 3, 4, 5, 6, 7, 8, 9] rfl
                          refine va_callv (va_runV (As := [.int (iI ((30 - (j : Int)) * now 21)), .int (iI (K : Int))]) (rest := []) ⟨hx, hb, hml, hown, hts⟩ (c_X7_cuts l D cs ad H.size len spot un T.1.1 T.1.2.1 LO2 T.1.2.2 tx now rd bf T.2.2.1 T.2.1 T.2.2.2.1 BD2 DP ((30 - (j : Int)) * now 21) (K : Int) T.2.2.2.2 hvL hokT (by have := hcuT hdm hnl; omega) (by omega) (by omega)) (cwV 2 hts (gV tb_798 tb_800 tbs_31 tb_8 tb_801) rfl rfl rfl (by decide +kernel) ⟨Nat.le_of_ble_eq_true rfl, Nat.le_of_ble_eq_true rfl⟩) (preV_M (X := fun _ _ => True) Stb_T hK (va_recv hK hP (ci := 6) (q0 := 0) rfl rfl) hP hD trivial) rfl rfl hl.1 rfl (lv_room (Nat.le_of_ble_eq_true rfl)) dX7_cutsAll_182 ⟨Nat.le_of_ble_eq_true rfl, Nat.le_of_ble_eq_true rfl⟩) hS (fun q _ h => hFc q h) hFc (fun u9 t9 H9 locs ht9 hvm9 hw9 hB9 hz9 hk9 hS => ?_)
                          obtain ⟨bo2_182, cu2_182, wh2_182, us2_182, bl2_182, lg2_182, bd2_182, br2_182, hf182_0, hf182_1, hP1, hD1⟩ := hB9
                          rw [ht9] at hP1
                          have hP := hP1
                          have hD := hD1.weaken (fun _ _ _ h => hFc _ h)
                          generalize H9 = H at hP hS hz9 hk9 ht9 ⊢
                          have hP : va_P D classes (mW cs ad len spot un bo2_182 cu2_182 LO2 wh2_182 tx now rd bf bl2_182 us2_182 lg2_182 bd2_182 DP) H := hP
                          have hD : va_D A (mW cs ad len spot un bo2_182 cu2_182 LO2 wh2_182 tx now rd bf bl2_182 us2_182 lg2_182 bd2_182 DP) := hD
                          refine rv_iinc (k := 3) (lv' := [(3, .int (iI ((K : Int) + 1))), (0, .ref (ad 0)), (1, .int (iI (30 - (j : Int)))), (2, .int (iI ((30 - (j : Int)) * now 21)))]) hx hb dX7_cutsAll_185 hl rfl (by decide) rfl (fun ls hl => ?_)
                          refine lv_goto (tgt := 128) hx hb dX7_cutsAll_188 (by decide) ?_
                          exact ih128 (K + 1) ((bo2_182, cu2_182, wh2_182), us2_182, bl2_182, lg2_182, br2_182) LO2 bd2_182 (by omega) (by first | (rw [hT]; exact (stT_no hnm).symm) | (rw [hT]; exact stT_lost hlost) | (rw [hf182_0]; rw [stT_cut hnl hdm, ← hT])) (by first | (rw [hLO2, cnt, cF_neg hnm, Nat.add_zero]) | (rw [hLO2, cif_pos hlost, cif_pos hlost, cnt, cF_pos hdm2]; omega) | (rw [hLO2, cif_neg hnl, cif_neg hnl])) (by first | exact BDI_no hBD2 hnm | exact BDI_lost hBD2 hlost | (have hz := BDI_cut hvL ok0 (by omega) (by omega) (by rw [← hT]; exact hBD2) hnl hdm ((ffs (now 23) (now 22) ((30 - (j : Int)) * now 21) T : Nat) : Int); rw [← hT] at hz; have hb4 := cut1_br (now 23) (now 22) ((30 - (j : Int)) * now 21) T; rw [← hf182_0] at hb4; rw [hf182_1]; have hb5 : br2_182 = _ := hb4; rw [hb5]; exact hz)) (by omega) _ _ _ rfl rfl (by omega) H locs hP hD hS ls (lv_sub hl [1, 2, 3, 0] rfl)
                      · have hlost : now 22 < ((30 - (j : Int)) * now 21) := by omega
                        have hdm2 : dM now K = 30 - (j : Int) := by omega
                        refine lv_aload_n hx hb dX7_cutsAll_156 rfl (lv_at hl 0 rfl) ?_
                        refine lv_dup hx hb dX7_cutsAll_157 rfl ?_
                        refine va_get (D := D) (ci := 6) (v := .int (iI LO2)) (C := RX7) (T := TX7) (N := 16) hx hb ht inTB_X7 hown hK hP 0 rfl rfl 14 (by decide) (ht _ tb_602) (fun _ h9 => h9) rfl dX7_cutsAll_158 ?_
                        refine rv_iconst hx hb dX7_cutsAll_161 ?_
                        refine rv_iadd hx hb dX7_cutsAll_162 ?_
                        refine va_put (D := D) (ci := 6) (v := .int (iI (LO2 + 1))) (ty := tyX7 14) (C := RX7) (T := TX7) (N := 16) hx hb ht inTB_X7 tyX7 tyX7_ok nmX7 hown hK hP hD hS 0 rfl rfl 14 (by decide) (ht _ tb_602) (fun _ h9 => h9) rfl (tyX7_ok 14 (by decide)) rfl rfl (Nat.le_of_ble_eq_true rfl) dX7_cutsAll_163 (fun H locs hP hD hS => ?_)
                        have hP : va_P D classes (mW cs ad len spot un T.1.1 T.1.2.1 (LO2 + 1) T.1.2.2 tx now rd bf T.2.2.1 T.2.1 T.2.2.2.1 BD2 DP) H := hP
                        have hD : va_D A (mW cs ad len spot un T.1.1 T.1.2.1 (LO2 + 1) T.1.2.2 tx now rd bf T.2.2.1 T.2.1 T.2.2.2.1 BD2 DP) := hD
                        refine lv_goto (tgt := 185) hx hb dX7_cutsAll_166 (by decide) ?_
                        refine rv_iinc (k := 3) (lv' := [(3, .int (iI ((K : Int) + 1))), (0, .ref (ad 0)), (1, .int (iI (30 - (j : Int)))), (2, .int (iI ((30 - (j : Int)) * now 21)))]) hx hb dX7_cutsAll_185 hl rfl (by decide) rfl (fun ls hl => ?_)
                        refine lv_goto (tgt := 128) hx hb dX7_cutsAll_188 (by decide) ?_
                        exact ih128 (K + 1) T (LO2 + 1) BD2 (by omega) (by first | (rw [hT]; exact (stT_no hnm).symm) | (rw [hT]; exact stT_lost hlost) | (rw [hf182_0]; rw [stT_cut hnl hdm, ← hT])) (by first | (rw [hLO2, cnt, cF_neg hnm, Nat.add_zero]) | (rw [hLO2, cif_pos hlost, cif_pos hlost, cnt, cF_pos hdm2]; omega) | (rw [hLO2, cif_neg hnl, cif_neg hnl])) (by first | exact BDI_no hBD2 hnm | exact BDI_lost hBD2 hlost | (have hz := BDI_cut hvL ok0 (by omega) (by omega) (by rw [← hT]; exact hBD2) hnl hdm ((ffs (now 23) (now 22) ((30 - (j : Int)) * now 21) T : Nat) : Int); rw [← hT] at hz; have hb4 := cut1_br (now 23) (now 22) ((30 - (j : Int)) * now 21) T; rw [← hf182_0] at hb4; rw [hf182_1]; have hb5 : br2_182 = _ := hb4; rw [hb5]; exact hz)) (by omega) _ _ _ rfl rfl (by omega) H locs hP hD hS ls (lv_sub hl [1, 2, 3, 0] rfl)
              exact loop128 (_ + 1) 0 S LO BD (by omega) (by rw [hSv, stT_0]) (by rw [hLO, show cnt now (30 - (j : Int)) 0 = 0 from rfl]; by_cases z : now 22 < ((30 - (j : Int)) * now 21); rw [cif_pos z]; omega; rw [cif_neg z]; omega) hBD (Nat.lt_succ_self _) _ _ _ rfl rfl rfl H locs hP hD hS ls (lv_sub hl [2, 3, 1, 0] rfl)
        exact loop112 (_ + 1) 0 ((0, 0, 0), us, bl, lg, fun _ => 0) 0 BD0 (by omega) rfl rfl (BDI_init hvL (fun i h => hb0 i (by omega))) (Nat.lt_succ_self _) _ rfl H locs hP hD hS ls (lv_sub hl [1, 0] rfl)
      · refine lv_iload_n hx hb dX7_cutsAll_29 rfl (lv_at hl 1 rfl) ?_
        refine rv_bipush hx hb dX7_cutsAll_30 (by decide) ?_
        refine rv_idiv hx hb dX7_cutsAll_32 (by omega) ?_
        refine lv_aload_n hx hb dX7_cutsAll_33 rfl (lv_at hl 0 rfl) ?_
        refine va_get (D := D) (ci := 6) (v := .ref (ad 2)) (C := RX7) (T := TX7) (N := 16) hx hb ht inTB_X7 hown hK hP 0 rfl rfl 3 (by decide) (ht _ tb_591) (fun _ h9 => h9) rfl dX7_cutsAll_34 ?_
        refine rv_bipush hx hb dX7_cutsAll_37 (by decide) ?_
        refine rv_iald hx hb hK hP 2 0 rfl rfl 20 rfl (by omega) dX7_cutsAll_39 ?_
        refine rv_icmp_ge (tgt := 67) hx hb dX7_cutsAll_40 (by decide) (by omega) (fun h40 => ?_) (fun h40 => ?_)
        · refine rv_iconst hx hb dX7_cutsAll_67 ?_
          refine lv_istore_n (lv' := [(2, .int (iI 0)), (0, .ref (ad 0)), (1, .int (iI (k : Int)))]) hx hb dX7_cutsAll_68 rfl hl (by decide) rfl (fun ls hl => ?_)
          refine lv_aload_n hx hb dX7_cutsAll_69 rfl (lv_at hl 1 rfl) ?_
          refine va_get (D := D) (ci := 6) (v := .ref (ad 9)) (C := RX7) (T := TX7) (N := 16) hx hb ht inTB_X7 hown hK hP 0 rfl rfl 11 (by decide) (ht _ tb_599) (fun _ h9 => h9) rfl dX7_cutsAll_70 ?_
          refine lv_iload_n hx hb dX7_cutsAll_73 rfl (lv_at hl 2 rfl) ?_
          refine lv_iload_n hx hb dX7_cutsAll_74 rfl (lv_at hl 0 rfl) ?_
          refine rv_if_eq (tgt := 93) hx hb dX7_cutsAll_75 (by decide) (by decide) (fun _ => ?_) (fun q => absurd q (by decide))
          refine rv_iconst hx hb dX7_cutsAll_93 ?_
          refine rv_iast hx hb hK hP hD hS 9 0 rfl rfl k rfl (by omega) dX7_cutsAll_94 (fun H locs hP hD hS => ?_)
          have hP : va_P D classes (mW cs ad len spot un 0 0 0 0 tx now rd bf bl us lg BD0 (upI DP k 0)) H := hP
          have hD : va_D A (mW cs ad len spot un 0 0 0 0 tx now rd bf bl us lg BD0 (upI DP k 0)) := hD
          refine lv_aload_n hx hb dX7_cutsAll_95 rfl (lv_at hl 1 rfl) ?_
          refine va_get (D := D) (ci := 6) (v := .ref (ad 8)) (C := RX7) (T := TX7) (N := 16) hx hb ht inTB_X7 hown hK hP 0 rfl rfl 10 (by decide) (ht _ tb_598) (fun _ h9 => h9) rfl dX7_cutsAll_96 ?_
          refine lv_iload_n hx hb dX7_cutsAll_99 rfl (lv_at hl 2 rfl) ?_
          refine rv_bipush hx hb dX7_cutsAll_100 (by decide) ?_
          refine rv_iast hx hb hK hP hD hS 8 0 rfl rfl k rfl (by omega) dX7_cutsAll_102 (fun H locs hP hD hS => ?_)
          have hP : va_P D classes (mW cs ad len spot un 0 0 0 0 tx now rd bf bl us lg (upI BD0 k (-4)) (upI DP k 0)) H := hP
          have hD : va_D A (mW cs ad len spot un 0 0 0 0 tx now rd bf bl us lg (upI BD0 k (-4)) (upI DP k 0)) := hD
          refine rv_iinc (k := 2) (lv' := [(1, .int (iI ((k : Int) + 1))), (2, .int (iI 0)), (0, .ref (ad 0))]) hx hb dX7_cutsAll_103 hl rfl (by decide) rfl (fun ls hl => ?_)
          refine lv_goto (tgt := 22) hx hb dX7_cutsAll_106 (by decide) ?_
          exact ih22 (k + 1) (upI DP k 0) (upI BD0 k (-4)) (by omega) (fun i h => by by_cases z : i = k; (subst z; rw [upI_s, dM, hk1, hk2]; first | rw [cif_pos ⟨by omega, by omega⟩] | rw [cif_neg (fun q => by have := q.1; have := q.2; omega)]); (rw [upI_n z]; exact hd i (by omega))) (fun i h => by by_cases z : i = k; rw [z, upI_s]; rw [upI_n z]; exact hb0 i (by omega)) (by omega) _ (by omega) H locs hP hD hS ls (lv_sub hl [2, 0] rfl)
        · obtain ⟨gk, gn, gf, go, gw⟩ := vL_p hvL (p := (k : Int) / 40) (by omega)
          refine lv_iload_n hx hb dX7_cutsAll_43 rfl (lv_at hl 1 rfl) ?_
          refine rv_bipush hx hb dX7_cutsAll_44 (by decide) ?_
          refine rv_irem hx hb dX7_cutsAll_46 (by omega) ?_
          have hm46 := md_bd (x := (k : Int)) (y := 40) (by omega)
          refine lv_aload_n hx hb dX7_cutsAll_47 rfl (lv_at hl 0 rfl) ?_
          refine va_get (D := D) (ci := 6) (v := .ref (ad 2)) (C := RX7) (T := TX7) (N := 16) hx hb ht inTB_X7 hown hK hP 0 rfl rfl 3 (by decide) (ht _ tb_591) (fun _ h9 => h9) rfl dX7_cutsAll_48 ?_
          refine rv_iconst hx hb dX7_cutsAll_51 ?_
          refine lv_iload_n hx hb dX7_cutsAll_52 rfl (lv_at hl 1 rfl) ?_
          refine rv_bipush hx hb dX7_cutsAll_53 (by decide) ?_
          refine rv_idiv hx hb dX7_cutsAll_55 (by omega) ?_
          refine rv_imul hx hb dX7_cutsAll_56 ?_
          refine rv_iconst hx hb dX7_cutsAll_57 ?_
          refine rv_iadd hx hb dX7_cutsAll_58 ?_
          refine rv_iald hx hb hK hP 2 0 rfl rfl (5 * ((k : Int) / 40).toNat + 4) (by omega) (by omega) dX7_cutsAll_59 ?_
          refine rv_top (y := pv now ((k : Int) / 40) 4) rfl ?_
          refine rv_icmp_ge (tgt := 67) hx hb dX7_cutsAll_60 (by decide) (by omega) (fun h60 => ?_) (fun h60 => ?_)
          · refine rv_iconst hx hb dX7_cutsAll_67 ?_
            refine lv_istore_n (lv' := [(2, .int (iI 0)), (0, .ref (ad 0)), (1, .int (iI (k : Int)))]) hx hb dX7_cutsAll_68 rfl hl (by decide) rfl (fun ls hl => ?_)
            refine lv_aload_n hx hb dX7_cutsAll_69 rfl (lv_at hl 1 rfl) ?_
            refine va_get (D := D) (ci := 6) (v := .ref (ad 9)) (C := RX7) (T := TX7) (N := 16) hx hb ht inTB_X7 hown hK hP 0 rfl rfl 11 (by decide) (ht _ tb_599) (fun _ h9 => h9) rfl dX7_cutsAll_70 ?_
            refine lv_iload_n hx hb dX7_cutsAll_73 rfl (lv_at hl 2 rfl) ?_
            refine lv_iload_n hx hb dX7_cutsAll_74 rfl (lv_at hl 0 rfl) ?_
            refine rv_if_eq (tgt := 93) hx hb dX7_cutsAll_75 (by decide) (by decide) (fun _ => ?_) (fun q => absurd q (by decide))
            refine rv_iconst hx hb dX7_cutsAll_93 ?_
            refine rv_iast hx hb hK hP hD hS 9 0 rfl rfl k rfl (by omega) dX7_cutsAll_94 (fun H locs hP hD hS => ?_)
            have hP : va_P D classes (mW cs ad len spot un 0 0 0 0 tx now rd bf bl us lg BD0 (upI DP k 0)) H := hP
            have hD : va_D A (mW cs ad len spot un 0 0 0 0 tx now rd bf bl us lg BD0 (upI DP k 0)) := hD
            refine lv_aload_n hx hb dX7_cutsAll_95 rfl (lv_at hl 1 rfl) ?_
            refine va_get (D := D) (ci := 6) (v := .ref (ad 8)) (C := RX7) (T := TX7) (N := 16) hx hb ht inTB_X7 hown hK hP 0 rfl rfl 10 (by decide) (ht _ tb_598) (fun _ h9 => h9) rfl dX7_cutsAll_96 ?_
            refine lv_iload_n hx hb dX7_cutsAll_99 rfl (lv_at hl 2 rfl) ?_
            refine rv_bipush hx hb dX7_cutsAll_100 (by decide) ?_
            refine rv_iast hx hb hK hP hD hS 8 0 rfl rfl k rfl (by omega) dX7_cutsAll_102 (fun H locs hP hD hS => ?_)
            have hP : va_P D classes (mW cs ad len spot un 0 0 0 0 tx now rd bf bl us lg (upI BD0 k (-4)) (upI DP k 0)) H := hP
            have hD : va_D A (mW cs ad len spot un 0 0 0 0 tx now rd bf bl us lg (upI BD0 k (-4)) (upI DP k 0)) := hD
            refine rv_iinc (k := 2) (lv' := [(1, .int (iI ((k : Int) + 1))), (2, .int (iI 0)), (0, .ref (ad 0))]) hx hb dX7_cutsAll_103 hl rfl (by decide) rfl (fun ls hl => ?_)
            refine lv_goto (tgt := 22) hx hb dX7_cutsAll_106 (by decide) ?_
            exact ih22 (k + 1) (upI DP k 0) (upI BD0 k (-4)) (by omega) (fun i h => by by_cases z : i = k; (subst z; rw [upI_s, dM, hk1, hk2]; first | rw [cif_pos ⟨by omega, by omega⟩] | rw [cif_neg (fun q => by have := q.1; have := q.2; omega)]); (rw [upI_n z]; exact hd i (by omega))) (fun i h => by by_cases z : i = k; rw [z, upI_s]; rw [upI_n z]; exact hb0 i (by omega)) (by omega) _ (by omega) H locs hP hD hS ls (lv_sub hl [2, 0] rfl)
          · refine rv_iconst hx hb dX7_cutsAll_63 ?_
            refine lv_goto (tgt := 68) hx hb dX7_cutsAll_64 (by decide) ?_
            refine lv_istore_n (lv' := [(2, .int (iI 1)), (0, .ref (ad 0)), (1, .int (iI (k : Int)))]) hx hb dX7_cutsAll_68 rfl hl (by decide) rfl (fun ls hl => ?_)
            refine lv_aload_n hx hb dX7_cutsAll_69 rfl (lv_at hl 1 rfl) ?_
            refine va_get (D := D) (ci := 6) (v := .ref (ad 9)) (C := RX7) (T := TX7) (N := 16) hx hb ht inTB_X7 hown hK hP 0 rfl rfl 11 (by decide) (ht _ tb_599) (fun _ h9 => h9) rfl dX7_cutsAll_70 ?_
            refine lv_iload_n hx hb dX7_cutsAll_73 rfl (lv_at hl 2 rfl) ?_
            refine lv_iload_n hx hb dX7_cutsAll_74 rfl (lv_at hl 0 rfl) ?_
            refine rv_if_eq (tgt := 93) hx hb dX7_cutsAll_75 (by decide) (by decide) (fun q => absurd q (by decide)) (fun _ => ?_)
            refine lv_aload_n hx hb dX7_cutsAll_78 rfl (lv_at hl 1 rfl) ?_
            refine lv_iload_n hx hb dX7_cutsAll_79 rfl (lv_at hl 2 rfl) ?_
            refine rv_bipush hx hb dX7_cutsAll_80 (by decide) ?_
            refine rv_idiv hx hb dX7_cutsAll_82 (by omega) ?_
            refine lv_iload_n hx hb dX7_cutsAll_83 rfl (lv_at hl 2 rfl) ?_
            refine rv_bipush hx hb dX7_cutsAll_84 (by decide) ?_
            refine rv_irem hx hb dX7_cutsAll_86 (by omega) ?_
            have hm86 := md_bd (x := (k : Int)) (y := 40) (by omega)
            refine vp_callSi (W.runV (As := [.int (iI ((k : Int) / 40)), .int (iI ((k : Int) % 40))]) (rest := [.int (iI (k : Int)), .ref (ad 9)]) ⟨hx, hb, hml, hown, hts⟩ (c_X7_wellOf l D cs (ad 0) (ad 2) _ now ((k : Int) / 40) ((k : Int) % 40) (by omega) (by omega)) (cwV 2 hts (gV tb_744 tb_746 tbs_23 tb_8 tb_747) rfl rfl rfl (by decide +kernel) ⟨Nat.le_of_ble_eq_true rfl, Nat.le_of_ble_eq_true rfl⟩) (preV_mod hK ⟨hP.sub [0, 2] rfl, rfl, hvL⟩) rfl rfl hl.1 rfl (lv_room (Nat.le_of_ble_eq_true rfl)) dX7_cutsAll_87 ⟨Nat.le_of_ble_eq_true rfl, Nat.le_of_ble_eq_true rfl⟩) (fun r9 hr9 => ?_)
            obtain ⟨rfl, hx87_0⟩ := hr9
            refine lv_goto (tgt := 94) hx hb dX7_cutsAll_90 (by decide) ?_
            refine rv_iast hx hb hK hP hD hS 9 0 rfl rfl k rfl (by omega) dX7_cutsAll_94 (fun H locs hP hD hS => ?_)
            have hP : va_P D classes (mW cs ad len spot un 0 0 0 0 tx now rd bf bl us lg BD0 (upI DP k (dpt (pv now ((k : Int) / 40) 0) (pv now ((k : Int) / 40) 1) (pv now ((k : Int) / 40) 2) (((k : Int) % 40) + pv now ((k : Int) / 40) 3)))) H := hP
            have hD : va_D A (mW cs ad len spot un 0 0 0 0 tx now rd bf bl us lg BD0 (upI DP k (dpt (pv now ((k : Int) / 40) 0) (pv now ((k : Int) / 40) 1) (pv now ((k : Int) / 40) 2) (((k : Int) % 40) + pv now ((k : Int) / 40) 3)))) := hD
            refine lv_aload_n hx hb dX7_cutsAll_95 rfl (lv_at hl 1 rfl) ?_
            refine va_get (D := D) (ci := 6) (v := .ref (ad 8)) (C := RX7) (T := TX7) (N := 16) hx hb ht inTB_X7 hown hK hP 0 rfl rfl 10 (by decide) (ht _ tb_598) (fun _ h9 => h9) rfl dX7_cutsAll_96 ?_
            refine lv_iload_n hx hb dX7_cutsAll_99 rfl (lv_at hl 2 rfl) ?_
            refine rv_bipush hx hb dX7_cutsAll_100 (by decide) ?_
            refine rv_iast hx hb hK hP hD hS 8 0 rfl rfl k rfl (by omega) dX7_cutsAll_102 (fun H locs hP hD hS => ?_)
            have hP : va_P D classes (mW cs ad len spot un 0 0 0 0 tx now rd bf bl us lg (upI BD0 k (-4)) (upI DP k (dpt (pv now ((k : Int) / 40) 0) (pv now ((k : Int) / 40) 1) (pv now ((k : Int) / 40) 2) (((k : Int) % 40) + pv now ((k : Int) / 40) 3)))) H := hP
            have hD : va_D A (mW cs ad len spot un 0 0 0 0 tx now rd bf bl us lg (upI BD0 k (-4)) (upI DP k (dpt (pv now ((k : Int) / 40) 0) (pv now ((k : Int) / 40) 1) (pv now ((k : Int) / 40) 2) (((k : Int) % 40) + pv now ((k : Int) / 40) 3)))) := hD
            refine rv_iinc (k := 2) (lv' := [(1, .int (iI ((k : Int) + 1))), (2, .int (iI 1)), (0, .ref (ad 0))]) hx hb dX7_cutsAll_103 hl rfl (by decide) rfl (fun ls hl => ?_)
            refine lv_goto (tgt := 22) hx hb dX7_cutsAll_106 (by decide) ?_
            exact ih22 (k + 1) (upI DP k (dpt (pv now ((k : Int) / 40) 0) (pv now ((k : Int) / 40) 1) (pv now ((k : Int) / 40) 2) (((k : Int) % 40) + pv now ((k : Int) / 40) 3))) (upI BD0 k (-4)) (by omega) (fun i h => by by_cases z : i = k; (subst z; rw [upI_s, dM, hk1, hk2]; first | rw [cif_pos ⟨by omega, by omega⟩] | rw [cif_neg (fun q => by have := q.1; have := q.2; omega)]); (rw [upI_n z]; exact hd i (by omega))) (fun i h => by by_cases z : i = k; rw [z, upI_s]; rw [upI_n z]; exact hb0 i (by omega)) (by omega) _ (by omega) H locs hP hD hS ls (lv_sub hl [2, 0] rfl)
  exact loop22 (_ + 1) 0 dp bd (by omega) (fun i h => absurd h (Nat.not_lt_zero _)) (fun i h => absurd h (Nat.not_lt_zero _)) (Nat.lt_succ_self _) _ rfl H locs hP hD hS ls (lv_sub hl [1, 0] rfl)

