/-! Panel: its making, and what makes rows -/
theorem sg1_tab : ∀ n ∈ prN, ∀ r, r < n → (andI (shrI (sqB (n : Int)) (r : Int)) 1 = 1 ↔ sgN r n = 1) := by decide +kernel
theorem sg1_pr {n : Int} (hn : isPr n) {i : Nat} (hi : (i : Int) < n) : andI (shrI (sqB n) (i : Int)) 1 = 1 ↔ sg (i : Int) n = 1 := by
  obtain ⟨k, hk, rfl⟩ := isPr_mem hn
  have h := sg1_tab k hk i (by omega)
  rw [sg, Int.emod_eq_of_lt (by omega) hi, Int.toNat_natCast, Int.toNat_natCast]
  exact h
theorem newM {M A : Nat → Prop} {sz q : Nat} (hAe : va_A ([] : va_W) sz = A) (hM : ∀ q, M q → q < sz) (h : A q) : ¬ M q := fun z => by
  rw [← hAe] at h
  rcases h with ⟨k, e, h⟩ | h
  · simp at h
  · have := hM q z; omega
theorem evN_eq {k n f sh a b : Int} (h : a = b) (d : Nat) : evN k n f sh a d = evN k n f sh b d := by rw [h]
theorem evN_le {k n f sh a : Int} (d : Nat) : evN k n f sh a (d + 1) = evN k n f sh (mnI a (cnC k n f sh 0 (per k n).toNat)) (d + 1) := by
  induction d with
  | zero =>
    show mnI a (cnC k n f sh 0 (per k n).toNat) = mnI (mnI a (cnC k n f sh 0 (per k n).toNat)) (cnC k n f sh 0 (per k n).toNat)
    generalize cnC k n f sh 0 (per k n).toNat = c
    unfold mnI
    split
    · split <;> omega
    · rfl
  | succ d ih => rw [evN, ih]; rfl
theorem evN_first {k n f sh : Int} (hn : isPr n) (d : Nat) : evN k n f sh (per k n) (d + 1) = evN k n f sh 1000 (d + 1) := by
  have hp := per_bd (k := k) hn
  have hc := cnC_bd k n f sh 0 (per k n).toNat
  rw [evN_le, evN_le (a := 1000)]
  apply evN_eq
  unfold mnI
  split <;> split <;> omega
theorem evNO_init {k n f : Int} (hn : isPr n) (j : Nat) : evNO k n f (per k n) (j + 1) = evNO k n f 1000 (j + 1) := by
  have hb := isPr_bd hn
  induction j with
  | zero =>
    rw [evNO, evNO, evNO, evNO]
    rw [show n.toNat = (n.toNat - 1) + 1 by omega]
    exact evN_first hn _
  | succ j ih => rw [evNO, ih, ← evNO]
theorem evenS_eq {k n f : Int} (hn : isPr n) : evXO k n f (per k n - 1).toNat - evNO k n f (per k n) (per k n - 1).toNat = evenS k n f := by
  have hp := per_bd (k := k) hn
  rw [evenS, show (per k n - 1).toNat = ((per k n - 1).toNat - 1) + 1 by omega, evNO_init hn]
def ushI (a b : Int) : Int := ((iI a).toUInt32 >>> ((iI b).toUInt32 &&& Int32.toUInt32 31)).toInt32.toInt
theorem rv_iushr {p : Program} {l : Launch} {e : Env} {R : Room} {s : State} {m : MethodId} {args : Array Value} {below : List Frame} {meth : Method} {c : Code} {H : Heap} {locs : List Loc} {cells slots : Nat} {Q : State → Prop} {cc : ByteArray} {pc : Nat} {ls : Array Slot} {rest : List Value} (hx : p.tables.exec = Jvm.exec) (hb : c.code = cc) {x y : Int} (hdg : decode cc pc = .ok (.iushr, 1))
    (k : W p l e R s m args below meth c H locs cells slots Q (F0 m (pc + 1) ls (.int (iI (ushI x y)) :: rest))) : W p l e R s m args below meth c H locs cells slots Q (F0 m pc ls (.int (iI y) :: .int (iI x) :: rest)) := lv_iushr hx hb hdg (iI_back _).symm k
def bc1 (x : Int) : Int := x - andI (ushI x 1) 1431655765
def bc2 (x : Int) : Int := andI x 858993459 + andI (ushI x 2) 858993459
def bc3 (x : Int) : Int := andI (x + ushI x 4) 252645135
def bc4 (x : Int) : Int := x + ushI x 8
def bc5 (x : Int) : Int := x + ushI x 16
def bcI (x : Int) : Int := andI (bc5 (bc4 (bc3 (bc2 (bc1 x))))) 63

abbrev rm_X1_rowOf : Room := { frames := 1, cells := 1, slots := 31, locals := 22 }
set_option maxHeartbeats 8000000 in
set_option maxRecDepth 100000 in
/-- rowOf -/
theorem c_X1_rowOf (l : Launch) (D : va_G) (cs : Nat → ClassId) (sz : Nat) (k : Int) (n : Int) (f : Int) (hvk : 0 ≤ k ∧ k ≤ 2) (hvn : isPr n) (hvf : fOK k n f) : Met l yX1_rowOf (Cond.code yX1_rowOf cX1_rowOf 7 (some (.array .int)) :: TB) rm_X1_rowOf (va_Pc [.int (iI k), .int (iI n), .int (iI f)] (MPre D cs sz ([] : va_W) (fun _ _ => True))) (va_Qr (fun _ : Unit => True) (fun _ r t => ∃ (row : Nat → Int), (∀ i : Nat, (i : Int) < n → row i = dep k n f i) ∧ va_P D classes [(r, iaC cs 31 row)] t.heap ∧ va_D (va_A ([] : va_W) sz) [(r, iaC cs 31 row)]) (va_A ([] : va_W) sz)) 1 31 (va_A ([] : va_W) sz) := by
  refine enter (cc := cX1_rowOf) (maxL := 7) (ret := (some (.array .int))) (by decide) (Nat.le_of_ble_eq_true rfl) ?_
  intro pg ev s m below meth c Q ls hx hb hml hown hts hr hlocks hnm ⟨hsz, hP, hD0, hK, hX0⟩ hl hQ
  have ht : ∀ w ∈ TB, w.before _ s = true := fun w h => hts w (List.mem_cons_of_mem _ h)
  subst hsz
  have hD := hD0.self (sz := s.heap.size)
  obtain ⟨A, hAe⟩ : ∃ A, va_A ([] : va_W) s.heap.size = A := ⟨_, rfl⟩
  rw [hAe] at hD
  have hA : ∀ q : Nat, s.heap.size ≤ q → A q := fun q h => by rw [← hAe]; exact Or.inr h
  obtain ⟨H, hH⟩ : ∃ H, H = s.heap := ⟨_, rfl⟩
  obtain ⟨locs, hlocs⟩ : ∃ locs : List Loc, locs = [] := ⟨_, rfl⟩
  have hS : va_S A s.heap H locs := by rw [hH, hlocs]; exact va_S.rf
  rw [← hH] at hP
  suffices hgo : W pg l ev rm_X1_rowOf s m [.int (iI k), .int (iI n), .int (iI f)].toArray below meth c H locs 0 0 Q (F0 m 0 ls []) by rw [hH, hlocs] at hgo; exact hgo
  have hl : lv_has ls 7 [(0, .int (iI k)), (1, .int (iI n)), (2, .int (iI f))] := hl
  have hnb := isPr_bd hvn
  have hfb := fOK_bd hvk hvn hvf
  refine rv_bipush hx hb dX1_rowOf_0 (by decide) ?_
  refine rv_newi hx hb (ht _ tb_54) hK hP hD hS hA 31 rfl (by omega) (Nat.le_of_ble_eq_true rfl) (Nat.le_of_ble_eq_true rfl) dX1_rowOf_2 (fun q2 H hP hD hS => ?_)
  have hP : va_P D classes ([(q2, iaC cs 31 (fun _ => 0))]) H := hP
  have hD : va_D A ([(q2, iaC cs 31 (fun _ => 0))]) := hD
  refine lv_astore_n (lv' := [(3, .ref q2), (0, .int (iI k)), (1, .int (iI n)), (2, .int (iI f))]) hx hb dX1_rowOf_4 rfl hl (by decide) rfl (fun ls hl => ?_)
  refine rv_iconst hx hb dX1_rowOf_5 ?_
  refine lv_istore (lv' := [(4, .int (iI 1)), (3, .ref q2), (0, .int (iI k)), (1, .int (iI n)), (2, .int (iI f))]) hx hb dX1_rowOf_6 hl (by decide) rfl (fun ls hl => ?_)
  refine lv_iload_n hx hb dX1_rowOf_8 rfl (lv_at hl 3 rfl) ?_
  refine vp_callSi (W.runS (As := [.int (iI n)]) (rest := []) ⟨hx, hb, hml, hown, hts⟩ (c_X0_squareBits l n (by omega)) (va_cwS 1 hts (gS tb_135 tb_136 tb_6 tb_137) rfl rfl rfl (by decide +kernel) ⟨Nat.le_of_ble_eq_true rfl, Nat.le_of_ble_eq_true rfl⟩) preS0 rfl rfl hl.1 rfl (lv_room (Nat.le_of_ble_eq_true rfl)) dX1_rowOf_9 ⟨Nat.le_of_ble_eq_true rfl, Nat.le_of_ble_eq_true rfl⟩) (fun r9 hr9 => ?_)
  obtain ⟨rfl, hx9_0⟩ := hr9
  refine lv_istore (lv' := [(5, .int (iI (sqB n))), (4, .int (iI 1)), (3, .ref q2), (0, .int (iI k)), (1, .int (iI n)), (2, .int (iI f))]) hx hb dX1_rowOf_12 hl (by decide) rfl (fun ls hl => ?_)
  refine rv_iconst hx hb dX1_rowOf_14 ?_
  refine lv_istore (lv' := [(6, .int (iI 0)), (5, .int (iI (sqB n))), (4, .int (iI 1)), (3, .ref q2), (0, .int (iI k)), (1, .int (iI n)), (2, .int (iI f))]) hx hb dX1_rowOf_15 hl (by decide) rfl (fun ls hl => ?_)
  have loop17 : ∀ (fuel17 : Nat) (i : Nat) (F : Nat → Int), ((i : Int) ≤ n) → (∀ j : Nat, j < i → F j = dep k n f j) → (n - (i : Int)).toNat < fuel17 → ∀ (x4 x5 x6 : Int), x4 = pwI f n i → x5 = sqB n → x6 = (i : Int) → ∀ (H : Heap) (locs : List Loc), va_P D classes ([(q2, iaC cs 31 F)]) H → va_D A ([(q2, iaC cs 31 F)]) → va_S A s.heap H locs → ∀ ls : Array Slot, lv_has ls 7 [(0, .int (iI k)), (1, .int (iI n)), (2, .int (iI f)), (3, .ref q2), (4, .int (iI x4)), (5, .int (iI x5)), (6, .int (iI x6))] → W pg l ev rm_X1_rowOf s m [.int (iI k), .int (iI n), .int (iI f)].toArray below meth c H locs 1 31 Q (F0 m 17 ls []) := by
    intro fuel17
    induction fuel17 with
    | zero => intro i F hi hq hfuel17; exact absurd hfuel17 (Nat.not_lt_zero _)
    | succ fuel17 ih17 =>
      intro i F hi hq hfuel17 x4 x5 x6 ex4 ex5 ex6 H locs hP hD hS ls hl
      subst ex4 ex5 ex6
      have hpw := pwI_bd (f := f) (n := n) (by omega) i
      have hpm : 0 ≤ pwI f n i * f := Int.mul_nonneg (by omega) (by omega)
      have hpn : pwI f n i * f ≤ 31 * 31 := Int.mul_le_mul (by omega) (by omega) (by omega) (by omega)
      refine lv_iload hx hb dX1_rowOf_17 (lv_at hl 6 rfl) ?_
      refine lv_iload_n hx hb dX1_rowOf_19 rfl (lv_at hl 1 rfl) ?_
      refine rv_icmp_ge (tgt := 102) hx hb dX1_rowOf_20 (by decide) (by omega) (fun h20 => ?_) (fun h20 => ?_)
      · refine lv_aload_n hx hb dX1_rowOf_102 rfl (lv_at hl 3 rfl) ?_
        subst hQ
        exact W.aret (v := .ref q2) hx hb hr (Or.inr ⟨_, rfl⟩) (Or.inr ⟨_, rfl⟩) (fun t9 ht9 hW9 => ⟨⟨(), _, rfl, trivial, ⟨F, fun j h => hq j (by omega), by rw [ht9]; exact hP, by rw [hAe]; exact hD⟩⟩, by rw [hAe]; exact hS.F ht9⟩) (by rw [hAe]; exact hS.2.2) dX1_rowOf_103
      · refine lv_iload hx hb dX1_rowOf_23 (lv_at hl 6 rfl) ?_
        refine lv_aload_n hx hb dX1_rowOf_25 rfl (lv_at hl 3 rfl) ?_
        refine rv_alen hx hb hK hP 0 0 rfl rfl dX1_rowOf_26 ?_
        refine rv_icmp_ge (tgt := 102) hx hb dX1_rowOf_27 (by decide) (by omega) (fun h27 => False.elim (by omega)) (fun h27 => ?_)
        refine lv_iload hx hb dX1_rowOf_30 (lv_at hl 4 rfl) ?_
        refine lv_iload_n hx hb dX1_rowOf_32 rfl (lv_at hl 2 rfl) ?_
        refine rv_imul hx hb dX1_rowOf_33 ?_
        refine lv_iload_n hx hb dX1_rowOf_34 rfl (lv_at hl 1 rfl) ?_
        refine vp_callSi (W.runS (As := [.int (iI (pwI f n i * f)), .int (iI n)]) (rest := []) ⟨hx, hb, hml, hown, hts⟩ (c_X0_rest l (pwI f n i * f) n (by omega) (by omega)) (va_cwS 2 hts (gS tb_138 tb_139 tb_6 tb_140) rfl rfl rfl (by decide +kernel) ⟨Nat.le_of_ble_eq_true rfl, Nat.le_of_ble_eq_true rfl⟩) preS0 rfl rfl hl.1 rfl (lv_room (Nat.le_of_ble_eq_true rfl)) dX1_rowOf_35 ⟨Nat.le_of_ble_eq_true rfl, Nat.le_of_ble_eq_true rfl⟩) (fun r9 hr9 => ?_)
        obtain ⟨rfl, hx35_0⟩ := hr9
        refine rv_top (y := (pwI f n (i + 1))) rfl ?_
        refine lv_istore (lv' := [(4, .int (iI (pwI f n (i + 1)))), (0, .int (iI k)), (1, .int (iI n)), (2, .int (iI f)), (3, .ref q2), (5, .int (iI (sqB n))), (6, .int (iI (i : Int)))]) hx hb dX1_rowOf_38 hl (by decide) rfl (fun ls hl => ?_)
        refine lv_iload_n hx hb dX1_rowOf_40 rfl (lv_at hl 1 rfl) ?_
        refine rv_if_ne (tgt := 62) hx hb dX1_rowOf_41 (by decide) (by omega) (fun h41 => ?_) (fun h41 => ?_)
        · refine lv_iload_n hx hb dX1_rowOf_62 rfl (lv_at hl 1 rfl) ?_
          refine rv_iconst hx hb dX1_rowOf_63 ?_
          refine rv_icmp_ne (tgt := 76) hx hb dX1_rowOf_64 (by decide) (by omega) (fun h64 => ?_) (fun h64 => ?_)
          · refine lv_aload_n hx hb dX1_rowOf_76 rfl (lv_at hl 4 rfl) ?_
            refine lv_iload hx hb dX1_rowOf_77 (lv_at hl 6 rfl) ?_
            have hab := andI_bd (shrI (sqB n) (i : Int)) 1
            have hsg := sg1_pr hvn (i := i) (by omega)
            refine lv_iload hx hb dX1_rowOf_79 (lv_at hl 5 rfl) ?_
            refine lv_iload hx hb dX1_rowOf_81 (lv_at hl 6 rfl) ?_
            refine rv_ishr hx hb dX1_rowOf_83 ?_
            refine rv_iconst hx hb dX1_rowOf_84 ?_
            refine rv_iand hx hb dX1_rowOf_85 ?_
            refine rv_iconst hx hb dX1_rowOf_86 ?_
            refine rv_icmp_ne (tgt := 94) hx hb dX1_rowOf_87 (by decide) (by omega) (fun h87 => ?_) (fun h87 => ?_)
            · refine rv_iconst hx hb dX1_rowOf_94 ?_
              refine rv_iast hx hb hK hP hD hS 0 0 rfl rfl i rfl (by omega) dX1_rowOf_95 (fun H locs hP hD hS => ?_)
              have hP : va_P D classes ([(q2, iaC cs 31 (upI F i 0))]) H := hP
              have hD : va_D A ([(q2, iaC cs 31 (upI F i 0))]) := hD
              refine rv_iinc (k := 6) (lv' := [(6, .int (iI ((i : Int) + 1))), (4, .int (iI (pwI f n (i + 1)))), (0, .int (iI k)), (1, .int (iI n)), (2, .int (iI f)), (3, .ref q2), (5, .int (iI (sqB n)))]) hx hb dX1_rowOf_96 hl rfl (by decide) rfl (fun ls hl => ?_)
              refine lv_goto (tgt := 17) hx hb dX1_rowOf_99 (by decide) ?_
              exact ih17 (i + 1) (upI F i 0) (by omega) (fun j h => by by_cases z : j = i; (subst z; rw [upI_s]; unfold dep; first | rw [if_pos (by omega)] | rw [if_neg (by omega), if_pos (by omega)] | rw [if_neg (by omega), if_neg (by omega), if_pos (hsg.mp h87)] | rw [if_neg (by omega), if_neg (by omega), if_neg (fun q => h87 (hsg.mpr q))]); (rw [upI_n z]; exact hq j (by omega))) (by omega) _ _ _ rfl rfl (by omega) H locs hP hD hS ls (lv_sub hl [2, 3, 4, 5, 1, 6, 0] rfl)
            · refine lv_iload_n hx hb dX1_rowOf_90 rfl (lv_at hl 3 rfl) ?_
              refine lv_goto (tgt := 95) hx hb dX1_rowOf_91 (by decide) ?_
              refine rv_iast hx hb hK hP hD hS 0 0 rfl rfl i rfl (by omega) dX1_rowOf_95 (fun H locs hP hD hS => ?_)
              have hP : va_P D classes ([(q2, iaC cs 31 (upI F i f))]) H := hP
              have hD : va_D A ([(q2, iaC cs 31 (upI F i f))]) := hD
              refine rv_iinc (k := 6) (lv' := [(6, .int (iI ((i : Int) + 1))), (4, .int (iI (pwI f n (i + 1)))), (0, .int (iI k)), (1, .int (iI n)), (2, .int (iI f)), (3, .ref q2), (5, .int (iI (sqB n)))]) hx hb dX1_rowOf_96 hl rfl (by decide) rfl (fun ls hl => ?_)
              refine lv_goto (tgt := 17) hx hb dX1_rowOf_99 (by decide) ?_
              exact ih17 (i + 1) (upI F i f) (by omega) (fun j h => by by_cases z : j = i; (subst z; rw [upI_s]; unfold dep; first | rw [if_pos (by omega)] | rw [if_neg (by omega), if_pos (by omega)] | rw [if_neg (by omega), if_neg (by omega), if_pos (hsg.mp h87)] | rw [if_neg (by omega), if_neg (by omega), if_neg (fun q => h87 (hsg.mpr q))]); (rw [upI_n z]; exact hq j (by omega))) (by omega) _ _ _ rfl rfl (by omega) H locs hP hD hS ls (lv_sub hl [2, 3, 4, 5, 1, 6, 0] rfl)
          · refine lv_aload_n hx hb dX1_rowOf_67 rfl (lv_at hl 4 rfl) ?_
            refine lv_iload hx hb dX1_rowOf_68 (lv_at hl 6 rfl) ?_
            refine lv_iload hx hb dX1_rowOf_70 (lv_at hl 0 rfl) ?_
            refine rv_iast hx hb hK hP hD hS 0 0 rfl rfl i rfl (by omega) dX1_rowOf_72 (fun H locs hP hD hS => ?_)
            have hP : va_P D classes ([(q2, iaC cs 31 (upI F i (pwI f n (i + 1))))]) H := hP
            have hD : va_D A ([(q2, iaC cs 31 (upI F i (pwI f n (i + 1))))]) := hD
            refine lv_goto (tgt := 96) hx hb dX1_rowOf_73 (by decide) ?_
            refine rv_iinc (k := 6) (lv' := [(6, .int (iI ((i : Int) + 1))), (4, .int (iI (pwI f n (i + 1)))), (0, .int (iI k)), (1, .int (iI n)), (2, .int (iI f)), (3, .ref q2), (5, .int (iI (sqB n)))]) hx hb dX1_rowOf_96 hl rfl (by decide) rfl (fun ls hl => ?_)
            refine lv_goto (tgt := 17) hx hb dX1_rowOf_99 (by decide) ?_
            exact ih17 (i + 1) (upI F i (pwI f n (i + 1))) (by omega) (fun j h => by by_cases z : j = i; (subst z; rw [upI_s]; unfold dep; first | rw [if_pos (by omega)] | rw [if_neg (by omega), if_pos (by omega)] | rw [if_neg (by omega), if_neg (by omega), if_pos (hsg.mp h87)] | rw [if_neg (by omega), if_neg (by omega), if_neg (fun q => h87 (hsg.mpr q))]); (rw [upI_n z]; exact hq j (by omega))) (by omega) _ _ _ rfl rfl (by omega) H locs hP hD hS ls (lv_sub hl [2, 3, 4, 5, 1, 6, 0] rfl)
        · refine lv_aload_n hx hb dX1_rowOf_44 rfl (lv_at hl 4 rfl) ?_
          refine lv_iload hx hb dX1_rowOf_45 (lv_at hl 6 rfl) ?_
          have hm1 : 0 ≤ f * (i : Int) := Int.mul_nonneg (by omega) (by omega)
          have hm2 : f * (i : Int) ≤ 31 * 31 := Int.mul_le_mul (by omega) (by omega) (by omega) (by omega)
          have hm3 : 0 ≤ f * (i : Int) * (i : Int) := Int.mul_nonneg (by omega) (by omega)
          have hm4 : f * (i : Int) * (i : Int) ≤ (31 * 31) * 31 := Int.mul_le_mul (by omega) (by omega) (by omega) (by omega)
          refine lv_iload_n hx hb dX1_rowOf_47 rfl (lv_at hl 3 rfl) ?_
          refine lv_iload hx hb dX1_rowOf_48 (lv_at hl 6 rfl) ?_
          refine rv_imul hx hb dX1_rowOf_50 ?_
          refine lv_iload hx hb dX1_rowOf_51 (lv_at hl 6 rfl) ?_
          refine rv_imul hx hb dX1_rowOf_53 ?_
          refine lv_iload_n hx hb dX1_rowOf_54 rfl (lv_at hl 2 rfl) ?_
          refine vp_callSi (W.runS (As := [.int (iI ((f * (i : Int)) * (i : Int))), .int (iI n)]) (rest := [.int (iI (i : Int)), .ref q2]) ⟨hx, hb, hml, hown, hts⟩ (c_X0_rest l ((f * (i : Int)) * (i : Int)) n (by omega) (by omega)) (va_cwS 2 hts (gS tb_138 tb_139 tb_6 tb_140) rfl rfl rfl (by decide +kernel) ⟨Nat.le_of_ble_eq_true rfl, Nat.le_of_ble_eq_true rfl⟩) preS0 rfl rfl hl.1 rfl (lv_room (Nat.le_of_ble_eq_true rfl)) dX1_rowOf_55 ⟨Nat.le_of_ble_eq_true rfl, Nat.le_of_ble_eq_true rfl⟩) (fun r9 hr9 => ?_)
          obtain ⟨rfl, hx55_0⟩ := hr9
          refine rv_iast hx hb hK hP hD hS 0 0 rfl rfl i rfl (by omega) dX1_rowOf_58 (fun H locs hP hD hS => ?_)
          have hP : va_P D classes ([(q2, iaC cs 31 (upI F i (((f * (i : Int)) * (i : Int)) % n)))]) H := hP
          have hD : va_D A ([(q2, iaC cs 31 (upI F i (((f * (i : Int)) * (i : Int)) % n)))]) := hD
          refine lv_goto (tgt := 96) hx hb dX1_rowOf_59 (by decide) ?_
          refine rv_iinc (k := 6) (lv' := [(6, .int (iI ((i : Int) + 1))), (4, .int (iI (pwI f n (i + 1)))), (0, .int (iI k)), (1, .int (iI n)), (2, .int (iI f)), (3, .ref q2), (5, .int (iI (sqB n)))]) hx hb dX1_rowOf_96 hl rfl (by decide) rfl (fun ls hl => ?_)
          refine lv_goto (tgt := 17) hx hb dX1_rowOf_99 (by decide) ?_
          exact ih17 (i + 1) (upI F i (((f * (i : Int)) * (i : Int)) % n)) (by omega) (fun j h => by by_cases z : j = i; (subst z; rw [upI_s]; unfold dep; first | rw [if_pos (by omega)] | rw [if_neg (by omega), if_pos (by omega)] | rw [if_neg (by omega), if_neg (by omega), if_pos (hsg.mp h87)] | rw [if_neg (by omega), if_neg (by omega), if_neg (fun q => h87 (hsg.mpr q))]); (rw [upI_n z]; exact hq j (by omega))) (by omega) _ _ _ rfl rfl (by omega) H locs hP hD hS ls (lv_sub hl [2, 3, 4, 5, 1, 6, 0] rfl)
  exact loop17 (_ + 1) 0 (fun _ => 0) (by omega) (fun j h => absurd h (Nat.not_lt_zero _)) (Nat.lt_succ_self _) _ _ _ rfl rfl rfl H locs hP hD hS ls (lv_sub hl [4, 5, 6, 3, 2, 1, 0] rfl)

abbrev rm_X1_init : Room := { frames := 2, cells := 1, slots := 31, locals := 48 }
set_option maxHeartbeats 8000000 in
set_option maxRecDepth 100000 in
/-- Panel(..) -/
theorem c_X1_init (l : Launch) (D : va_G) (cs : Nat → ClassId) (sz : Nat) (a : Nat) (k : Int) (n : Int) (f : Int) (o : Int) (w : Int) (hvk : 0 ≤ k ∧ k ≤ 2) (hvn : isPr n) (hvf : fOK k n f) : Met l yX1_init (Cond.code yX1_init cX1_init 6 none :: TB) rm_X1_init (va_Pc [.ref a, .int (iI k), .int (iI n), .int (iI f), .int (iI o), .int (iI w)] (MPre D cs sz [(a, .inr (0, [.int (iI 0), .int (iI 0), .int (iI 0), .int (iI 0), .int (iI 0), .int (iI 0), .null]))] (fun _ _ => True))) (va_Qv (fun _ : Unit => True) (fun _ t => ∃ (rr : Nat) (row : Nat → Int), (∀ i : Nat, (i : Int) < n → row i = dep k n f i) ∧ va_P D classes [(a, .inr (0, [.int (iI k), .int (iI n), .int (iI f), .int (iI o), .int (iI w), .int (iI (per k n)), .ref rr])), (rr, iaC cs 31 row)] t.heap ∧ va_D (va_A [(a, .inr (0, [.int (iI 0), .int (iI 0), .int (iI 0), .int (iI 0), .int (iI 0), .int (iI 0), .null]))] sz) [(a, .inr (0, [.int (iI k), .int (iI n), .int (iI f), .int (iI o), .int (iI w), .int (iI (per k n)), .ref rr])), (rr, iaC cs 31 row)]) (va_A [(a, .inr (0, [.int (iI 0), .int (iI 0), .int (iI 0), .int (iI 0), .int (iI 0), .int (iI 0), .null]))] sz)) 1 31 (va_A [(a, .inr (0, [.int (iI 0), .int (iI 0), .int (iI 0), .int (iI 0), .int (iI 0), .int (iI 0), .null]))] sz) := by
  refine enter (cc := cX1_init) (maxL := 6) (ret := none) (by decide) (Nat.le_of_ble_eq_true rfl) ?_
  intro pg ev s m below meth c Q ls hx hb hml hown hts hr hlocks hnm ⟨hsz, hP, hD0, hK, hX0⟩ hl hQ
  have ht : ∀ w ∈ TB, w.before _ s = true := fun w h => hts w (List.mem_cons_of_mem _ h)
  have hin : meth.name = "<init>" := hnm
  subst hsz
  have hD := hD0.self (sz := s.heap.size)
  obtain ⟨A, hAe⟩ : ∃ A, va_A [(a, .inr (0, [.int (iI 0), .int (iI 0), .int (iI 0), .int (iI 0), .int (iI 0), .int (iI 0), .null]))] s.heap.size = A := ⟨_, rfl⟩
  rw [hAe] at hD
  have hA : ∀ q : Nat, s.heap.size ≤ q → A q := fun q h => by rw [← hAe]; exact Or.inr h
  obtain ⟨H, hH⟩ : ∃ H, H = s.heap := ⟨_, rfl⟩
  obtain ⟨locs, hlocs⟩ : ∃ locs : List Loc, locs = [] := ⟨_, rfl⟩
  have hS : va_S A s.heap H locs := by rw [hH, hlocs]; exact va_S.rf
  rw [← hH] at hP
  suffices hgo : W pg l ev rm_X1_init s m [.ref a, .int (iI k), .int (iI n), .int (iI f), .int (iI o), .int (iI w)].toArray below meth c H locs 0 0 Q (F0 m 0 ls []) by rw [hH, hlocs] at hgo; exact hgo
  have hl : lv_has ls 6 [(0, .ref a), (1, .int (iI k)), (2, .int (iI n)), (3, .int (iI f)), (4, .int (iI o)), (5, .int (iI w))] := hl
  have hnb := isPr_bd hvn
  have hfb := fOK_bd hvk hvn hvf
  refine lv_aload_n hx hb dX1_init_0 rfl (lv_at hl 0 rfl) ?_
  refine W.objInit hx hb hown (ht _ tb_131) (ht _ tb_18) (ht _ tb_19) rfl (by rw [hml]; exact hl.1) rfl dX1_init_1 (Nat.le_of_ble_eq_true rfl) (Nat.le_of_ble_eq_true rfl) ?_
  refine W.eq (g2 := F0 m 4 ls []) rfl ?_
  refine lv_aload_n hx hb dX1_init_4 rfl (lv_at hl 0 rfl) ?_
  refine lv_iload_n hx hb dX1_init_5 rfl (lv_at hl 1 rfl) ?_
  refine va_putF (D := D) (ci := 0) (v := .int (iI k)) (ty := tyX1 0) (C := RX1) (T := TX1) (N := 7) hx hb ht inTB_X1 tyX1 tyX1_ok nmX1 hown hK hP hD hS 0 rfl rfl 0 (by decide) (ht _ tb_141) (fun _ h9 => h9) rfl hin rfl (tyX1_ok 0 (by decide)) rfl rfl (Nat.le_of_ble_eq_true rfl) dX1_init_6 (fun H locs hP hD hS => ?_)
  have hP : va_P D classes ([(a, .inr (0, [.int (iI k), .int (iI 0), .int (iI 0), .int (iI 0), .int (iI 0), .int (iI 0), .null]))]) H := hP
  have hD : va_D A ([(a, .inr (0, [.int (iI k), .int (iI 0), .int (iI 0), .int (iI 0), .int (iI 0), .int (iI 0), .null]))]) := hD
  refine lv_aload_n hx hb dX1_init_9 rfl (lv_at hl 0 rfl) ?_
  refine lv_iload_n hx hb dX1_init_10 rfl (lv_at hl 2 rfl) ?_
  refine va_putF (D := D) (ci := 0) (v := .int (iI n)) (ty := tyX1 1) (C := RX1) (T := TX1) (N := 7) hx hb ht inTB_X1 tyX1 tyX1_ok nmX1 hown hK hP hD hS 0 rfl rfl 1 (by decide) (ht _ tb_143) (fun _ h9 => h9) rfl hin rfl (tyX1_ok 1 (by decide)) rfl rfl (Nat.le_of_ble_eq_true rfl) dX1_init_11 (fun H locs hP hD hS => ?_)
  have hP : va_P D classes ([(a, .inr (0, [.int (iI k), .int (iI n), .int (iI 0), .int (iI 0), .int (iI 0), .int (iI 0), .null]))]) H := hP
  have hD : va_D A ([(a, .inr (0, [.int (iI k), .int (iI n), .int (iI 0), .int (iI 0), .int (iI 0), .int (iI 0), .null]))]) := hD
  refine lv_aload_n hx hb dX1_init_14 rfl (lv_at hl 0 rfl) ?_
  refine lv_iload_n hx hb dX1_init_15 rfl (lv_at hl 3 rfl) ?_
  refine va_putF (D := D) (ci := 0) (v := .int (iI f)) (ty := tyX1 2) (C := RX1) (T := TX1) (N := 7) hx hb ht inTB_X1 tyX1 tyX1_ok nmX1 hown hK hP hD hS 0 rfl rfl 2 (by decide) (ht _ tb_145) (fun _ h9 => h9) rfl hin rfl (tyX1_ok 2 (by decide)) rfl rfl (Nat.le_of_ble_eq_true rfl) dX1_init_16 (fun H locs hP hD hS => ?_)
  have hP : va_P D classes ([(a, .inr (0, [.int (iI k), .int (iI n), .int (iI f), .int (iI 0), .int (iI 0), .int (iI 0), .null]))]) H := hP
  have hD : va_D A ([(a, .inr (0, [.int (iI k), .int (iI n), .int (iI f), .int (iI 0), .int (iI 0), .int (iI 0), .null]))]) := hD
  refine lv_aload_n hx hb dX1_init_19 rfl (lv_at hl 0 rfl) ?_
  refine lv_iload hx hb dX1_init_20 (lv_at hl 4 rfl) ?_
  refine va_putF (D := D) (ci := 0) (v := .int (iI o)) (ty := tyX1 3) (C := RX1) (T := TX1) (N := 7) hx hb ht inTB_X1 tyX1 tyX1_ok nmX1 hown hK hP hD hS 0 rfl rfl 3 (by decide) (ht _ tb_147) (fun _ h9 => h9) rfl hin rfl (tyX1_ok 3 (by decide)) rfl rfl (Nat.le_of_ble_eq_true rfl) dX1_init_22 (fun H locs hP hD hS => ?_)
  have hP : va_P D classes ([(a, .inr (0, [.int (iI k), .int (iI n), .int (iI f), .int (iI o), .int (iI 0), .int (iI 0), .null]))]) H := hP
  have hD : va_D A ([(a, .inr (0, [.int (iI k), .int (iI n), .int (iI f), .int (iI o), .int (iI 0), .int (iI 0), .null]))]) := hD
  refine lv_aload_n hx hb dX1_init_25 rfl (lv_at hl 0 rfl) ?_
  refine lv_iload hx hb dX1_init_26 (lv_at hl 5 rfl) ?_
  refine va_putF (D := D) (ci := 0) (v := .int (iI w)) (ty := tyX1 4) (C := RX1) (T := TX1) (N := 7) hx hb ht inTB_X1 tyX1 tyX1_ok nmX1 hown hK hP hD hS 0 rfl rfl 4 (by decide) (ht _ tb_150) (fun _ h9 => h9) rfl hin rfl (tyX1_ok 4 (by decide)) rfl rfl (Nat.le_of_ble_eq_true rfl) dX1_init_28 (fun H locs hP hD hS => ?_)
  have hP : va_P D classes ([(a, .inr (0, [.int (iI k), .int (iI n), .int (iI f), .int (iI o), .int (iI w), .int (iI 0), .null]))]) H := hP
  have hD : va_D A ([(a, .inr (0, [.int (iI k), .int (iI n), .int (iI f), .int (iI o), .int (iI w), .int (iI 0), .null]))]) := hD
  refine lv_aload_n hx hb dX1_init_31 rfl (lv_at hl 0 rfl) ?_
  refine lv_iload_n hx hb dX1_init_32 rfl (lv_at hl 1 rfl) ?_
  refine rv_iconst hx hb dX1_init_33 ?_
  refine rv_icmp_ne (tgt := 43) hx hb dX1_init_34 (by decide) (by omega) (fun h34 => ?_) (fun h34 => ?_)
  · refine lv_iload_n hx hb dX1_init_43 rfl (lv_at hl 2 rfl) ?_
    refine rv_top (y := (per k n)) (by rw [per, if_neg h34]) ?_
    refine va_putF (D := D) (ci := 0) (v := .int (iI (per k n))) (ty := tyX1 5) (C := RX1) (T := TX1) (N := 7) hx hb ht inTB_X1 tyX1 tyX1_ok nmX1 hown hK hP hD hS 0 rfl rfl 5 (by decide) (ht _ tb_154) (fun _ h9 => h9) rfl hin rfl (tyX1_ok 5 (by decide)) rfl rfl (Nat.le_of_ble_eq_true rfl) dX1_init_44 (fun H locs hP hD hS => ?_)
    have hP : va_P D classes ([(a, .inr (0, [.int (iI k), .int (iI n), .int (iI f), .int (iI o), .int (iI w), .int (iI (per k n)), .null]))]) H := hP
    have hD : va_D A ([(a, .inr (0, [.int (iI k), .int (iI n), .int (iI f), .int (iI o), .int (iI w), .int (iI (per k n)), .null]))]) := hD
    refine lv_aload_n hx hb dX1_init_47 rfl (lv_at hl 0 rfl) ?_
    refine lv_iload_n hx hb dX1_init_48 rfl (lv_at hl 1 rfl) ?_
    refine lv_iload_n hx hb dX1_init_49 rfl (lv_at hl 2 rfl) ?_
    refine lv_iload_n hx hb dX1_init_50 rfl (lv_at hl 3 rfl) ?_
    have hFc := va_free (wc := ([] : va_W)) hD hS hA [] rfl
    have hPc := hP.sub (ws' := ([] : va_W)) [] rfl
    have hDc := hD.sub (ws' := ([] : va_W)) [] (by decide) rfl
    refine va_callr (va_runS (As := [.int (iI k), .int (iI n), .int (iI f)]) (rest := [.ref a]) ⟨hx, hb, hml, hown, hts⟩ (c_X1_rowOf l D cs H.size k n f hvk hvn hvf) (va_cwS 3 hts (gS tb_132 tb_133 tb_5 tb_134) rfl rfl rfl (by decide +kernel) ⟨Nat.le_of_ble_eq_true rfl, Nat.le_of_ble_eq_true rfl⟩) (preS_M (X := fun _ _ => True) Stb_T hK hPc hDc trivial) rfl rfl hl.1 rfl (lv_room (Nat.le_of_ble_eq_true rfl)) dX1_init_51 ⟨Nat.le_of_ble_eq_true rfl, Nat.le_of_ble_eq_true rfl⟩) hS (fun q _ h => hFc q h) hFc (fun u9 r51 t9 H9 locs ht9 hvm9 hw9 hB9 hz9 hk9 hS => ?_)
    obtain ⟨row_51, hf51_0, hP1, hD1⟩ := hB9
    rw [ht9] at hP1
    obtain ⟨hPj, hDj⟩ := va_join (wr := [_]) hP hD [] [0] rfl rfl (by decide) (by decide) hk9 hFc hP1 hD1
    generalize H9 = H at *
    have hP : va_P D classes ([(a, .inr (0, [.int (iI k), .int (iI n), .int (iI f), .int (iI o), .int (iI w), .int (iI (per k n)), .null])), (r51, iaC cs 31 row_51)]) H := hPj
    have hD : va_D A ([(a, .inr (0, [.int (iI k), .int (iI n), .int (iI f), .int (iI o), .int (iI w), .int (iI (per k n)), .null])), (r51, iaC cs 31 row_51)]) := hDj
    refine va_putF (D := D) (ci := 0) (v := .ref r51) (ty := tyX1 6) (C := RX1) (T := TX1) (N := 7) hx hb ht inTB_X1 tyX1 tyX1_ok nmX1 hown hK hP hD hS 0 rfl rfl 6 (by decide) (ht _ tb_156) (fun _ h9 => h9) rfl hin rfl (tyX1_ok 6 (by decide)) rfl rfl (Nat.le_of_ble_eq_true rfl) dX1_init_54 (fun H locs hP hD hS => ?_)
    have hP : va_P D classes ([(a, .inr (0, [.int (iI k), .int (iI n), .int (iI f), .int (iI o), .int (iI w), .int (iI (per k n)), .ref r51])), (r51, iaC cs 31 row_51)]) H := hP
    have hD : va_D A ([(a, .inr (0, [.int (iI k), .int (iI n), .int (iI f), .int (iI o), .int (iI w), .int (iI (per k n)), .ref r51])), (r51, iaC cs 31 row_51)]) := hD
    subst hQ
    exact W.vret hx hb hr (fun t9 ht9 hW9 => ⟨⟨(), rfl, trivial, ⟨r51, row_51, hf51_0, by rw [ht9]; exact hP, by rw [hAe]; exact hD⟩⟩, by rw [hAe]; exact hS.F ht9⟩) (by rw [hAe]; exact hS.2.2) dX1_init_57
  · refine lv_iload_n hx hb dX1_init_37 rfl (lv_at hl 2 rfl) ?_
    refine rv_iconst hx hb dX1_init_38 ?_
    refine rv_isub hx hb dX1_init_39 ?_
    refine lv_goto (tgt := 44) hx hb dX1_init_40 (by decide) ?_
    refine rv_top (y := (per k n)) (by rw [per, if_pos h34]) ?_
    refine va_putF (D := D) (ci := 0) (v := .int (iI (per k n))) (ty := tyX1 5) (C := RX1) (T := TX1) (N := 7) hx hb ht inTB_X1 tyX1 tyX1_ok nmX1 hown hK hP hD hS 0 rfl rfl 5 (by decide) (ht _ tb_154) (fun _ h9 => h9) rfl hin rfl (tyX1_ok 5 (by decide)) rfl rfl (Nat.le_of_ble_eq_true rfl) dX1_init_44 (fun H locs hP hD hS => ?_)
    have hP : va_P D classes ([(a, .inr (0, [.int (iI k), .int (iI n), .int (iI f), .int (iI o), .int (iI w), .int (iI (per k n)), .null]))]) H := hP
    have hD : va_D A ([(a, .inr (0, [.int (iI k), .int (iI n), .int (iI f), .int (iI o), .int (iI w), .int (iI (per k n)), .null]))]) := hD
    refine lv_aload_n hx hb dX1_init_47 rfl (lv_at hl 0 rfl) ?_
    refine lv_iload_n hx hb dX1_init_48 rfl (lv_at hl 1 rfl) ?_
    refine lv_iload_n hx hb dX1_init_49 rfl (lv_at hl 2 rfl) ?_
    refine lv_iload_n hx hb dX1_init_50 rfl (lv_at hl 3 rfl) ?_
    have hFc := va_free (wc := ([] : va_W)) hD hS hA [] rfl
    have hPc := hP.sub (ws' := ([] : va_W)) [] rfl
    have hDc := hD.sub (ws' := ([] : va_W)) [] (by decide) rfl
    refine va_callr (va_runS (As := [.int (iI k), .int (iI n), .int (iI f)]) (rest := [.ref a]) ⟨hx, hb, hml, hown, hts⟩ (c_X1_rowOf l D cs H.size k n f hvk hvn hvf) (va_cwS 3 hts (gS tb_132 tb_133 tb_5 tb_134) rfl rfl rfl (by decide +kernel) ⟨Nat.le_of_ble_eq_true rfl, Nat.le_of_ble_eq_true rfl⟩) (preS_M (X := fun _ _ => True) Stb_T hK hPc hDc trivial) rfl rfl hl.1 rfl (lv_room (Nat.le_of_ble_eq_true rfl)) dX1_init_51 ⟨Nat.le_of_ble_eq_true rfl, Nat.le_of_ble_eq_true rfl⟩) hS (fun q _ h => hFc q h) hFc (fun u9 r51 t9 H9 locs ht9 hvm9 hw9 hB9 hz9 hk9 hS => ?_)
    obtain ⟨row_51, hf51_0, hP1, hD1⟩ := hB9
    rw [ht9] at hP1
    obtain ⟨hPj, hDj⟩ := va_join (wr := [_]) hP hD [] [0] rfl rfl (by decide) (by decide) hk9 hFc hP1 hD1
    generalize H9 = H at *
    have hP : va_P D classes ([(a, .inr (0, [.int (iI k), .int (iI n), .int (iI f), .int (iI o), .int (iI w), .int (iI (per k n)), .null])), (r51, iaC cs 31 row_51)]) H := hPj
    have hD : va_D A ([(a, .inr (0, [.int (iI k), .int (iI n), .int (iI f), .int (iI o), .int (iI w), .int (iI (per k n)), .null])), (r51, iaC cs 31 row_51)]) := hDj
    refine va_putF (D := D) (ci := 0) (v := .ref r51) (ty := tyX1 6) (C := RX1) (T := TX1) (N := 7) hx hb ht inTB_X1 tyX1 tyX1_ok nmX1 hown hK hP hD hS 0 rfl rfl 6 (by decide) (ht _ tb_156) (fun _ h9 => h9) rfl hin rfl (tyX1_ok 6 (by decide)) rfl rfl (Nat.le_of_ble_eq_true rfl) dX1_init_54 (fun H locs hP hD hS => ?_)
    have hP : va_P D classes ([(a, .inr (0, [.int (iI k), .int (iI n), .int (iI f), .int (iI o), .int (iI w), .int (iI (per k n)), .ref r51])), (r51, iaC cs 31 row_51)]) H := hP
    have hD : va_D A ([(a, .inr (0, [.int (iI k), .int (iI n), .int (iI f), .int (iI o), .int (iI w), .int (iI (per k n)), .ref r51])), (r51, iaC cs 31 row_51)]) := hD
    subst hQ
    exact W.vret hx hb hr (fun t9 ht9 hW9 => ⟨⟨(), rfl, trivial, ⟨r51, row_51, hf51_0, by rw [ht9]; exact hP, by rw [hAe]; exact hD⟩⟩, by rw [hAe]; exact hS.F ht9⟩) (by rw [hAe]; exact hS.2.2) dX1_init_57

abbrev rm_X1_withMeasure : Room := { frames := 3, cells := 2, slots := 38, locals := 73 }
set_option maxHeartbeats 8000000 in
set_option maxRecDepth 100000 in
/-- withMeasure -/
theorem c_X1_withMeasure (l : Launch) (D : va_G) (cs : Nat → ClassId) (sz : Nat) (M : Nat → Prop) (a : Nat) (k : Int) (n : Int) (f : Int) (o : Int) (w : Int) (what : Int) (x : Int) (hw : 0 ≤ what ∧ what ≤ 2) (hvP : vP k n (if what = 0 then x else f) (if what = 1 then x else o) (if what = 2 then x else w)) : Met l yX1_withMeasure (Cond.code yX1_withMeasure cX1_withMeasure 3 (some (.object "SoundWells$Panel")) :: TB) rm_X1_withMeasure (va_Pc [.ref a, .int (iI what), .int (iI x)] (MPre D cs sz ([] : va_W) (fun U H => (∀ q, M q → q < H.size) ∧ PanelAt D cs M H a k n f o w))) (va_Qr (fun _ : Unit => True) (fun _ r t => (PanelAt D cs M t.heap r k n (if what = 0 then x else f) (if what = 1 then x else o) (if what = 2 then x else w)) ∧ va_P D classes ([] : va_W) t.heap ∧ va_D (va_A ([] : va_W) sz) ([] : va_W)) (va_A ([] : va_W) sz)) 2 38 (va_A ([] : va_W) sz) := by
  refine enter (cc := cX1_withMeasure) (maxL := 3) (ret := (some (.object "SoundWells$Panel"))) (by decide) (Nat.le_of_ble_eq_true rfl) ?_
  intro pg ev s m below meth c Q ls hx hb hml hown hts hr hlocks hnm ⟨hsz, hP, hD0, hK, hX0⟩ hl hQ
  have ht : ∀ w ∈ TB, w.before _ s = true := fun w h => hts w (List.mem_cons_of_mem _ h)
  subst hsz
  have hD := hD0.self (sz := s.heap.size)
  obtain ⟨A, hAe⟩ : ∃ A, va_A ([] : va_W) s.heap.size = A := ⟨_, rfl⟩
  rw [hAe] at hD
  have hA : ∀ q : Nat, s.heap.size ≤ q → A q := fun q h => by rw [← hAe]; exact Or.inr h
  obtain ⟨H, hH⟩ : ∃ H, H = s.heap := ⟨_, rfl⟩
  obtain ⟨locs, hlocs⟩ : ∃ locs : List Loc, locs = [] := ⟨_, rfl⟩
  have hS : va_S A s.heap H locs := by rw [hH, hlocs]; exact va_S.rf
  rw [← hH] at hP
  suffices hgo : W pg l ev rm_X1_withMeasure s m [.ref a, .int (iI what), .int (iI x)].toArray below meth c H locs 0 0 Q (F0 m 0 ls []) by rw [hH, hlocs] at hgo; exact hgo
  have hl : lv_has ls 3 [(0, .ref a), (1, .int (iI what)), (2, .int (iI x))] := hl
  have hpv := hX0.2.1
  refine lv_iload_n hx hb dX1_withMeasure_0 rfl (lv_at hl 1 rfl) ?_
  by_cases hc0 : what = 0
  · refine rv_top (y := 0) hc0 ?_
    refine lv_lookup (tgt := 28) hx hb dX1_withMeasure_1 (by decide) rfl (by decide) ?_
    refine va_new (ci := 0) (fs := [.int (iI 0), .int (iI 0), .int (iI 0), .int (iI 0), .int (iI 0), .int (iI 0), .null]) (C := RX1) (T := TX1) (N := 7) hx hb ht inTB_X1 tyX1 tyX1_ok hown (ht _ tb_333) (ht _ tb_127) (ht _ tb_5) hK hP hD hS hA rfl (fun j hj => by rcases (show j = 0 ∨ j = 1 ∨ j = 2 ∨ j = 3 ∨ j = 4 ∨ j = 5 ∨ j = 6 by omega) with rfl | rfl | rfl | rfl | rfl | rfl | rfl <;> rfl) (Nat.le_of_ble_eq_true rfl) (Nat.le_of_ble_eq_true rfl) dX1_withMeasure_28 (fun q28 H hP hD hS => ?_)
    have hP : va_P D classes ([(q28, .inr (0, [.int (iI 0), .int (iI 0), .int (iI 0), .int (iI 0), .int (iI 0), .int (iI 0), .null]))]) H := hP
    have hD : va_D A ([(q28, .inr (0, [.int (iI 0), .int (iI 0), .int (iI 0), .int (iI 0), .int (iI 0), .int (iI 0), .null]))]) := hD
    refine lv_dup hx hb dX1_withMeasure_31 rfl ?_
    obtain ⟨_, r0, row0, hPn, _, _, _⟩ := PanelAt.inS hX0.2 Mw_nil hAe hS
    refine lv_aload_n hx hb dX1_withMeasure_32 rfl (lv_at hl 0 rfl) ?_
    refine va_get (D := D) (ci := 0) (v := .int (iI k)) (C := RX1) (T := TX1) (N := 7) hx hb ht inTB_X1 hown hK hPn 0 rfl rfl 0 (by decide) (ht _ tb_141) (fun _ h9 => h9) rfl dX1_withMeasure_33 ?_
    refine lv_aload_n hx hb dX1_withMeasure_36 rfl (lv_at hl 0 rfl) ?_
    refine va_get (D := D) (ci := 0) (v := .int (iI n)) (C := RX1) (T := TX1) (N := 7) hx hb ht inTB_X1 hown hK hPn 0 rfl rfl 1 (by decide) (ht _ tb_143) (fun _ h9 => h9) rfl dX1_withMeasure_37 ?_
    refine lv_iload_n hx hb dX1_withMeasure_40 rfl (lv_at hl 2 rfl) ?_
    refine lv_aload_n hx hb dX1_withMeasure_41 rfl (lv_at hl 0 rfl) ?_
    refine va_get (D := D) (ci := 0) (v := .int (iI o)) (C := RX1) (T := TX1) (N := 7) hx hb ht inTB_X1 hown hK hPn 0 rfl rfl 3 (by decide) (ht _ tb_147) (fun _ h9 => h9) rfl dX1_withMeasure_42 ?_
    refine lv_aload_n hx hb dX1_withMeasure_45 rfl (lv_at hl 0 rfl) ?_
    refine va_get (D := D) (ci := 0) (v := .int (iI w)) (C := RX1) (T := TX1) (N := 7) hx hb ht inTB_X1 hown hK hPn 0 rfl rfl 4 (by decide) (ht _ tb_150) (fun _ h9 => h9) rfl dX1_withMeasure_46 ?_
    have hFc := va_free (wc := [(q28, .inr (0, [.int (iI 0), .int (iI 0), .int (iI 0), .int (iI 0), .int (iI 0), .int (iI 0), .null]))]) hD hS hA [0] rfl
    have hPc := hP.sub (ws' := [(q28, .inr (0, [.int (iI 0), .int (iI 0), .int (iI 0), .int (iI 0), .int (iI 0), .int (iI 0), .null]))]) [0] rfl
    have hDc := hD.sub (ws' := [(q28, .inr (0, [.int (iI 0), .int (iI 0), .int (iI 0), .int (iI 0), .int (iI 0), .int (iI 0), .null]))]) [0] (by decide) rfl
    refine va_callv (va_runI (As := [.int (iI k), .int (iI n), .int (iI x), .int (iI o), .int (iI w)]) (rest := [.ref q28]) ⟨hx, hb, hml, hown, hts⟩ (c_X1_init l D cs H.size q28 k n x o w hvP.1 hvP.2.1 (by have h3 := hvP.2.2.1; rw [if_pos hc0] at h3; exact h3)) (cwI 5 hts (gTB tb_130) rfl rfl rfl (ht _ tb_5) (ht _ tb_334) (ht _ tb_129) rfl (by decide +kernel) ⟨Nat.le_of_ble_eq_true rfl, Nat.le_of_ble_eq_true rfl⟩) (preS_M (X := fun _ _ => True) Stb_T hK hPc hDc trivial) rfl rfl hl.1 rfl (lv_room (Nat.le_of_ble_eq_true rfl)) dX1_withMeasure_49 ⟨Nat.le_of_ble_eq_true rfl, Nat.le_of_ble_eq_true rfl⟩) hS (fun q _ h => hFc q h) hFc (fun u9 t9 H9 locs ht9 hvm9 hw9 hB9 hz9 hk9 hS => ?_)
    obtain ⟨rr_49, row_49, hf49_0, hP1, hD1⟩ := hB9
    rw [ht9] at hP1
    obtain ⟨hPj, hDj⟩ := va_join (wr := []) hP hD [0] [] rfl rfl (by decide) (by decide) hk9 hFc hP1 hD1
    generalize H9 = H at *
    have hP : va_P D classes ([(q28, .inr (0, [.int (iI k), .int (iI n), .int (iI x), .int (iI o), .int (iI w), .int (iI (per k n)), .ref rr_49])), (rr_49, iaC cs 31 row_49)]) H := hPj
    have hD : va_D A ([(q28, .inr (0, [.int (iI k), .int (iI n), .int (iI x), .int (iI o), .int (iI w), .int (iI (per k n)), .ref rr_49])), (rr_49, iaC cs 31 row_49)]) := hDj
    subst hQ
    exact W.aret (v := .ref q28) hx hb hr (Or.inl ⟨_, rfl⟩) (Or.inr ⟨_, rfl⟩) (fun t9 ht9 hW9 => ⟨⟨(), _, rfl, trivial, ⟨by rw [ht9]; rw [if_pos hc0, if_neg (show ¬ what = 1 by omega), if_neg (show ¬ what = 2 by omega)] at hvP ⊢; exact ⟨hvP, rr_49, row_49, hP, newM hAe hX0.1 (hD.2 0 _ rfl), newM hAe hX0.1 (hD.2 1 _ rfl), hf49_0⟩, by rw [ht9]; exact hP.sub [] rfl, by rw [hAe]; exact hD.sub [] (by decide) rfl⟩⟩, by rw [hAe]; exact hS.F ht9⟩) (by rw [hAe]; exact hS.2.2) dX1_withMeasure_52
  by_cases hc1 : what = 1
  · refine rv_top (y := 1) hc1 ?_
    refine lv_lookup (tgt := 53) hx hb dX1_withMeasure_1 (by decide) rfl (by decide) ?_
    refine va_new (ci := 0) (fs := [.int (iI 0), .int (iI 0), .int (iI 0), .int (iI 0), .int (iI 0), .int (iI 0), .null]) (C := RX1) (T := TX1) (N := 7) hx hb ht inTB_X1 tyX1 tyX1_ok hown (ht _ tb_333) (ht _ tb_127) (ht _ tb_5) hK hP hD hS hA rfl (fun j hj => by rcases (show j = 0 ∨ j = 1 ∨ j = 2 ∨ j = 3 ∨ j = 4 ∨ j = 5 ∨ j = 6 by omega) with rfl | rfl | rfl | rfl | rfl | rfl | rfl <;> rfl) (Nat.le_of_ble_eq_true rfl) (Nat.le_of_ble_eq_true rfl) dX1_withMeasure_53 (fun q53 H hP hD hS => ?_)
    have hP : va_P D classes ([(q53, .inr (0, [.int (iI 0), .int (iI 0), .int (iI 0), .int (iI 0), .int (iI 0), .int (iI 0), .null]))]) H := hP
    have hD : va_D A ([(q53, .inr (0, [.int (iI 0), .int (iI 0), .int (iI 0), .int (iI 0), .int (iI 0), .int (iI 0), .null]))]) := hD
    refine lv_dup hx hb dX1_withMeasure_56 rfl ?_
    obtain ⟨_, r0, row0, hPn, _, _, _⟩ := PanelAt.inS hX0.2 Mw_nil hAe hS
    refine lv_aload_n hx hb dX1_withMeasure_57 rfl (lv_at hl 0 rfl) ?_
    refine va_get (D := D) (ci := 0) (v := .int (iI k)) (C := RX1) (T := TX1) (N := 7) hx hb ht inTB_X1 hown hK hPn 0 rfl rfl 0 (by decide) (ht _ tb_141) (fun _ h9 => h9) rfl dX1_withMeasure_58 ?_
    refine lv_aload_n hx hb dX1_withMeasure_61 rfl (lv_at hl 0 rfl) ?_
    refine va_get (D := D) (ci := 0) (v := .int (iI n)) (C := RX1) (T := TX1) (N := 7) hx hb ht inTB_X1 hown hK hPn 0 rfl rfl 1 (by decide) (ht _ tb_143) (fun _ h9 => h9) rfl dX1_withMeasure_62 ?_
    refine lv_aload_n hx hb dX1_withMeasure_65 rfl (lv_at hl 0 rfl) ?_
    refine va_get (D := D) (ci := 0) (v := .int (iI f)) (C := RX1) (T := TX1) (N := 7) hx hb ht inTB_X1 hown hK hPn 0 rfl rfl 2 (by decide) (ht _ tb_145) (fun _ h9 => h9) rfl dX1_withMeasure_66 ?_
    refine lv_iload_n hx hb dX1_withMeasure_69 rfl (lv_at hl 2 rfl) ?_
    refine lv_aload_n hx hb dX1_withMeasure_70 rfl (lv_at hl 0 rfl) ?_
    refine va_get (D := D) (ci := 0) (v := .int (iI w)) (C := RX1) (T := TX1) (N := 7) hx hb ht inTB_X1 hown hK hPn 0 rfl rfl 4 (by decide) (ht _ tb_150) (fun _ h9 => h9) rfl dX1_withMeasure_71 ?_
    have hFc := va_free (wc := [(q53, .inr (0, [.int (iI 0), .int (iI 0), .int (iI 0), .int (iI 0), .int (iI 0), .int (iI 0), .null]))]) hD hS hA [0] rfl
    have hPc := hP.sub (ws' := [(q53, .inr (0, [.int (iI 0), .int (iI 0), .int (iI 0), .int (iI 0), .int (iI 0), .int (iI 0), .null]))]) [0] rfl
    have hDc := hD.sub (ws' := [(q53, .inr (0, [.int (iI 0), .int (iI 0), .int (iI 0), .int (iI 0), .int (iI 0), .int (iI 0), .null]))]) [0] (by decide) rfl
    refine va_callv (va_runI (As := [.int (iI k), .int (iI n), .int (iI f), .int (iI x), .int (iI w)]) (rest := [.ref q53]) ⟨hx, hb, hml, hown, hts⟩ (c_X1_init l D cs H.size q53 k n f x w hvP.1 hvP.2.1 (by have h3 := hvP.2.2.1; rw [if_neg hc0] at h3; exact h3)) (cwI 5 hts (gTB tb_130) rfl rfl rfl (ht _ tb_5) (ht _ tb_334) (ht _ tb_129) rfl (by decide +kernel) ⟨Nat.le_of_ble_eq_true rfl, Nat.le_of_ble_eq_true rfl⟩) (preS_M (X := fun _ _ => True) Stb_T hK hPc hDc trivial) rfl rfl hl.1 rfl (lv_room (Nat.le_of_ble_eq_true rfl)) dX1_withMeasure_74 ⟨Nat.le_of_ble_eq_true rfl, Nat.le_of_ble_eq_true rfl⟩) hS (fun q _ h => hFc q h) hFc (fun u9 t9 H9 locs ht9 hvm9 hw9 hB9 hz9 hk9 hS => ?_)
    obtain ⟨rr_74, row_74, hf74_0, hP1, hD1⟩ := hB9
    rw [ht9] at hP1
    obtain ⟨hPj, hDj⟩ := va_join (wr := []) hP hD [0] [] rfl rfl (by decide) (by decide) hk9 hFc hP1 hD1
    generalize H9 = H at *
    have hP : va_P D classes ([(q53, .inr (0, [.int (iI k), .int (iI n), .int (iI f), .int (iI x), .int (iI w), .int (iI (per k n)), .ref rr_74])), (rr_74, iaC cs 31 row_74)]) H := hPj
    have hD : va_D A ([(q53, .inr (0, [.int (iI k), .int (iI n), .int (iI f), .int (iI x), .int (iI w), .int (iI (per k n)), .ref rr_74])), (rr_74, iaC cs 31 row_74)]) := hDj
    subst hQ
    exact W.aret (v := .ref q53) hx hb hr (Or.inl ⟨_, rfl⟩) (Or.inr ⟨_, rfl⟩) (fun t9 ht9 hW9 => ⟨⟨(), _, rfl, trivial, ⟨by rw [ht9]; rw [if_neg hc0, if_pos hc1, if_neg (show ¬ what = 2 by omega)] at hvP ⊢; exact ⟨hvP, rr_74, row_74, hP, newM hAe hX0.1 (hD.2 0 _ rfl), newM hAe hX0.1 (hD.2 1 _ rfl), hf74_0⟩, by rw [ht9]; exact hP.sub [] rfl, by rw [hAe]; exact hD.sub [] (by decide) rfl⟩⟩, by rw [hAe]; exact hS.F ht9⟩) (by rw [hAe]; exact hS.2.2) dX1_withMeasure_77
  refine lv_lookup (tgt := 78) (off := 77) hx hb dX1_withMeasure_1 (by decide) (by rw [iI_toInt (by omega)]; show Op.lookupswitch.offset [(0, 27), (1, 52)] 77 _ = 77; rw [Op.lookupswitch.offset_cons, if_neg (by omega), Op.lookupswitch.offset_cons, if_neg (by omega)]; rfl) (by decide) ?_
  refine va_new (ci := 0) (fs := [.int (iI 0), .int (iI 0), .int (iI 0), .int (iI 0), .int (iI 0), .int (iI 0), .null]) (C := RX1) (T := TX1) (N := 7) hx hb ht inTB_X1 tyX1 tyX1_ok hown (ht _ tb_333) (ht _ tb_127) (ht _ tb_5) hK hP hD hS hA rfl (fun j hj => by rcases (show j = 0 ∨ j = 1 ∨ j = 2 ∨ j = 3 ∨ j = 4 ∨ j = 5 ∨ j = 6 by omega) with rfl | rfl | rfl | rfl | rfl | rfl | rfl <;> rfl) (Nat.le_of_ble_eq_true rfl) (Nat.le_of_ble_eq_true rfl) dX1_withMeasure_78 (fun q78 H hP hD hS => ?_)
  have hP : va_P D classes ([(q78, .inr (0, [.int (iI 0), .int (iI 0), .int (iI 0), .int (iI 0), .int (iI 0), .int (iI 0), .null]))]) H := hP
  have hD : va_D A ([(q78, .inr (0, [.int (iI 0), .int (iI 0), .int (iI 0), .int (iI 0), .int (iI 0), .int (iI 0), .null]))]) := hD
  refine lv_dup hx hb dX1_withMeasure_81 rfl ?_
  obtain ⟨_, r0, row0, hPn, _, _, _⟩ := PanelAt.inS hX0.2 Mw_nil hAe hS
  refine lv_aload_n hx hb dX1_withMeasure_82 rfl (lv_at hl 0 rfl) ?_
  refine va_get (D := D) (ci := 0) (v := .int (iI k)) (C := RX1) (T := TX1) (N := 7) hx hb ht inTB_X1 hown hK hPn 0 rfl rfl 0 (by decide) (ht _ tb_141) (fun _ h9 => h9) rfl dX1_withMeasure_83 ?_
  refine lv_aload_n hx hb dX1_withMeasure_86 rfl (lv_at hl 0 rfl) ?_
  refine va_get (D := D) (ci := 0) (v := .int (iI n)) (C := RX1) (T := TX1) (N := 7) hx hb ht inTB_X1 hown hK hPn 0 rfl rfl 1 (by decide) (ht _ tb_143) (fun _ h9 => h9) rfl dX1_withMeasure_87 ?_
  refine lv_aload_n hx hb dX1_withMeasure_90 rfl (lv_at hl 0 rfl) ?_
  refine va_get (D := D) (ci := 0) (v := .int (iI f)) (C := RX1) (T := TX1) (N := 7) hx hb ht inTB_X1 hown hK hPn 0 rfl rfl 2 (by decide) (ht _ tb_145) (fun _ h9 => h9) rfl dX1_withMeasure_91 ?_
  refine lv_aload_n hx hb dX1_withMeasure_94 rfl (lv_at hl 0 rfl) ?_
  refine va_get (D := D) (ci := 0) (v := .int (iI o)) (C := RX1) (T := TX1) (N := 7) hx hb ht inTB_X1 hown hK hPn 0 rfl rfl 3 (by decide) (ht _ tb_147) (fun _ h9 => h9) rfl dX1_withMeasure_95 ?_
  refine lv_iload_n hx hb dX1_withMeasure_98 rfl (lv_at hl 2 rfl) ?_
  have hFc := va_free (wc := [(q78, .inr (0, [.int (iI 0), .int (iI 0), .int (iI 0), .int (iI 0), .int (iI 0), .int (iI 0), .null]))]) hD hS hA [0] rfl
  have hPc := hP.sub (ws' := [(q78, .inr (0, [.int (iI 0), .int (iI 0), .int (iI 0), .int (iI 0), .int (iI 0), .int (iI 0), .null]))]) [0] rfl
  have hDc := hD.sub (ws' := [(q78, .inr (0, [.int (iI 0), .int (iI 0), .int (iI 0), .int (iI 0), .int (iI 0), .int (iI 0), .null]))]) [0] (by decide) rfl
  refine va_callv (va_runI (As := [.int (iI k), .int (iI n), .int (iI f), .int (iI o), .int (iI x)]) (rest := [.ref q78]) ⟨hx, hb, hml, hown, hts⟩ (c_X1_init l D cs H.size q78 k n f o x hvP.1 hvP.2.1 (by have h3 := hvP.2.2.1; rw [if_neg hc0] at h3; exact h3)) (cwI 5 hts (gTB tb_130) rfl rfl rfl (ht _ tb_5) (ht _ tb_334) (ht _ tb_129) rfl (by decide +kernel) ⟨Nat.le_of_ble_eq_true rfl, Nat.le_of_ble_eq_true rfl⟩) (preS_M (X := fun _ _ => True) Stb_T hK hPc hDc trivial) rfl rfl hl.1 rfl (lv_room (Nat.le_of_ble_eq_true rfl)) dX1_withMeasure_99 ⟨Nat.le_of_ble_eq_true rfl, Nat.le_of_ble_eq_true rfl⟩) hS (fun q _ h => hFc q h) hFc (fun u9 t9 H9 locs ht9 hvm9 hw9 hB9 hz9 hk9 hS => ?_)
  obtain ⟨rr_99, row_99, hf99_0, hP1, hD1⟩ := hB9
  rw [ht9] at hP1
  obtain ⟨hPj, hDj⟩ := va_join (wr := []) hP hD [0] [] rfl rfl (by decide) (by decide) hk9 hFc hP1 hD1
  generalize H9 = H at *
  have hP : va_P D classes ([(q78, .inr (0, [.int (iI k), .int (iI n), .int (iI f), .int (iI o), .int (iI x), .int (iI (per k n)), .ref rr_99])), (rr_99, iaC cs 31 row_99)]) H := hPj
  have hD : va_D A ([(q78, .inr (0, [.int (iI k), .int (iI n), .int (iI f), .int (iI o), .int (iI x), .int (iI (per k n)), .ref rr_99])), (rr_99, iaC cs 31 row_99)]) := hDj
  subst hQ
  exact W.aret (v := .ref q78) hx hb hr (Or.inl ⟨_, rfl⟩) (Or.inr ⟨_, rfl⟩) (fun t9 ht9 hW9 => ⟨⟨(), _, rfl, trivial, ⟨by rw [ht9]; rw [if_neg hc0, if_neg hc1, if_pos (show what = 2 by omega)] at hvP ⊢; exact ⟨hvP, rr_99, row_99, hP, newM hAe hX0.1 (hD.2 0 _ rfl), newM hAe hX0.1 (hD.2 1 _ rfl), hf99_0⟩, by rw [ht9]; exact hP.sub [] rfl, by rw [hAe]; exact hD.sub [] (by decide) rfl⟩⟩, by rw [hAe]; exact hS.F ht9⟩) (by rw [hAe]; exact hS.2.2) dX1_withMeasure_102

abbrev rm_J7_fill_53178 : Room := { frames := 0, cells := 0, slots := 0, locals := 0 }
set_option maxHeartbeats 8000000 in
set_option maxRecDepth 100000 in
/-- Arrays.fill -/
theorem c_J7_fill_53178 (l : Launch) (D : va_G) (cs : Nat → ClassId) (sz : Nat) (a : Nat) (N : Nat) (F : Nat → Int) (x : Int) (hN : N < 100000) : Met l yJ7_fill_53178 (Cond.code yJ7_fill_53178 cJ7_fill_53178 4 none :: TB) rm_J7_fill_53178 (va_Pc [.ref a, .int (iI x)] (MPre D cs sz [(a, iaC cs N F)] (fun _ _ => True))) (va_Qv (fun _ : Unit => True) (fun _ t => ∃ (F2 : Nat → Int), (∀ i : Nat, i < N → F2 i = x) ∧ va_P D classes [(a, iaC cs N F2)] t.heap ∧ va_D (va_A [(a, iaC cs N F)] sz) [(a, iaC cs N F2)]) (va_A [(a, iaC cs N F)] sz)) 0 0 (va_A [(a, iaC cs N F)] sz) := by
  refine enter (cc := cJ7_fill_53178) (maxL := 4) (ret := none) (by decide) (Nat.le_of_ble_eq_true rfl) ?_
  intro pg ev s m below meth c Q ls hx hb hml hown hts hr hlocks hnm ⟨hsz, hP, hD0, hK, hX0⟩ hl hQ
  have ht : ∀ w ∈ TB, w.before _ s = true := fun w h => hts w (List.mem_cons_of_mem _ h)
  subst hsz
  have hD := hD0.self (sz := s.heap.size)
  obtain ⟨A, hAe⟩ : ∃ A, va_A [(a, iaC cs N F)] s.heap.size = A := ⟨_, rfl⟩
  rw [hAe] at hD
  have hA : ∀ q : Nat, s.heap.size ≤ q → A q := fun q h => by rw [← hAe]; exact Or.inr h
  obtain ⟨H, hH⟩ : ∃ H, H = s.heap := ⟨_, rfl⟩
  obtain ⟨locs, hlocs⟩ : ∃ locs : List Loc, locs = [] := ⟨_, rfl⟩
  have hS : va_S A s.heap H locs := by rw [hH, hlocs]; exact va_S.rf
  rw [← hH] at hP
  suffices hgo : W pg l ev rm_J7_fill_53178 s m [.ref a, .int (iI x)].toArray below meth c H locs 0 0 Q (F0 m 0 ls []) by rw [hH, hlocs] at hgo; exact hgo
  have hl : lv_has ls 4 [(0, .ref a), (1, .int (iI x))] := hl
  refine rv_iconst hx hb dJ7_fill_53178_0 ?_
  refine lv_istore_n (lv' := [(2, .int (iI 0)), (0, .ref a), (1, .int (iI x))]) hx hb dJ7_fill_53178_1 rfl hl (by decide) rfl (fun ls hl => ?_)
  refine lv_aload_n hx hb dJ7_fill_53178_2 rfl (lv_at hl 1 rfl) ?_
  refine rv_alen hx hb hK hP 0 0 rfl rfl dJ7_fill_53178_3 ?_
  refine lv_istore_n (lv' := [(3, .int (iI ((N : Nat) : Int))), (2, .int (iI 0)), (0, .ref a), (1, .int (iI x))]) hx hb dJ7_fill_53178_4 rfl hl (by decide) rfl (fun ls hl => ?_)
  have loop5 : ∀ (fuel5 : Nat) (i : Nat) (B : Nat → Int), (i ≤ N) → (∀ j : Nat, j < i → B j = x) → N - i < fuel5 → ∀ (x2 : Int), x2 = (i : Int) → ∀ (H : Heap) (locs : List Loc), va_P D classes ([(a, iaC cs N B)]) H → va_D A ([(a, iaC cs N B)]) → va_S A s.heap H locs → ∀ ls : Array Slot, lv_has ls 4 [(0, .ref a), (1, .int (iI x)), (2, .int (iI x2)), (3, .int (iI ((N : Nat) : Int)))] → W pg l ev rm_J7_fill_53178 s m [.ref a, .int (iI x)].toArray below meth c H locs 0 0 Q (F0 m 5 ls []) := by
    intro fuel5
    induction fuel5 with
    | zero => intro i B hi hq hfuel5; exact absurd hfuel5 (Nat.not_lt_zero _)
    | succ fuel5 ih5 =>
      intro i B hi hq hfuel5 x2 ex2 H locs hP hD hS ls hl
      subst ex2
      refine lv_iload_n hx hb dJ7_fill_53178_5 rfl (lv_at hl 2 rfl) ?_
      refine lv_iload_n hx hb dJ7_fill_53178_6 rfl (lv_at hl 3 rfl) ?_
      refine rv_icmp_ge (tgt := 20) hx hb dJ7_fill_53178_7 (by decide) (by omega) (fun h7 => ?_) (fun h7 => ?_)
      · subst hQ
        exact W.vret hx hb hr (fun t9 ht9 hW9 => ⟨⟨(), rfl, trivial, ⟨B, fun j h => hq j (by omega), by rw [ht9]; exact hP, by rw [hAe]; exact hD⟩⟩, by rw [hAe]; exact hS.F ht9⟩) (by rw [hAe]; exact hS.2.2) dJ7_fill_53178_20
      · refine lv_aload_n hx hb dJ7_fill_53178_10 rfl (lv_at hl 0 rfl) ?_
        refine lv_iload_n hx hb dJ7_fill_53178_11 rfl (lv_at hl 2 rfl) ?_
        refine lv_iload_n hx hb dJ7_fill_53178_12 rfl (lv_at hl 1 rfl) ?_
        refine rv_iast hx hb hK hP hD hS 0 0 rfl rfl i rfl (by omega) dJ7_fill_53178_13 (fun H locs hP hD hS => ?_)
        have hP : va_P D classes ([(a, iaC cs N (upI B i x))]) H := hP
        have hD : va_D A ([(a, iaC cs N (upI B i x))]) := hD
        refine rv_iinc (k := 2) (lv' := [(2, .int (iI ((i : Int) + 1))), (0, .ref a), (1, .int (iI x)), (3, .int (iI ((N : Nat) : Int)))]) hx hb dJ7_fill_53178_14 hl rfl (by decide) rfl (fun ls hl => ?_)
        refine lv_goto (tgt := 5) hx hb dJ7_fill_53178_17 (by decide) ?_
        exact ih5 (i + 1) (upI B i x) (by omega) (fun j h => by by_cases z : j = i; rw [z, upI_s]; rw [upI_n z]; exact hq j (by omega)) (by omega) _ (by omega) H locs hP hD hS ls (lv_sub hl [1, 2, 0, 3] rfl)
  exact loop5 (_ + 1) 0 F (by omega) (fun j h => absurd h (Nat.not_lt_zero _)) (Nat.lt_succ_self _) _ rfl H locs hP hD hS ls (lv_sub hl [2, 3, 1, 0] rfl)

abbrev rm_J6_bitCount_0f7a4 : Room := { frames := 0, cells := 0, slots := 0, locals := 0 }
set_option maxHeartbeats 4000000 in
set_option maxRecDepth 100000 in
/-- Integer.bitCount -/
theorem c_J6_bitCount_0f7a4 (l : Launch) (x : Int) : Met l yJ6_bitCount_0f7a4 (Cond.code yJ6_bitCount_0f7a4 cJ6_bitCount_0f7a4 1 (some .int) :: TB) rm_J6_bitCount_0f7a4 (va_Pc [.int (iI x)] (fun _ => True)) (vp_Si (fun r => r = iI (bcI x))) 0 0 (fun _ => False) := by
  refine enter (cc := cJ6_bitCount_0f7a4) (maxL := 1) (ret := (some .int)) (by decide) (Nat.le_of_ble_eq_true rfl) ?_
  intro pg ev s m below meth c Q ls hx hb hml hown hts hr hlocks hnm _ hl hQ
  have ht : ∀ w ∈ TB, w.before _ s = true := fun w h => hts w (List.mem_cons_of_mem _ h)
  have hl : lv_has ls 1 [(0, .int (iI x))] := hl
  refine lv_iload_n hx hb dJ6_bitCount_0f7a4_0 rfl (lv_at hl 0 rfl) ?_
  refine lv_iload_n hx hb dJ6_bitCount_0f7a4_1 rfl (lv_at hl 0 rfl) ?_
  refine rv_iconst hx hb dJ6_bitCount_0f7a4_2 ?_
  refine rv_iushr hx hb dJ6_bitCount_0f7a4_3 ?_
  refine lv_ldcw (v := iI 1431655765) hx hb hown (ht _ tb_444) dJ6_bitCount_0f7a4_4 ?_
  refine rv_iand hx hb dJ6_bitCount_0f7a4_7 ?_
  refine rv_isub hx hb dJ6_bitCount_0f7a4_8 ?_
  refine rv_top (y := (bc1 x)) rfl ?_
  refine lv_istore_n (lv' := [(0, .int (iI (bc1 x)))]) hx hb dJ6_bitCount_0f7a4_9 rfl hl (by decide) rfl (fun ls hl => ?_)
  refine lv_iload_n hx hb dJ6_bitCount_0f7a4_10 rfl (lv_at hl 0 rfl) ?_
  refine lv_ldcw (v := iI 858993459) hx hb hown (ht _ tb_445) dJ6_bitCount_0f7a4_11 ?_
  refine rv_iand hx hb dJ6_bitCount_0f7a4_14 ?_
  refine lv_iload_n hx hb dJ6_bitCount_0f7a4_15 rfl (lv_at hl 0 rfl) ?_
  refine rv_iconst hx hb dJ6_bitCount_0f7a4_16 ?_
  refine rv_iushr hx hb dJ6_bitCount_0f7a4_17 ?_
  refine lv_ldcw (v := iI 858993459) hx hb hown (ht _ tb_445) dJ6_bitCount_0f7a4_18 ?_
  refine rv_iand hx hb dJ6_bitCount_0f7a4_21 ?_
  refine rv_iadd hx hb dJ6_bitCount_0f7a4_22 ?_
  refine rv_top (y := (bc2 (bc1 x))) rfl ?_
  refine lv_istore_n (lv' := [(0, .int (iI (bc2 (bc1 x))))]) hx hb dJ6_bitCount_0f7a4_23 rfl hl (by decide) rfl (fun ls hl => ?_)
  refine lv_iload_n hx hb dJ6_bitCount_0f7a4_24 rfl (lv_at hl 0 rfl) ?_
  refine lv_iload_n hx hb dJ6_bitCount_0f7a4_25 rfl (lv_at hl 0 rfl) ?_
  refine rv_iconst hx hb dJ6_bitCount_0f7a4_26 ?_
  refine rv_iushr hx hb dJ6_bitCount_0f7a4_27 ?_
  refine rv_iadd hx hb dJ6_bitCount_0f7a4_28 ?_
  refine lv_ldcw (v := iI 252645135) hx hb hown (ht _ tb_446) dJ6_bitCount_0f7a4_29 ?_
  refine rv_iand hx hb dJ6_bitCount_0f7a4_32 ?_
  refine rv_top (y := (bc3 (bc2 (bc1 x)))) rfl ?_
  refine lv_istore_n (lv' := [(0, .int (iI (bc3 (bc2 (bc1 x)))))]) hx hb dJ6_bitCount_0f7a4_33 rfl hl (by decide) rfl (fun ls hl => ?_)
  refine lv_iload_n hx hb dJ6_bitCount_0f7a4_34 rfl (lv_at hl 0 rfl) ?_
  refine lv_iload_n hx hb dJ6_bitCount_0f7a4_35 rfl (lv_at hl 0 rfl) ?_
  refine rv_bipush hx hb dJ6_bitCount_0f7a4_36 (by decide) ?_
  refine rv_iushr hx hb dJ6_bitCount_0f7a4_38 ?_
  refine rv_iadd hx hb dJ6_bitCount_0f7a4_39 ?_
  refine rv_top (y := (bc4 (bc3 (bc2 (bc1 x))))) rfl ?_
  refine lv_istore_n (lv' := [(0, .int (iI (bc4 (bc3 (bc2 (bc1 x))))))]) hx hb dJ6_bitCount_0f7a4_40 rfl hl (by decide) rfl (fun ls hl => ?_)
  refine lv_iload_n hx hb dJ6_bitCount_0f7a4_41 rfl (lv_at hl 0 rfl) ?_
  refine lv_iload_n hx hb dJ6_bitCount_0f7a4_42 rfl (lv_at hl 0 rfl) ?_
  refine rv_bipush hx hb dJ6_bitCount_0f7a4_43 (by decide) ?_
  refine rv_iushr hx hb dJ6_bitCount_0f7a4_45 ?_
  refine rv_iadd hx hb dJ6_bitCount_0f7a4_46 ?_
  refine rv_top (y := (bc5 (bc4 (bc3 (bc2 (bc1 x)))))) rfl ?_
  refine lv_istore_n (lv' := [(0, .int (iI (bc5 (bc4 (bc3 (bc2 (bc1 x)))))))]) hx hb dJ6_bitCount_0f7a4_47 rfl hl (by decide) rfl (fun ls hl => ?_)
  refine lv_iload_n hx hb dJ6_bitCount_0f7a4_48 rfl (lv_at hl 0 rfl) ?_
  refine rv_bipush hx hb dJ6_bitCount_0f7a4_49 (by decide) ?_
  refine rv_iand hx hb dJ6_bitCount_0f7a4_51 ?_
  subst hQ
  exact W.iret hx hb hr (fun t9 ht9 hW9 => ⟨_, rfl, rfl, ht9⟩) (fun _ h => absurd h List.not_mem_nil) dJ6_bitCount_0f7a4_52

abbrev rm_X1_unlikeDepths : Room := { frames := 3, cells := 0, slots := 0, locals := 65 }
set_option maxHeartbeats 4000000 in
set_option maxRecDepth 100000 in
/-- unlikeDepths -/
theorem c_X1_unlikeDepths (l : Launch) (D : va_G) (cs : Nat → ClassId) (a : Nat) (k : Int) (n : Int) (f : Int) (o : Int) (w : Int) : Met l yX1_unlikeDepths (Cond.code yX1_unlikeDepths cX1_unlikeDepths 3 (some .int) :: TB) rm_X1_unlikeDepths (va_Pc [.ref a] (fun U => KA D cs U ∧ PanelAt D cs (fun _ => False) U.heap a k n f o w)) (vp_Si (fun r => r = iI (bcI (bsW k n f o (w).toNat)))) 0 0 (fun _ => False) := by
  refine enter (cc := cX1_unlikeDepths) (maxL := 3) (ret := (some .int)) (by decide) (Nat.le_of_ble_eq_true rfl) ?_
  intro pg ev s m below meth c Q ls hx hb hml hown hts hr hlocks hnm ⟨hK, hpan⟩ hl hQ
  have ht : ∀ w ∈ TB, w.before _ s = true := fun w h => hts w (List.mem_cons_of_mem _ h)
  have hl : lv_has ls 3 [(0, .ref a)] := hl
  obtain ⟨hv, r, row, hPn, -, -, hrow⟩ := id hpan
  obtain ⟨hvk, hvn, hvf, hvo, hvw⟩ := hv
  have hnb := isPr_bd hvn
  have hpb := per_bd (k := k) hvn
  have hfb := fOK_bd hvk hvn hvf
  refine rv_iconst hx hb dX1_unlikeDepths_0 ?_
  refine lv_istore_n (lv' := [(1, .int (iI 0)), (0, .ref a)]) hx hb dX1_unlikeDepths_1 rfl hl (by decide) rfl (fun ls hl => ?_)
  refine rv_iconst hx hb dX1_unlikeDepths_2 ?_
  refine lv_istore_n (lv' := [(2, .int (iI 0)), (1, .int (iI 0)), (0, .ref a)]) hx hb dX1_unlikeDepths_3 rfl hl (by decide) rfl (fun ls hl => ?_)
  have loop4 : ∀ (fuel4 : Nat) (i : Nat), ((i : Int) ≤ w) → (w - (i : Int)).toNat < fuel4 → ∀ (x1 x2 : Int), x1 = bsW k n f o i → x2 = (i : Int) → ∀ ls : Array Slot, lv_has ls 3 [(0, .ref a), (1, .int (iI x1)), (2, .int (iI x2))] → W pg l ev rm_X1_unlikeDepths s m [.ref a].toArray below meth c s.heap [] 0 0 Q (F0 m 4 ls []) := by
    intro fuel4
    induction fuel4 with
    | zero => intro i hi hfuel4; exact absurd hfuel4 (Nat.not_lt_zero _)
    | succ fuel4 ih4 =>
      intro i hi hfuel4 x1 x2 ex1 ex2 ls hl
      subst ex1 ex2
      refine lv_iload_n hx hb dX1_unlikeDepths_4 rfl (lv_at hl 2 rfl) ?_
      refine lv_aload_n hx hb dX1_unlikeDepths_5 rfl (lv_at hl 0 rfl) ?_
      refine va_get (D := D) (ci := 0) (v := .int (iI w)) (C := RX1) (T := TX1) (N := 7) hx hb ht inTB_X1 hown hK hPn 0 rfl rfl 4 (by decide) (ht _ tb_150) (fun _ h9 => h9) rfl dX1_unlikeDepths_6 ?_
      refine rv_icmp_ge (tgt := 28) hx hb dX1_unlikeDepths_9 (by decide) (by omega) (fun h9 => ?_) (fun h9 => ?_)
      · refine lv_iload_n hx hb dX1_unlikeDepths_28 rfl (lv_at hl 1 rfl) ?_
        refine vp_callSi (W.runS (As := [.int (iI (bsW k n f o i))]) (rest := []) ⟨hx, hb, hml, hown, hts⟩ (c_J6_bitCount_0f7a4 l (bsW k n f o i)) (va_cwS 1 hts (gS tb_441 tb_442 tb_10 tb_443) rfl rfl rfl (by decide +kernel) ⟨Nat.le_of_ble_eq_true rfl, Nat.le_of_ble_eq_true rfl⟩) preS0 rfl rfl hl.1 rfl (lv_room (Nat.le_of_ble_eq_true rfl)) dX1_unlikeDepths_29 ⟨Nat.le_of_ble_eq_true rfl, Nat.le_of_ble_eq_true rfl⟩) (fun r9 hr9 => ?_)
        subst hr9
        subst hQ
        exact W.iret hx hb hr (fun t9 ht9 hW9 => ⟨_, rfl, by rw [show w.toNat = i by omega], ht9⟩) (fun _ h => absurd h List.not_mem_nil) dX1_unlikeDepths_32
      · refine lv_iload_n hx hb dX1_unlikeDepths_12 rfl (lv_at hl 1 rfl) ?_
        refine rv_iconst hx hb dX1_unlikeDepths_13 ?_
        refine lv_aload_n hx hb dX1_unlikeDepths_14 rfl (lv_at hl 0 rfl) ?_
        refine lv_iload_n hx hb dX1_unlikeDepths_15 rfl (lv_at hl 2 rfl) ?_
        refine vp_callSi (W.runV (As := [.int (iI (i : Int))]) (rest := [.int (iI 1), .int (iI (bsW k n f o i))]) ⟨hx, hb, hml, hown, hts⟩ (c_X1_wellDepth l D cs a k n f o w (i : Int) (by omega)) (cwV 1 hts (gV tb_424 tb_425 tb_426 tb_5 tb_427) rfl rfl rfl (by decide +kernel) ⟨Nat.le_of_ble_eq_true rfl, Nat.le_of_ble_eq_true rfl⟩) (preV_pan hK hpan) rfl rfl hl.1 rfl (lv_room (Nat.le_of_ble_eq_true rfl)) dX1_unlikeDepths_16 ⟨Nat.le_of_ble_eq_true rfl, Nat.le_of_ble_eq_true rfl⟩) (fun r9 hr9 => ?_)
        obtain ⟨rfl, hx16_0⟩ := hr9
        refine rv_ishl hx hb dX1_unlikeDepths_19 ?_
        refine rv_ior hx hb dX1_unlikeDepths_20 ?_
        refine lv_istore_n (lv' := [(1, .int (iI (orI (bsW k n f o i) (shlI 1 (dpt k n f ((i : Int) + o)))))), (0, .ref a), (2, .int (iI (i : Int)))]) hx hb dX1_unlikeDepths_21 rfl hl (by decide) rfl (fun ls hl => ?_)
        refine rv_iinc (k := 2) (lv' := [(2, .int (iI ((i : Int) + 1))), (1, .int (iI (orI (bsW k n f o i) (shlI 1 (dpt k n f ((i : Int) + o)))))), (0, .ref a)]) hx hb dX1_unlikeDepths_22 hl rfl (by decide) rfl (fun ls hl => ?_)
        refine lv_goto (tgt := 4) hx hb dX1_unlikeDepths_25 (by decide) ?_
        exact ih4 (i + 1) (by omega) (by omega) _ _ rfl (by omega) ls (lv_sub hl [2, 1, 0] rfl)
  exact loop4 (_ + 1) 0 (by omega) (Nat.lt_succ_self _) _ _ rfl rfl ls (lv_sub hl [2, 1, 0] rfl)

abbrev rm_X1_evenness : Room := { frames := 3, cells := 1, slots := 31, locals := 66 }
set_option maxHeartbeats 8000000 in
set_option maxRecDepth 100000 in
/-- evenness -/
theorem c_X1_evenness (l : Launch) (D : va_G) (cs : Nat → ClassId) (sz : Nat) (a : Nat) (k : Int) (n : Int) (f : Int) (o : Int) (w : Int) : Met l yX1_evenness (Cond.code yX1_evenness cX1_evenness 7 (some .int) :: TB) rm_X1_evenness (va_Pc [.ref a] (MPre D cs sz ([] : va_W) (fun U H => PanelAt D cs (fun _ => False) H a k n f o w))) (va_Qi (fun (r u : Int32) => r = u) (fun r t => (r = iI (evenS k n f)) ∧ va_P D classes ([] : va_W) t.heap ∧ va_D (va_A ([] : va_W) sz) ([] : va_W)) (va_A ([] : va_W) sz)) 1 31 (va_A ([] : va_W) sz) := by
  refine enter (cc := cX1_evenness) (maxL := 7) (ret := (some .int)) (by decide) (Nat.le_of_ble_eq_true rfl) ?_
  intro pg ev s m below meth c Q ls hx hb hml hown hts hr hlocks hnm ⟨hsz, hP, hD0, hK, hX0⟩ hl hQ
  have ht : ∀ w ∈ TB, w.before _ s = true := fun w h => hts w (List.mem_cons_of_mem _ h)
  subst hsz
  have hD := hD0.self (sz := s.heap.size)
  obtain ⟨A, hAe⟩ : ∃ A, va_A ([] : va_W) s.heap.size = A := ⟨_, rfl⟩
  rw [hAe] at hD
  have hA : ∀ q : Nat, s.heap.size ≤ q → A q := fun q h => by rw [← hAe]; exact Or.inr h
  obtain ⟨H, hH⟩ : ∃ H, H = s.heap := ⟨_, rfl⟩
  obtain ⟨locs, hlocs⟩ : ∃ locs : List Loc, locs = [] := ⟨_, rfl⟩
  have hS : va_S A s.heap H locs := by rw [hH, hlocs]; exact va_S.rf
  rw [← hH] at hP
  suffices hgo : W pg l ev rm_X1_evenness s m [.ref a].toArray below meth c H locs 0 0 Q (F0 m 0 ls []) by rw [hH, hlocs] at hgo; exact hgo
  have hl : lv_has ls 7 [(0, .ref a)] := hl
  obtain ⟨hvk, hvn, hvf, hvo, hvw⟩ := hX0.1
  have hnb := isPr_bd hvn
  have hpb := per_bd (k := k) hvn
  have hfb := fOK_bd hvk hvn hvf
  refine rv_bipush hx hb dX1_evenness_0 (by decide) ?_
  refine rv_newi hx hb (ht _ tb_54) hK hP hD hS hA 31 rfl (by omega) (Nat.le_of_ble_eq_true rfl) (Nat.le_of_ble_eq_true rfl) dX1_evenness_2 (fun q2 H hP hD hS => ?_)
  have hP : va_P D classes ([(q2, iaC cs 31 (fun _ => 0))]) H := hP
  have hD : va_D A ([(q2, iaC cs 31 (fun _ => 0))]) := hD
  refine lv_astore_n (lv' := [(1, .ref q2), (0, .ref a)]) hx hb dX1_evenness_4 rfl hl (by decide) rfl (fun ls hl => ?_)
  refine rv_iconst hx hb dX1_evenness_5 ?_
  refine lv_istore_n (lv' := [(2, .int (iI 0)), (1, .ref q2), (0, .ref a)]) hx hb dX1_evenness_6 rfl hl (by decide) rfl (fun ls hl => ?_)
  have hpan : PanelAt D cs (fun _ => False) H a k n f o w := PanelAt.inS (M := fun _ => False) (ws := []) hX0 (Mw_nil (M := fun _ => False)) hAe hS
  obtain ⟨_, r0, row0, hPn, _, _, _⟩ := id hpan
  refine lv_aload_n hx hb dX1_evenness_7 rfl (lv_at hl 2 rfl) ?_
  refine va_get (D := D) (ci := 0) (v := .int (iI (per k n))) (C := RX1) (T := TX1) (N := 7) hx hb ht inTB_X1 hown hK hPn 0 rfl rfl 5 (by decide) (ht _ tb_154) (fun _ h9 => h9) rfl dX1_evenness_8 ?_
  refine lv_istore_n (lv' := [(3, .int (iI (per k n))), (2, .int (iI 0)), (1, .ref q2), (0, .ref a)]) hx hb dX1_evenness_11 rfl hl (by decide) rfl (fun ls hl => ?_)
  refine rv_iconst hx hb dX1_evenness_12 ?_
  refine lv_istore (lv' := [(4, .int (iI 1)), (3, .int (iI (per k n))), (2, .int (iI 0)), (1, .ref q2), (0, .ref a)]) hx hb dX1_evenness_13 hl (by decide) rfl (fun ls hl => ?_)
  have loop15 : ∀ (fuel15 : Nat) (j : Nat) (TA : Nat → Int), ((j : Int) + 1 ≤ per k n) → (per k n - (j : Int)).toNat < fuel15 → ∀ (x2 x3 x4 : Int), x2 = evXO k n f j → x3 = evNO k n f (per k n) j → x4 = ((j : Int) + 1) → ∀ (H : Heap) (locs : List Loc), va_P D classes ([(q2, iaC cs 31 TA)]) H → va_D A ([(q2, iaC cs 31 TA)]) → va_S A s.heap H locs → ∀ ls : Array Slot, lv_has ls 7 [(0, .ref a), (1, .ref q2), (2, .int (iI x2)), (3, .int (iI x3)), (4, .int (iI x4))] → W pg l ev rm_X1_evenness s m [.ref a].toArray below meth c H locs 1 31 Q (F0 m 15 ls []) := by
    intro fuel15
    induction fuel15 with
    | zero => intro j TA hj hfuel15; exact absurd hfuel15 (Nat.not_lt_zero _)
    | succ fuel15 ih15 =>
      intro j TA hj hfuel15 x2 x3 x4 ex2 ex3 ex4 H locs hP hD hS ls hl
      subst ex2 ex3 ex4
      have hbx := evXO_bd (k := k) (f := f) hvn j
      have hbn := evNO_bd (k := k) (f := f) (a := per k n) hvn (by omega) j
      refine lv_iload hx hb dX1_evenness_15 (lv_at hl 4 rfl) ?_
      have hpan : PanelAt D cs (fun _ => False) H a k n f o w := PanelAt.inS (M := fun _ => False) (ws := []) hX0 (Mw_nil (M := fun _ => False)) hAe hS
      obtain ⟨_, r0, row0, hPn, _, _, _⟩ := id hpan
      refine lv_aload_n hx hb dX1_evenness_17 rfl (lv_at hl 0 rfl) ?_
      refine va_get (D := D) (ci := 0) (v := .int (iI (per k n))) (C := RX1) (T := TX1) (N := 7) hx hb ht inTB_X1 hown hK hPn 0 rfl rfl 5 (by decide) (ht _ tb_154) (fun _ h9 => h9) rfl dX1_evenness_18 ?_
      refine rv_icmp_ge (tgt := 121) hx hb dX1_evenness_21 (by decide) (by omega) (fun h21 => ?_) (fun h21 => ?_)
      · refine lv_iload_n hx hb dX1_evenness_121 rfl (lv_at hl 2 rfl) ?_
        refine lv_iload_n hx hb dX1_evenness_122 rfl (lv_at hl 3 rfl) ?_
        refine rv_isub hx hb dX1_evenness_123 ?_
        subst hQ
        exact W.iret hx hb hr (fun t9 ht9 hW9 => ⟨⟨_, _, rfl, rfl, ⟨by rw [← evenS_eq hvn, show (per k n - 1).toNat = j by omega], by rw [ht9]; exact hP.sub [] rfl, by rw [hAe]; exact hD.sub [] (by decide) rfl⟩⟩, by rw [hAe]; exact hS.F ht9⟩) (by rw [hAe]; exact hS.2.2) dX1_evenness_124
      · refine lv_aload_n hx hb dX1_evenness_24 rfl (lv_at hl 1 rfl) ?_
        refine rv_iconst hx hb dX1_evenness_25 ?_
        have hFc := va_free (wc := [(q2, iaC cs 31 TA)]) hD hS hA [0] rfl
        have hPc := hP.sub (ws' := [(q2, iaC cs 31 TA)]) [0] rfl
        have hDc := hD.sub (ws' := [(q2, iaC cs 31 TA)]) [0] (by decide) rfl
        refine va_callv (va_runS (As := [.ref q2, .int (iI 0)]) (rest := []) ⟨hx, hb, hml, hown, hts⟩ (c_J7_fill_53178 l D cs H.size q2 31 TA 0 (by omega)) (va_cwS 2 hts (gS tb_455 tb_456 tb_11 tb_457) rfl rfl rfl (by decide +kernel) ⟨Nat.le_of_ble_eq_true rfl, Nat.le_of_ble_eq_true rfl⟩) (preS_M (X := fun _ _ => True) Stb_T hK hPc hDc trivial) rfl rfl hl.1 rfl (lv_room (Nat.le_of_ble_eq_true rfl)) dX1_evenness_26 ⟨Nat.le_of_ble_eq_true rfl, Nat.le_of_ble_eq_true rfl⟩) hS (fun q _ h => hFc q h) hFc (fun u9 t9 H9 locs ht9 hvm9 hw9 hB9 hz9 hk9 hS => ?_)
        obtain ⟨F2_26, hf26_0, hP1, hD1⟩ := hB9
        rw [ht9] at hP1
        obtain ⟨hPj, hDj⟩ := va_join (wr := []) hP hD [0] [] rfl rfl (by decide) (by decide) hk9 hFc hP1 hD1
        generalize H9 = H at *
        have hP : va_P D classes ([(q2, iaC cs 31 F2_26)]) H := hPj
        have hD : va_D A ([(q2, iaC cs 31 F2_26)]) := hDj
        refine rv_iconst hx hb dX1_evenness_29 ?_
        refine lv_istore (lv' := [(5, .int (iI 0)), (0, .ref a), (1, .ref q2), (2, .int (iI (evXO k n f j))), (3, .int (iI (evNO k n f (per k n) j))), (4, .int (iI ((j : Int) + 1)))]) hx hb dX1_evenness_30 hl (by decide) rfl (fun ls hl => ?_)
        have loop32 : ∀ (fuel32 : Nat) (i : Nat) (TB2 : Nat → Int), ((i : Int) ≤ per k n) → (∀ d : Nat, (d : Int) < n → TB2 d = cnC k n f ((j : Int) + 1) (d : Int) i) → (per k n - (i : Int)).toNat < fuel32 → ∀ (x5 : Int), x5 = (i : Int) → ∀ (H : Heap) (locs : List Loc), va_P D classes ([(q2, iaC cs 31 TB2)]) H → va_D A ([(q2, iaC cs 31 TB2)]) → va_S A s.heap H locs → ∀ ls : Array Slot, lv_has ls 7 [(0, .ref a), (1, .ref q2), (2, .int (iI (evXO k n f j))), (3, .int (iI (evNO k n f (per k n) j))), (4, .int (iI ((j : Int) + 1))), (5, .int (iI x5))] → W pg l ev rm_X1_evenness s m [.ref a].toArray below meth c H locs 1 31 Q (F0 m 32 ls []) := by
          intro fuel32
          induction fuel32 with
          | zero => intro i TB2 hi htc hfuel32; exact absurd hfuel32 (Nat.not_lt_zero _)
          | succ fuel32 ih32 =>
            intro i TB2 hi htc hfuel32 x5 ex5 H locs hP hD hS ls hl
            subst ex5
            refine lv_iload hx hb dX1_evenness_32 (lv_at hl 5 rfl) ?_
            have hpan : PanelAt D cs (fun _ => False) H a k n f o w := PanelAt.inS (M := fun _ => False) (ws := []) hX0 (Mw_nil (M := fun _ => False)) hAe hS
            obtain ⟨_, r0, row0, hPn, _, _, _⟩ := id hpan
            refine lv_aload_n hx hb dX1_evenness_34 rfl (lv_at hl 0 rfl) ?_
            refine va_get (D := D) (ci := 0) (v := .int (iI (per k n))) (C := RX1) (T := TX1) (N := 7) hx hb ht inTB_X1 hown hK hPn 0 rfl rfl 5 (by decide) (ht _ tb_154) (fun _ h9 => h9) rfl dX1_evenness_35 ?_
            refine rv_icmp_ge (tgt := 72) hx hb dX1_evenness_38 (by decide) (by omega) (fun h38 => ?_) (fun h38 => ?_)
            · refine rv_iconst hx hb dX1_evenness_72 ?_
              refine lv_istore (lv' := [(5, .int (iI 0)), (0, .ref a), (1, .ref q2), (2, .int (iI (evXO k n f j))), (3, .int (iI (evNO k n f (per k n) j))), (4, .int (iI ((j : Int) + 1)))]) hx hb dX1_evenness_73 hl (by decide) rfl (fun ls hl => ?_)
              have htb : ∀ d : Nat, (d : Int) < n → TB2 d = cnC k n f ((j : Int) + 1) (d : Int) (per k n).toNat := fun d hd => by rw [htc d hd, show (per k n).toNat = i by omega]
              have loop75 : ∀ (fuel75 : Nat) (d : Nat), ((d : Int) ≤ n) → (n - (d : Int)).toNat < fuel75 → ∀ (x2 x3 x5 : Int), x2 = evX k n f ((j : Int) + 1) (evXO k n f j) d → x3 = evN k n f ((j : Int) + 1) (evNO k n f (per k n) j) d → x5 = (d : Int) → ∀ (H : Heap) (locs : List Loc), va_P D classes ([(q2, iaC cs 31 TB2)]) H → va_D A ([(q2, iaC cs 31 TB2)]) → va_S A s.heap H locs → ∀ ls : Array Slot, lv_has ls 7 [(0, .ref a), (1, .ref q2), (2, .int (iI x2)), (3, .int (iI x3)), (4, .int (iI ((j : Int) + 1))), (5, .int (iI x5))] → W pg l ev rm_X1_evenness s m [.ref a].toArray below meth c H locs 1 31 Q (F0 m 75 ls []) := by
                intro fuel75
                induction fuel75 with
                | zero => intro d hd hfuel75; exact absurd hfuel75 (Nat.not_lt_zero _)
                | succ fuel75 ih75 =>
                  intro d hd hfuel75 x2 x3 x5 ex2 ex3 ex5 H locs hP hD hS ls hl
                  subst ex2 ex3 ex5
                  have hbx2 := evX_bd (k := k) (f := f) (sh := (j : Int) + 1) hvn hbx d
                  have hbn2 := evN_bd (k := k) (f := f) (sh := (j : Int) + 1) hvn hbn d
                  have hcb := cnC_bd k n f ((j : Int) + 1) (d : Int) (per k n).toNat
                  refine lv_iload hx hb dX1_evenness_75 (lv_at hl 5 rfl) ?_
                  have hpan : PanelAt D cs (fun _ => False) H a k n f o w := PanelAt.inS (M := fun _ => False) (ws := []) hX0 (Mw_nil (M := fun _ => False)) hAe hS
                  obtain ⟨_, r0, row0, hPn, _, _, _⟩ := id hpan
                  refine lv_aload_n hx hb dX1_evenness_77 rfl (lv_at hl 0 rfl) ?_
                  refine va_get (D := D) (ci := 0) (v := .int (iI n)) (C := RX1) (T := TX1) (N := 7) hx hb ht inTB_X1 hown hK hPn 0 rfl rfl 1 (by decide) (ht _ tb_143) (fun _ h9 => h9) rfl dX1_evenness_78 ?_
                  refine rv_icmp_ge (tgt := 115) hx hb dX1_evenness_81 (by decide) (by omega) (fun h81 => ?_) (fun h81 => ?_)
                  · refine rv_iinc (k := 4) (lv' := [(4, .int (iI (((j : Int) + 1) + 1))), (0, .ref a), (1, .ref q2), (2, .int (iI (evX k n f ((j : Int) + 1) (evXO k n f j) d))), (3, .int (iI (evN k n f ((j : Int) + 1) (evNO k n f (per k n) j) d))), (5, .int (iI (d : Int)))]) hx hb dX1_evenness_115 hl rfl (by decide) rfl (fun ls hl => ?_)
                    refine lv_goto (tgt := 15) hx hb dX1_evenness_118 (by decide) ?_
                    exact ih15 (j + 1) TB2 (by omega) (by omega) _ _ _ (by rw [evXO, show n.toNat = d by omega]) (by rw [evNO, show n.toNat = d by omega]) (by omega) H locs hP hD hS ls (lv_sub hl [1, 2, 3, 4, 0] rfl)
                  · refine lv_iload hx hb dX1_evenness_84 (lv_at hl 5 rfl) ?_
                    refine lv_aload_n hx hb dX1_evenness_86 rfl (lv_at hl 1 rfl) ?_
                    refine rv_alen hx hb hK hP 0 0 rfl rfl dX1_evenness_87 ?_
                    refine rv_icmp_ge (tgt := 115) hx hb dX1_evenness_88 (by decide) (by omega) (fun h88 => False.elim (by omega)) (fun h88 => ?_)
                    refine lv_iload_n hx hb dX1_evenness_91 rfl (lv_at hl 2 rfl) ?_
                    refine lv_aload_n hx hb dX1_evenness_92 rfl (lv_at hl 1 rfl) ?_
                    refine lv_iload hx hb dX1_evenness_93 (lv_at hl 5 rfl) ?_
                    refine rv_iald hx hb hK hP 0 0 rfl rfl d rfl (by omega) dX1_evenness_95 ?_
                    refine rv_top (y := (cnC k n f ((j : Int) + 1) (d : Int) (per k n).toNat)) (htb d (by omega)) ?_
                    refine rv_mmax hx hb (hml.trans hl.1.symm) hown (ht _ tb_432) (ht _ tb_302) (ht _ tb_9) (ht _ tb_303) (Nat.le_of_ble_eq_true rfl) (Nat.le_of_ble_eq_true rfl) (Nat.le_of_ble_eq_true rfl) (Nat.le_of_ble_eq_true rfl) (by omega) dX1_evenness_96 ?_
                    refine lv_istore_n (lv' := [(2, .int (iI (mxI (evX k n f ((j : Int) + 1) (evXO k n f j) d) (cnC k n f ((j : Int) + 1) (d : Int) (per k n).toNat)))), (0, .ref a), (1, .ref q2), (3, .int (iI (evN k n f ((j : Int) + 1) (evNO k n f (per k n) j) d))), (4, .int (iI ((j : Int) + 1))), (5, .int (iI (d : Int)))]) hx hb dX1_evenness_99 rfl hl (by decide) rfl (fun ls hl => ?_)
                    refine lv_iload_n hx hb dX1_evenness_100 rfl (lv_at hl 3 rfl) ?_
                    refine lv_aload_n hx hb dX1_evenness_101 rfl (lv_at hl 2 rfl) ?_
                    refine lv_iload hx hb dX1_evenness_102 (lv_at hl 5 rfl) ?_
                    refine rv_iald hx hb hK hP 0 0 rfl rfl d rfl (by omega) dX1_evenness_104 ?_
                    refine rv_top (y := (cnC k n f ((j : Int) + 1) (d : Int) (per k n).toNat)) (htb d (by omega)) ?_
                    refine rv_mmin hx hb (hml.trans hl.1.symm) hown (ht _ tb_462) (ht _ tb_299) (ht _ tb_9) (ht _ tb_300) (Nat.le_of_ble_eq_true rfl) (Nat.le_of_ble_eq_true rfl) (Nat.le_of_ble_eq_true rfl) (Nat.le_of_ble_eq_true rfl) (by omega) dX1_evenness_105 ?_
                    refine lv_istore_n (lv' := [(3, .int (iI (mnI (evN k n f ((j : Int) + 1) (evNO k n f (per k n) j) d) (cnC k n f ((j : Int) + 1) (d : Int) (per k n).toNat)))), (2, .int (iI (mxI (evX k n f ((j : Int) + 1) (evXO k n f j) d) (cnC k n f ((j : Int) + 1) (d : Int) (per k n).toNat)))), (0, .ref a), (1, .ref q2), (4, .int (iI ((j : Int) + 1))), (5, .int (iI (d : Int)))]) hx hb dX1_evenness_108 rfl hl (by decide) rfl (fun ls hl => ?_)
                    refine rv_iinc (k := 5) (lv' := [(5, .int (iI ((d : Int) + 1))), (3, .int (iI (mnI (evN k n f ((j : Int) + 1) (evNO k n f (per k n) j) d) (cnC k n f ((j : Int) + 1) (d : Int) (per k n).toNat)))), (2, .int (iI (mxI (evX k n f ((j : Int) + 1) (evXO k n f j) d) (cnC k n f ((j : Int) + 1) (d : Int) (per k n).toNat)))), (0, .ref a), (1, .ref q2), (4, .int (iI ((j : Int) + 1)))]) hx hb dX1_evenness_109 hl rfl (by decide) rfl (fun ls hl => ?_)
                    refine lv_goto (tgt := 75) hx hb dX1_evenness_112 (by decide) ?_
                    exact ih75 (d + 1) (by omega) (by omega) _ _ _ rfl rfl (by omega) H locs hP hD hS ls (lv_sub hl [3, 4, 2, 1, 5, 0] rfl)
              exact loop75 (_ + 1) 0 (by omega) (Nat.lt_succ_self _) _ _ _ rfl rfl rfl H locs hP hD hS ls (lv_sub hl [1, 2, 3, 4, 5, 0] rfl)
            · have hpan : PanelAt D cs (fun _ => False) H a k n f o w := PanelAt.inS (M := fun _ => False) (ws := []) hX0 (Mw_nil (M := fun _ => False)) hAe hS
              obtain ⟨_, r0, row0, hPn, _, _, _⟩ := id hpan
              refine lv_aload_n hx hb dX1_evenness_41 rfl (lv_at hl 0 rfl) ?_
              refine lv_iload hx hb dX1_evenness_42 (lv_at hl 5 rfl) ?_
              refine lv_iload hx hb dX1_evenness_44 (lv_at hl 4 rfl) ?_
              refine vp_callSi (W.runV (As := [.int (iI (i : Int)), .int (iI ((j : Int) + 1))]) (rest := []) ⟨hx, hb, hml, hown, hts⟩ (c_X1_differenceAt l D cs a k n f o w (i : Int) ((j : Int) + 1) (by omega) (by omega)) (cwV 2 hts (gV tb_458 tb_460 tbs_9 tb_5 tb_461) rfl rfl rfl (by decide +kernel) ⟨Nat.le_of_ble_eq_true rfl, Nat.le_of_ble_eq_true rfl⟩) (preV_pan hK hpan) rfl rfl hl.1 rfl (lv_room (Nat.le_of_ble_eq_true rfl)) dX1_evenness_46 ⟨Nat.le_of_ble_eq_true rfl, Nat.le_of_ble_eq_true rfl⟩) (fun r9 hr9 => ?_)
              obtain ⟨rfl, hx46_0⟩ := hr9
              refine lv_istore (lv' := [(6, .int (iI ((dpt k n f ((i : Int) + ((j : Int) + 1)) - dpt k n f (i : Int)) % n))), (0, .ref a), (1, .ref q2), (2, .int (iI (evXO k n f j))), (3, .int (iI (evNO k n f (per k n) j))), (4, .int (iI ((j : Int) + 1))), (5, .int (iI (i : Int)))]) hx hb dX1_evenness_49 hl (by decide) rfl (fun ls hl => ?_)
              refine lv_iload hx hb dX1_evenness_51 (lv_at hl 0 rfl) ?_
              refine lv_aload_n hx hb dX1_evenness_53 rfl (lv_at hl 2 rfl) ?_
              refine rv_alen hx hb hK hP 0 0 rfl rfl dX1_evenness_54 ?_
              refine rv_icmp_ge (tgt := 66) hx hb dX1_evenness_55 (by decide) (by omega) (fun h55 => False.elim (by omega)) (fun h55 => ?_)
              refine lv_aload_n hx hb dX1_evenness_58 rfl (lv_at hl 2 rfl) ?_
              refine lv_iload hx hb dX1_evenness_59 (lv_at hl 0 rfl) ?_
              refine lv_dup2_11 hx hb dX1_evenness_61 rfl rfl ?_
              refine rv_iald hx hb hK hP 0 0 rfl rfl (((dpt k n f ((i : Int) + ((j : Int) + 1)) - dpt k n f (i : Int)) % n).toNat) (by omega) (by omega) dX1_evenness_62 ?_
              refine rv_iconst hx hb dX1_evenness_63 ?_
              refine rv_iadd hx hb dX1_evenness_64 ?_
              refine rv_iast hx hb hK hP hD hS 0 0 rfl rfl (((dpt k n f ((i : Int) + ((j : Int) + 1)) - dpt k n f (i : Int)) % n).toNat) (by omega) (by omega) dX1_evenness_65 (fun H locs hP hD hS => ?_)
              have hP : va_P D classes ([(q2, iaC cs 31 (upI TB2 (((dpt k n f ((i : Int) + ((j : Int) + 1)) - dpt k n f (i : Int)) % n).toNat) ((TB2 (((dpt k n f ((i : Int) + ((j : Int) + 1)) - dpt k n f (i : Int)) % n).toNat)) + 1)))]) H := hP
              have hD : va_D A ([(q2, iaC cs 31 (upI TB2 (((dpt k n f ((i : Int) + ((j : Int) + 1)) - dpt k n f (i : Int)) % n).toNat) ((TB2 (((dpt k n f ((i : Int) + ((j : Int) + 1)) - dpt k n f (i : Int)) % n).toNat)) + 1)))]) := hD
              refine rv_iinc (k := 6) (lv' := [(5, .int (iI ((i : Int) + 1))), (6, .int (iI ((dpt k n f ((i : Int) + ((j : Int) + 1)) - dpt k n f (i : Int)) % n))), (0, .ref a), (1, .ref q2), (2, .int (iI (evXO k n f j))), (3, .int (iI (evNO k n f (per k n) j))), (4, .int (iI ((j : Int) + 1)))]) hx hb dX1_evenness_66 hl rfl (by decide) rfl (fun ls hl => ?_)
              refine lv_goto (tgt := 32) hx hb dX1_evenness_69 (by decide) ?_
              exact ih32 (i + 1) (upI TB2 (((dpt k n f ((i : Int) + ((j : Int) + 1)) - dpt k n f (i : Int)) % n).toNat) ((TB2 (((dpt k n f ((i : Int) + ((j : Int) + 1)) - dpt k n f (i : Int)) % n).toNat)) + 1)) (by omega) (fun d hd => by rw [cnC]; by_cases z : d = ((dpt k n f ((i : Int) + ((j : Int) + 1)) - dpt k n f (i : Int)) % n).toNat; (rw [if_pos (by omega), ← z, upI_s, htc d hd]); (rw [upI_n z, if_neg (by omega), htc d hd, Int.add_zero])) (by omega) _ (by omega) H locs hP hD hS ls (lv_sub hl [2, 3, 4, 5, 6, 0] rfl)
        exact loop32 (_ + 1) 0 F2_26 (by omega) (fun d hd => by rw [hf26_0 d (by omega)]; rfl) (Nat.lt_succ_self _) _ rfl H locs hP hD hS ls (lv_sub hl [1, 2, 3, 4, 5, 0] rfl)
  exact loop15 (_ + 1) 0 (fun _ => 0) (by omega) (Nat.lt_succ_self _) _ _ _ rfl rfl rfl H locs hP hD hS ls (lv_sub hl [4, 3, 2, 1, 0] rfl)

