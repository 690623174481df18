/-! the text: what is read of it -/
def isDg (c : Int) : Prop := 48 ≤ c ∧ c ≤ 57
noncomputable def nD (tx : Nat → Int) (len i : Int) : Nat := cF (isDg (bt tx len i)) (cF (isDg (bt tx len (i + 1))) (cF (isDg (bt tx len (i + 2))) 3 2) 1) 0
noncomputable def nVn (tx : Nat → Int) (len i : Int) : Nat → Int
  | 0 => 0
  | k + 1 => 10 * nVn tx len i k + bt tx len (i + (k : Int)) - 48
noncomputable def nV (tx : Nat → Int) (len i : Int) : Int := nVn tx len i (nD tx len i)
noncomputable def nx (tx : Nat → Int) (len i : Int) : Int := i + (nD tx len i : Int) + 1
theorem nD_eq {tx : Nat → Int} {len i : Int} {n : Nat} (h3 : n ≤ 3) (h : ∀ j : Nat, j < n → isDg (bt tx len (i + (j : Int)))) (he : n = 3 ∨ ¬ isDg (bt tx len (i + (n : Int)))) : nD tx len i = n := by
  have h0 : 0 < n → isDg (bt tx len i) := fun q => by have := h 0 q; rwa [show i + ((0 : Nat) : Int) = i by omega] at this
  have h1 : 1 < n → isDg (bt tx len (i + 1)) := fun q => h 1 q
  have h2 : 2 < n → isDg (bt tx len (i + 2)) := fun q => h 2 q
  unfold nD
  rcases (show n = 0 ∨ n = 1 ∨ n = 2 ∨ n = 3 by omega) with e | e | e | e <;> subst e
  · rcases he with q | q
    · omega
    · rw [cF_neg (by rwa [show i + ((0 : Nat) : Int) = i by omega] at q)]
  · rcases he with q | q
    · omega
    · rw [cF_pos (h0 (by omega)), cF_neg (show ¬ isDg (bt tx len (i + 1)) from q)]
  · rcases he with q | q
    · omega
    · rw [cF_pos (h0 (by omega)), cF_pos (h1 (by omega)), cF_neg (show ¬ isDg (bt tx len (i + 2)) from q)]
  · rw [cF_pos (h0 (by omega)), cF_pos (h1 (by omega)), cF_pos (h2 (by omega))]
theorem nD_le (tx : Nat → Int) (len i : Int) : nD tx len i ≤ 3 := by
  unfold nD
  by_cases h0 : isDg (bt tx len i)
  · rw [cF_pos h0]
    by_cases h1 : isDg (bt tx len (i + 1))
    · rw [cF_pos h1]
      by_cases h2 : isDg (bt tx len (i + 2))
      · rw [cF_pos h2]; exact Nat.le_refl 3
      · rw [cF_neg h2]; decide
    · rw [cF_neg h1]; decide
  · rw [cF_neg h0]; decide
theorem nD_dg {tx : Nat → Int} {len i : Int} {j : Nat} (h : j < nD tx len i) : isDg (bt tx len (i + (j : Int))) := by
  unfold nD at h
  by_cases h0 : isDg (bt tx len i)
  · rw [cF_pos h0] at h
    by_cases h1 : isDg (bt tx len (i + 1))
    · rw [cF_pos h1] at h
      by_cases h2 : isDg (bt tx len (i + 2))
      · rw [cF_pos h2] at h
        rcases (show j = 0 ∨ j = 1 ∨ j = 2 by omega) with e | e | e <;> subst e
        · rw [show i + ((0 : Nat) : Int) = i by omega]; exact h0
        · exact h1
        · exact h2
      · rw [cF_neg h2] at h
        rcases (show j = 0 ∨ j = 1 by omega) with e | e <;> subst e
        · rw [show i + ((0 : Nat) : Int) = i by omega]; exact h0
        · exact h1
    · rw [cF_neg h1] at h
      rw [show j = 0 by omega, show i + ((0 : Nat) : Int) = i by omega]; exact h0
  · rw [cF_neg h0] at h; omega
theorem nVn_bd {tx : Nat → Int} {len i : Int} {n : Nat} (h3 : n ≤ 3) (h : ∀ j : Nat, j < n → isDg (bt tx len (i + (j : Int)))) : 0 ≤ nVn tx len i n ∧ nVn tx len i n ≤ 999 := by
  have h0 : 0 < n → isDg (bt tx len (i + ((0 : Nat) : Int))) := fun q => h 0 q
  have h1 : 1 < n → isDg (bt tx len (i + ((1 : Nat) : Int))) := fun q => h 1 q
  have h2 : 2 < n → isDg (bt tx len (i + ((2 : Nat) : Int))) := fun q => h 2 q
  unfold isDg at h0 h1 h2
  rcases (show n = 0 ∨ n = 1 ∨ n = 2 ∨ n = 3 by omega) with e | e | e | e <;> subst e <;> simp only [nVn] <;> omega
theorem nV_bd (tx : Nat → Int) (len i : Int) : 0 ≤ nV tx len i ∧ nV tx len i ≤ 999 := nVn_bd (nD_le _ _ _) (fun _ h => nD_dg h)
def okNum (tx : Nat → Int) (len i e : Int) : Prop := 0 < nD tx len i ∧ bt tx len (i + (nD tx len i : Int)) = e
def okPan (tx : Nat → Int) (len k i : Int) : Prop :=
  okNum tx len i 44 ∧ okNum tx len (nx tx len i) 44 ∧ okNum tx len (nx tx len (nx tx len i)) 44 ∧ okNum tx len (nx tx len (nx tx len (nx tx len i))) 59 ∧ isPr (nV tx len i) ∧ fOK k (nV tx len i) (nV tx len (nx tx len i)) ∧ (0 ≤ nV tx len (nx tx len (nx tx len i)) ∧ nV tx len (nx tx len (nx tx len i)) < nV tx len i) ∧ (1 ≤ nV tx len (nx tx len (nx tx len (nx tx len i))) ∧ nV tx len (nx tx len (nx tx len (nx tx len i))) ≤ 40)
noncomputable def nx4 (tx : Nat → Int) (len i : Int) : Int := nx tx len (nx tx len (nx tx len (nx tx len i)))
def setP (v : Nat → Int) (k n f o w : Int) : Nat → Int := upI (upI (upI (upI (upI (upI v 20 (v 20 + 1)) (5 * (v 20).toNat) k) (5 * (v 20).toNat + 1) n) (5 * (v 20).toNat + 2) f) (5 * (v 20).toNat + 3) o) (5 * (v 20).toNat + 4) w
noncomputable def setPt (tx : Nat → Int) (len : Int) (v : Nat → Int) (k i : Int) : Nat → Int := setP v k (nV tx len i) (nV tx len (nx tx len i)) (nV tx len (nx tx len (nx tx len i))) (nV tx len (nx tx len (nx tx len (nx tx len i))))
/-- an item: letter c, i the place behind it, m panels so far -/
def okItem (tx : Nat → Int) (len m c i : Int) : Prop :=
  (c = 113 ∧ m < 4 ∧ okPan tx len 0 i) ∨ (c = 114 ∧ m < 4 ∧ okPan tx len 1 i) ∨ (c = 108 ∧ m < 4 ∧ okPan tx len 2 i) ∨ (c = 117 ∧ okNum tx len i 59 ∧ (1 ≤ nV tx len i ∧ nV tx len i ≤ 20)) ∨ (c = 98 ∧ okNum tx len i 44 ∧ (20 ≤ nV tx len i ∧ nV tx len i ≤ 400) ∧ okNum tx len (nx tx len i) 59 ∧ (0 ≤ nV tx len (nx tx len i) ∧ nV tx len (nx tx len i) ≤ 5))
noncomputable def nxItem (tx : Nat → Int) (len c i : Int) : Int := cif (c = 117) (nx tx len i) (cif (c = 98) (nx tx len (nx tx len i)) (nx4 tx len i))
noncomputable def cnItem (m c : Int) : Int := cif (c = 117 ∨ c = 98) m (m + 1)
noncomputable def kdItem (c : Int) : Int := cif (c = 113) 0 (cif (c = 114) 1 2)
noncomputable def stItem (tx : Nat → Int) (len : Int) (v : Nat → Int) (c i : Int) : Nat → Int := cF (c = 117) (upI v 21 (nV tx len i)) (cF (c = 98) (upI (upI v 22 (nV tx len i)) 23 (nV tx len (nx tx len i))) (setPt tx len v (kdItem c) i))
/-- the place of the first fault, or -4 -/
noncomputable def flt (tx : Nat → Int) (len : Int) : Nat → Int → Int → Int
  | 0, _, _ => -4
  | k + 1, i, m => cif (i < len) (cif (okItem tx len m (bt tx len i) (i + 1)) (flt tx len k (nxItem tx len (bt tx len i) (i + 1)) (cnItem m (bt tx len i))) i) (-4)
noncomputable def lst (tx : Nat → Int) (len : Int) : Nat → Int → (Nat → Int) → Nat → Int
  | 0, _, v => v
  | k + 1, i, v => cF (i < len) (lst tx len k (nxItem tx len (bt tx len i) (i + 1)) (stItem tx len v (bt tx len i) (i + 1))) v
theorem nx_gt (tx : Nat → Int) (len i : Int) : i + 1 ≤ nx tx len i ∧ nx tx len i ≤ i + 4 := by
  have := nD_le tx len i
  unfold nx
  omega
theorem nxItem_gt (tx : Nat → Int) (len c i : Int) : i + 1 ≤ nxItem tx len c i ∧ nxItem tx len c i ≤ i + 16 := by
  have h1 := nx_gt tx len i
  have h2 := nx_gt tx len (nx tx len i)
  have h3 := nx_gt tx len (nx tx len (nx tx len i))
  have h4 := nx_gt tx len (nx tx len (nx tx len (nx tx len i)))
  unfold nxItem nx4
  by_cases q : c = 117
  · rw [cif_pos q]; omega
  · rw [cif_neg q]
    by_cases q2 : c = 98
    · rw [cif_pos q2]; omega
    · rw [cif_neg q2]; omega
def rd0 : Nat → Int := upI (upI (upI (fun _ => 0) 21 3) 22 100) 23 1
def agr (v w : Nat → Int) : Prop := ∀ j : Nat, j < 24 → v j = w j
theorem agr_up {v w : Nat → Int} (h : agr v w) (j : Nat) (x : Int) : agr (upI v j x) (upI w j x) := fun k hk => by
  by_cases q : k = j
  · subst q; rw [upI_s, upI_s]
  · rw [upI_n q, upI_n q]; exact h k hk
theorem agr_st {tx : Nat → Int} {len : Int} {v w : Nat → Int} (h : agr v w) (c i : Int) : agr (stItem tx len v c i) (stItem tx len w c i) := by
  have h20 := h 20 (by decide)
  unfold stItem
  by_cases q : c = 117
  · rw [cF_pos q, cF_pos q]; exact agr_up h _ _
  · rw [cF_neg q, cF_neg q]
    by_cases q2 : c = 98
    · rw [cF_pos q2, cF_pos q2]; exact agr_up (agr_up h _ _) _ _
    · rw [cF_neg q2, cF_neg q2]
      unfold setPt setP
      rw [h20]
      exact agr_up (agr_up (agr_up (agr_up (agr_up (agr_up h _ _) _ _) _ _) _ _) _ _) _ _
theorem agr_lst {tx : Nat → Int} {len : Int} (k : Nat) : ∀ {v w : Nat → Int} (_ : agr v w) (i : Int), agr (lst tx len k i v) (lst tx len k i w) := by
  induction k with
  | zero => intro v w h i; exact h
  | succ k ih =>
    intro v w h i
    simp only [lst]
    by_cases q : i < len
    · rw [cF_pos q, cF_pos q]; exact ih (agr_st h _ _) _
    · rw [cF_neg q, cF_neg q]; exact h
def okTx (tx : Nat → Int) (len : Int) : Prop := ∀ j : Nat, (j : Int) < len → 32 ≤ tx j ∧ tx j ≤ 126
theorem bt_bd {tx : Nat → Int} {len i : Int} (h : okTx tx len) (hi : 0 ≤ i) : 0 ≤ bt tx len i ∧ bt tx len i ≤ 126 := by
  unfold bt
  by_cases q : i < len
  · rw [cif_pos q]
    have := h i.toNat (by omega)
    omega
  · rw [cif_neg q]; decide
theorem setP_20 {v : Nat → Int} {k n f o w : Int} (h : 0 ≤ v 20 ∧ v 20 < 4) : setP v k n f o w 20 = v 20 + 1 := by
  unfold setP
  rw [upI_n (by omega), upI_n (by omega), upI_n (by omega), upI_n (by omega), upI_n (by omega), upI_s]
theorem setP_hi {v : Nat → Int} {k n f o w : Int} {j : Nat} (h : 0 ≤ v 20 ∧ v 20 < 4) (hj : 21 ≤ j) : setP v k n f o w j = v j := by
  unfold setP
  rw [upI_n (by omega), upI_n (by omega), upI_n (by omega), upI_n (by omega), upI_n (by omega), upI_n (by omega)]
theorem setP_lo {v : Nat → Int} {k n f o w : Int} {q j : Nat} (h : 0 ≤ v 20 ∧ v 20 < 4) (hq : (q : Int) < v 20) (hj : j < 5) : setP v k n f o w (5 * q + j) = v (5 * q + j) := by
  unfold setP
  rw [upI_n (by omega), upI_n (by omega), upI_n (by omega), upI_n (by omega), upI_n (by omega), upI_n (by omega)]
theorem setP_at {v : Nat → Int} {k n f o w : Int} (h : 0 ≤ v 20 ∧ v 20 < 4) : setP v k n f o w (5 * (v 20).toNat) = k ∧ setP v k n f o w (5 * (v 20).toNat + 1) = n ∧ setP v k n f o w (5 * (v 20).toNat + 2) = f ∧ setP v k n f o w (5 * (v 20).toNat + 3) = o ∧ setP v k n f o w (5 * (v 20).toNat + 4) = w := by
  unfold setP
  refine ⟨?_, ?_, ?_, ?_, ?_⟩
  · rw [upI_n (by omega), upI_n (by omega), upI_n (by omega), upI_n (by omega), upI_s]
  · rw [upI_n (by omega), upI_n (by omega), upI_n (by omega), upI_s]
  · rw [upI_n (by omega), upI_n (by omega), upI_s]
  · rw [upI_n (by omega), upI_s]
  · rw [upI_s]
theorem st_20 {tx : Nat → Int} {len : Int} {v : Nat → Int} {c i : Int} (hv : 0 ≤ v 20 ∧ v 20 ≤ 4) (h : okItem tx len (v 20) c i) : stItem tx len v c i 20 = cnItem (v 20) c := by
  unfold stItem cnItem
  by_cases q : c = 117
  · rw [cF_pos q, cif_pos (Or.inl q), upI_n (by decide)]
  · rw [cF_neg q]
    by_cases q2 : c = 98
    · rw [cF_pos q2, cif_pos (Or.inr q2), upI_n (by decide), upI_n (by decide)]
    · rw [cF_neg q2, cif_neg (by omega)]
      unfold okItem at h
      exact setP_20 (by omega)
theorem vL_set {v : Nat → Int} {k n f o w : Int} (h : vL v) (h4 : v 20 < 4) (hp : vP k n f o w) : vL (setP v k n f o w) := by
  obtain ⟨h20, h21, h22, h23, hq⟩ := h
  have hb : 0 ≤ v 20 ∧ v 20 < 4 := by omega
  refine ⟨by rw [setP_20 hb]; omega, by rw [setP_hi hb (by decide)]; exact h21, by rw [setP_hi hb (by decide)]; exact h22, by rw [setP_hi hb (by decide)]; exact h23, fun q hq1 => ?_⟩
  rw [setP_20 hb] at hq1
  rcases (show (q : Int) < v 20 ∨ q = (v 20).toNat by omega) with z | z
  · have := setP_lo (k := k) (n := n) (f := f) (o := o) (w := w) (j := 0) hb z (by decide)
    rw [Nat.add_zero] at this
    rw [this, setP_lo hb z (by decide), setP_lo hb z (by decide), setP_lo hb z (by decide), setP_lo hb z (by decide)]
    exact hq q z
  · subst z
    obtain ⟨e0, e1, e2, e3, e4⟩ := setP_at (k := k) (n := n) (f := f) (o := o) (w := w) hb
    rw [e0, e1, e2, e3, e4]
    exact hp
theorem vL_st {tx : Nat → Int} {len : Int} {v : Nat → Int} {c i : Int} (hv : vL v) (h : okItem tx len (v 20) c i) : vL (stItem tx len v c i) := by
  have hv2 := hv
  obtain ⟨h20, h21, h22, h23, hq⟩ := hv2
  unfold stItem
  by_cases q : c = 117
  · rw [cF_pos q]
    have hb : 1 ≤ nV tx len i ∧ nV tx len i ≤ 20 := by
      rcases h with z | z | z | z | z
      · omega
      · omega
      · omega
      · exact z.2.2
      · omega
    refine ⟨by rw [upI_n (by decide)]; exact h20, by rw [upI_s]; exact hb, by rw [upI_n (by decide)]; exact h22, by rw [upI_n (by decide)]; exact h23, fun p hp => ?_⟩
    rw [upI_n (by decide)] at hp
    rw [upI_n (by omega), upI_n (by omega), upI_n (by omega), upI_n (by omega), upI_n (by omega)]
    exact hq p hp
  · rw [cF_neg q]
    by_cases q2 : c = 98
    · rw [cF_pos q2]
      have hb : (20 ≤ nV tx len i ∧ nV tx len i ≤ 400) ∧ (0 ≤ nV tx len (nx tx len i) ∧ nV tx len (nx tx len i) ≤ 5) := by
        rcases h with z | z | z | z | z
        · omega
        · omega
        · omega
        · omega
        · exact ⟨z.2.2.1, z.2.2.2.2⟩
      refine ⟨by rw [upI_n (by decide), upI_n (by decide)]; exact h20, by rw [upI_n (by decide), upI_n (by decide)]; exact h21, by rw [upI_n (by decide), upI_s]; exact hb.1, by rw [upI_s]; exact hb.2, fun p hp => ?_⟩
      rw [upI_n (by decide), upI_n (by decide)] at hp
      rw [upI_n (by omega), upI_n (by omega), upI_n (by omega), upI_n (by omega), upI_n (by omega), upI_n (by omega), upI_n (by omega), upI_n (by omega), upI_n (by omega), upI_n (by omega)]
      exact hq p hp
    · rw [cF_neg q2]
      have main : ∀ k : Int, kdItem c = k → 0 ≤ k ∧ k ≤ 2 → v 20 < 4 → okPan tx len k i → vL (setPt tx len v (kdItem c) i) := by
        intro k ek hk h4 hp
        rw [ek]
        exact vL_set hv h4 ⟨hk, hp.2.2.2.2.1, hp.2.2.2.2.2.1, hp.2.2.2.2.2.2.1, hp.2.2.2.2.2.2.2⟩
      rcases h with z | z | z | z | z
      · exact main 0 (by rw [kdItem, cif_pos z.1]) (by decide) z.2.1 z.2.2
      · exact main 1 (by rw [kdItem, cif_neg (by omega), cif_pos z.1]) (by decide) z.2.1 z.2.2
      · exact main 2 (by rw [kdItem, cif_neg (by omega), cif_neg (by omega)]) (by decide) z.2.1 z.2.2
      · exact absurd z.1 q
      · exact absurd z.1 q2
theorem vL_lst {tx : Nat → Int} {len : Int} (k : Nat) : ∀ {v : Nat → Int} {i : Int}, vL v → len - i ≤ (k : Int) → 0 ≤ i → flt tx len k i (v 20) = -4 → vL (lst tx len k i v) := by
  induction k with
  | zero => intro v i hv _ _ _; exact hv
  | succ k ih =>
    intro v i hv hk hi hf
    simp only [lst]
    by_cases q : i < len
    · rw [cF_pos q]
      simp only [flt] at hf
      rw [cif_pos q] at hf
      by_cases ok : okItem tx len (v 20) (bt tx len i) (i + 1)
      · rw [cif_pos ok] at hf
        have h1 := nxItem_gt tx len (bt tx len i) (i + 1)
        refine ih (vL_st hv ok) (by omega) (by omega) ?_
        rw [st_20 hv.1 ok]
        exact hf
      · rw [cif_neg ok] at hf; omega
    · rw [cF_neg q]; exact hv
theorem vL_rd0 : vL rd0 := ⟨by decide, by decide, by decide, by decide, fun q h => by have h2 : rd0 20 = 0 := rfl; rw [h2] at h; omega⟩
theorem vL_agr {v w : Nat → Int} (h : agr v w) (hv : vL v) : vL w := by
  obtain ⟨h20, h21, h22, h23, hq⟩ := hv
  have e20 := h 20 (by decide)
  refine ⟨by rw [← e20]; exact h20, by rw [← h 21 (by decide)]; exact h21, by rw [← h 22 (by decide)]; exact h22, by rw [← h 23 (by decide)]; exact h23, fun q hq1 => ?_⟩
  rw [← e20] at hq1
  rw [← h (5 * q) (by omega), ← h (5 * q + 1) (by omega), ← h (5 * q + 2) (by omega), ← h (5 * q + 3) (by omega), ← h (5 * q + 4) (by omega)]
  exact hq q hq1
