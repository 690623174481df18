/-! the model: what its pure methods say -/
noncomputable def cif (P : Prop) (a b : Int) : Int := @ite Int P (Classical.propDecidable P) a b
theorem cif_pos {P : Prop} (h : P) {a b : Int} : cif P a b = a := by unfold cif; exact if_pos h
theorem cif_neg {P : Prop} (h : ¬ P) {a b : Int} : cif P a b = b := by unfold cif; exact if_neg h
/-- number j of panel p -/
def pv (v : Nat → Int) (p : Int) (j : Nat) : Int := v (5 * p.toNat + j)
theorem vL_p {v : Nat → Int} {p : Int} (h : vL v) (hp : 0 ≤ p ∧ p < v 20) : vP (pv v p 0) (pv v p 1) (pv v p 2) (pv v p 3) (pv v p 4) := h.2.2.2.2 p.toNat (by omega)
def ModAt (D : va_G) (cs : Nat → ClassId) (H : Heap) (o b : Nat) (fs : List Value) (v : Nat → Int) : Prop := va_P D classes [(o, .inr (6, fs)), (b, iaC cs 24 v)] H ∧ fs[3]? = some (.ref b) ∧ vL v
theorem preV_mod {D : va_G} {cs : Nat → ClassId} {s : State} {H : Heap} {o b : Nat} {fs : List Value} {v : Nat → Int} {vs : List Value} (hK : KA D cs s) (h : ModAt D cs H o b fs v) : PreV s H "SoundWellsModel" o (va_Pc (.ref o :: vs) (fun U => KA D cs U ∧ ModAt D cs U.heap o b fs v)) vs := preV_of (Bf := fun U H => KA D cs U ∧ ModAt D cs H o b fs v) (Stb_and (KA_stb D cs) Stb_H) (va_recv hK h.1 (ci := 6) (q0 := 0) rfl rfl) ⟨hK, h⟩
def ModT (D : va_G) (cs : Nat → ClassId) (H : Heap) (o t : Nat) (fs : List Value) (len : Int) (tx : Nat → Int) : Prop := va_P D classes [(o, .inr (6, fs)), (t, iaC cs 200 tx)] H ∧ fs[0]? = some (.int (iI len)) ∧ fs[1]? = some (.ref t) ∧ (0 ≤ len ∧ len ≤ 200)
theorem preV_modT {D : va_G} {cs : Nat → ClassId} {s : State} {H : Heap} {o t : Nat} {fs : List Value} {len : Int} {tx : Nat → Int} {vs : List Value} (hK : KA D cs s) (h : ModT D cs H o t fs len tx) : PreV s H "SoundWellsModel" o (va_Pc (.ref o :: vs) (fun U => KA D cs U ∧ ModT D cs U.heap o t fs len tx)) vs := preV_of (Bf := fun U H => KA D cs U ∧ ModT D cs H o t fs len tx) (Stb_and (KA_stb D cs) Stb_H) (va_recv hK h.1 (ci := 6) (q0 := 0) rfl rfl) ⟨hK, h⟩
theorem preV_0 {s : State} {H : Heap} {C : String} {b : Nat} {vs : List Value} (hr : ∃ cell : Cell, H[b]? = some cell ∧ cell.vm.isStatics = false ∧ s.vm.findClass C = some cell.cls) : PreV s H C b (va_Pc (.ref b :: vs) (fun _ => True)) vs := ⟨fun _ _ _ _ q => q, hr, fun _ _ _ => ⟨rfl, trivial⟩⟩
/-- trial division -/
def trD (n : Int) : Nat → Int → Bool
  | 0, _ => true
  | k + 1, d => if n < d * d then true else if n % d = 0 then false else trD n k (d + 1)
theorem trD_tab : ∀ n : Nat, n < 32 → 2 < n → trD (n : Int) 5 2 = decide (n ∈ prN) := by decide +kernel
theorem trD_pr {n : Int} (h : 2 < n ∧ n < 32) : trD n 5 2 = true ↔ isPr n := by
  obtain ⟨k, rfl⟩ : ∃ k : Nat, n = (k : Int) := ⟨n.toNat, by omega⟩
  rw [trD_tab k (by omega) (by omega), decide_eq_true_eq]
  constructor
  · intro hm
    simp only [prN, List.mem_cons, List.not_mem_nil, or_false] at hm
    unfold isPr
    omega
  · intro hm
    obtain ⟨j, hj, e⟩ := isPr_mem hm
    rw [show k = j by omega]
    exact hj
theorem sqM_iff {r n : Nat} : sqM r n = true ↔ ∃ v : Nat, v < n ∧ 1 ≤ v ∧ (v : Int) * (v : Int) % (n : Int) = (r : Int) := by
  unfold sqM
  rw [List.any_eq_true]
  constructor
  · rintro ⟨v, hv, h⟩
    rw [decide_eq_true_eq] at h
    refine ⟨v, List.mem_range.mp hv, h.1, ?_⟩
    rw [← h.2]
    simp
  · rintro ⟨v, hv, h1, h2⟩
    refine ⟨v, List.mem_range.mpr hv, ?_⟩
    rw [decide_eq_true_eq]
    refine ⟨h1, ?_⟩
    have h3 : ((v * v % n : Nat) : Int) = (r : Int) := by rw [← h2]; simp
    omega
def lowM (n : Int) : Nat → Int → Int
  | 0, a => a
  | k + 1, a => lowM n k (if 2 ≤ ((k : Int) + 2) ∧ ((k : Int) + 2) < n ∧ rootP ((k : Int) + 2) n = true then (k : Int) + 2 else a)
def cntM (n : Int) : Nat → Int → Int
  | 0, a => a
  | k + 1, a => cntM n k (if 2 ≤ ((k : Int) + 2) ∧ ((k : Int) + 2) < n ∧ rootP ((k : Int) + 2) n = true then a + 1 else a)
theorem rtM_tab : ∀ n ∈ prN, lowM (n : Int) (n - 2) 0 = lowR (n : Int) ∧ cntM (n : Int) (n - 2) 0 = cntR (n : Int) := by decide +kernel
theorem rtM_pr {n : Int} (h : isPr n) : lowM n (n - 2).toNat 0 = lowR n ∧ cntM n (n - 2).toNat 0 = cntR n := by
  obtain ⟨k, hk, rfl⟩ := isPr_mem h
  have := rtM_tab k hk
  have hb := isPr_bd h
  rw [show ((k : Int) - 2).toNat = k - 2 by omega]
  exact this
def wsum (v : Nat → Int) : Nat → Int
  | 0 => 0
  | q + 1 => wsum v q + v (5 * q + 4)
/-- evenness: folds over shifts and differences -/
def evX (k n f : Int) (sh : Int) (a : Int) : Nat → Int
  | 0 => a
  | d + 1 => mxI (evX k n f sh a d) (cnC k n f sh (d : Int) (per k n).toNat)
def evN (k n f : Int) (sh : Int) (a : Int) : Nat → Int
  | 0 => a
  | d + 1 => mnI (evN k n f sh a d) (cnC k n f sh (d : Int) (per k n).toNat)
def evXO (k n f : Int) : Nat → Int
  | 0 => 0
  | j + 1 => evX k n f ((j : Int) + 1) (evXO k n f j) n.toNat
def evNO (k n f : Int) (a : Int) : Nat → Int
  | 0 => a
  | j + 1 => evN k n f ((j : Int) + 1) (evNO k n f a j) n.toNat
def evenS (k n f : Int) : Int := evXO k n f (per k n - 1).toNat - evNO k n f 1000 (per k n - 1).toNat
theorem evX_bd {k n f sh a : Int} (hn : isPr n) (ha : 0 ≤ a ∧ a ≤ 1000) (d : Nat) : 0 ≤ evX k n f sh a d ∧ evX k n f sh a d ≤ 1000 := by
  have hp := per_bd (k := k) hn
  induction d with
  | zero => exact ha
  | succ d ih =>
    have := cnC_bd k n f sh (d : Int) (per k n).toNat
    simp only [evX, mxI]
    split <;> omega
theorem evN_bd {k n f sh a : Int} (hn : isPr n) (ha : 0 ≤ a ∧ a ≤ 1000) (d : Nat) : 0 ≤ evN k n f sh a d ∧ evN k n f sh a d ≤ 1000 := by
  have hp := per_bd (k := k) hn
  induction d with
  | zero => exact ha
  | succ d ih =>
    have := cnC_bd k n f sh (d : Int) (per k n).toNat
    simp only [evN, mnI]
    split <;> omega
theorem evXO_bd {k n f : Int} (hn : isPr n) (j : Nat) : 0 ≤ evXO k n f j ∧ evXO k n f j ≤ 1000 := by
  induction j with
  | zero => exact (show (0 : Int) ≤ 0 ∧ (0 : Int) ≤ 1000 by decide)
  | succ j ih => exact evX_bd hn ih _
theorem evNO_bd {k n f a : Int} (hn : isPr n) (ha : 0 ≤ a ∧ a ≤ 1000) (j : Nat) : 0 ≤ evNO k n f a j ∧ evNO k n f a j ≤ 1000 := by
  induction j with
  | zero => exact ha
  | succ j ih => exact evN_bd hn ih _
noncomputable def miW (k n f o w : Int) : Nat → Int
  | 0 => 1
  | i + 1 => cif (miW k n f o w i = 1 ∧ dpt k n f ((i : Int) + o) = dpt k n f (w - 1 - (i : Int) + o)) 1 0
theorem miW_01 (k n f o w : Int) (i : Nat) : miW k n f o w i = 0 ∨ miW k n f o w i = 1 := by
  cases i with
  | zero => exact Or.inr rfl
  | succ i =>
    by_cases h : miW k n f o w i = 1 ∧ dpt k n f ((i : Int) + o) = dpt k n f (w - 1 - (i : Int) + o)
    · exact Or.inr (cif_pos h)
    · exact Or.inl (cif_neg h)
theorem miW_iff (k n f o w : Int) (i : Nat) : miW k n f o w i = 1 ↔ ∀ j : Nat, j < i → dpt k n f ((j : Int) + o) = dpt k n f (w - 1 - (j : Int) + o) := by
  induction i with
  | zero => exact ⟨fun _ j h => absurd h (Nat.not_lt_zero _), fun _ => rfl⟩
  | succ i ih =>
    constructor
    · intro h j hj
      by_cases hc : miW k n f o w i = 1 ∧ dpt k n f ((i : Int) + o) = dpt k n f (w - 1 - (i : Int) + o)
      · rcases Nat.lt_or_ge j i with q | q
        · exact ih.mp hc.1 j q
        · rw [show j = i by omega]; exact hc.2
      · rw [miW, cif_neg hc] at h; omega
    · intro h
      rw [miW, cif_pos]
      exact ⟨ih.mpr (fun j hj => h j (by omega)), h i (by omega)⟩
theorem miW_mir {k n f o w : Int} (hw : 0 ≤ w) : miW k n f o w w.toNat = cif (mirP k n f o w) 1 0 := by
  by_cases h : mirP k n f o w
  · rw [cif_pos h, miW_iff]
    exact fun j hj => h j (by omega)
  · rw [cif_neg h]
    rcases miW_01 k n f o w w.toNat with q | q
    · exact q
    · exact absurd (fun j hj => (miW_iff k n f o w w.toNat).mp q j (by omega)) h
def bcM (x : Int) : Nat → Int
  | 0 => 0
  | v + 1 => bcM x v + andI (shrI x (v : Int)) 1
def ppM (k n f d : Int) : Nat → Int
  | 0 => 0
  | j + 1 => ppM k n f d j + (if plD k n f ((j : Int) % n) ((j : Int) / n) = d then 1 else 0)
theorem ppM_bd (k n f d : Int) (j : Nat) : 0 ≤ ppM k n f d j ∧ ppM k n f d j ≤ (j : Int) := by
  induction j with
  | zero => exact ⟨by simp [ppM], by simp [ppM]⟩
  | succ j ih =>
    simp only [ppM]
    split <;> omega
/-! what the calls answer -/
noncomputable def aSquares (n : Int) : Int := cif (isPr n) (sqB n) (-1)
noncomputable def aSign (a n : Int) : Int := cif ((0 ≤ a ∧ a ≤ 999) ∧ isPr n) (sg a n + 1) (-1)
noncomputable def aRoot (n what : Int) : Int := cif (isPr n ∧ (0 ≤ what ∧ what ≤ 1)) (cif (what = 0) (lowR n) (cntR n)) (-1)
noncomputable def aLaw (p q : Int) : Int := cif (isPr p ∧ isPr q ∧ ¬ p = q) (sg p q * sg q p + 1) (-1)
noncomputable def aWell (v : Nat → Int) (p i : Int) : Int := cif ((0 ≤ p ∧ p < v 20) ∧ (0 ≤ i ∧ i < pv v p 4)) (dpt (pv v p 0) (pv v p 1) (pv v p 2) (i + pv v p 3)) (-1)
noncomputable def aCounts (v : Nat → Int) (p k d : Int) : Int := cif ((0 ≤ p ∧ p < v 20) ∧ (0 ≤ k ∧ k < per (pv v p 0) (pv v p 1)) ∧ (0 ≤ d ∧ d < pv v p 1)) (cnC (pv v p 0) (pv v p 1) (pv v p 2) k d (per (pv v p 0) (pv v p 1)).toNat) (-1)
noncomputable def aPlane (v : Nat → Int) (p x y : Int) : Int := cif ((0 ≤ p ∧ p < v 20) ∧ (0 ≤ x ∧ x < pv v p 1) ∧ (0 ≤ y ∧ y < pv v p 1)) (plD (pv v p 0) (pv v p 1) (pv v p 2) x y) (-1)
noncomputable def aPlanes (v : Nat → Int) (p d : Int) : Int := cif ((0 ≤ p ∧ p < v 20) ∧ (0 ≤ d ∧ d < pv v p 1)) (ppM (pv v p 0) (pv v p 1) (pv v p 2) d (pv v p 1 * pv v p 1).toNat) (-1)
noncomputable def aSum (v : Nat → Int) (p what : Int) : Int := cif (what = 6) (mxW (pv v p 0) (pv v p 1) (pv v p 2) (pv v p 3) (pv v p 4).toNat) (cif (what = 7) (smW (pv v p 0) (pv v p 1) (pv v p 2) (pv v p 3) (pv v p 4).toNat) (cif (what = 8) (bcM (bsW (pv v p 0) (pv v p 1) (pv v p 2) (pv v p 3) (pv v p 4).toNat) 31) (cif (mirP (pv v p 0) (pv v p 1) (pv v p 2) (pv v p 3) (pv v p 4)) 1 0)))
noncomputable def aPanel (v : Nat → Int) (p what : Int) : Int := cif ((0 ≤ p ∧ p < v 20) ∧ (0 ≤ what ∧ what ≤ 10)) (cif (what < 5) (pv v p what.toNat) (cif (what = 5) (per (pv v p 0) (pv v p 1)) (cif (what < 10) (aSum v p what) (evenS (pv v p 0) (pv v p 1) (pv v p 2))))) (-1)
noncomputable def aCount (v : Nat → Int) (un len what : Int) : Int := cif (what = 0) (v 20) (cif (what = 1) (v 21) (cif (what = 2) (v 22) (cif (what = 3) (v 23) (cif (what = 4) un (cif (what = 5) len (cif (what = 6) (wsum v (v 20).toNat) (-1)))))))
noncomputable def bt (tx : Nat → Int) (len i : Int) : Int := cif (i < len) (tx i.toNat) 0
