/-! boards and blocks: the order of cutting -/
theorem cF_same {α : Type} {P : Prop} {a : α} : cF P a a = a := by
  by_cases h : P
  · exact cF_pos h
  · exact cF_neg h
def dn (v : Nat → Int) (j K k : Nat) : Prop := 30 - (j : Int) < dM v k ∨ (dM v k = 30 - (j : Int) ∧ k < K)
noncomputable def rkS (v : Nat → Int) (s0 : CS) (k : Nat) : Nat := (lvC v s0 (30 - dM v k).toNat).1.2.1.toNat + cnt v (dM v k) k
def BDI (v : Nat → Int) (s0 : CS) (bd br : Nat → Int) (j K : Nat) : Prop := ∀ k : Nat, k < 160 → bd k = cif (dn v j K k ∧ ¬ v 22 < dM v k * v 21) (br (rkS v s0 k)) (-4)
/-- in level j, K wells looked at -/
noncomputable def stT (v : Nat → Int) (s0 : CS) (j K : Nat) : CS := cF (v 22 < (30 - (j : Int)) * v 21) (lvC v s0 j) (itC (v 23) (v 22) ((30 - (j : Int)) * v 21) (cnt v (30 - (j : Int)) K) (lvC v s0 j))
theorem stT_0 (v : Nat → Int) (s0 : CS) (j : Nat) : stT v s0 j 0 = lvC v s0 j := cF_same
theorem stT_160 (v : Nat → Int) (s0 : CS) (j : Nat) : stT v s0 j 160 = lvC v s0 (j + 1) := by rw [lvC, stT]
theorem stT_no {v : Nat → Int} {s0 : CS} {j K : Nat} (h : ¬ dM v K = 30 - (j : Int)) : stT v s0 j (K + 1) = stT v s0 j K := by
  rw [stT, stT, cnt, cF_neg h, Nat.add_zero]
theorem stT_lost {v : Nat → Int} {s0 : CS} {j K K2 : Nat} (h : v 22 < (30 - (j : Int)) * v 21) : stT v s0 j K = stT v s0 j K2 := by
  rw [stT, stT, cF_pos h, cF_pos h]
theorem stT_cut {v : Nat → Int} {s0 : CS} {j K : Nat} (h : ¬ v 22 < (30 - (j : Int)) * v 21) (hd : dM v K = 30 - (j : Int)) : stT v s0 j (K + 1) = cut1 (v 23) (v 22) ((30 - (j : Int)) * v 21) (stT v s0 j K) := by
  rw [stT, stT, cF_neg h, cF_neg h, cnt, cF_pos hd, itC]
theorem stT_cu {v : Nat → Int} {s0 : CS} {j K : Nat} : (stT v s0 j K).1.2.1 = (lvC v s0 j).1.2.1 + cif (v 22 < (30 - (j : Int)) * v 21) 0 (cnt v (30 - (j : Int)) K : Int) := by
  rw [stT]
  by_cases q : v 22 < (30 - (j : Int)) * v 21
  · rw [cF_pos q, cif_pos q]; omega
  · rw [cF_neg q, cif_neg q, itC_cu]
theorem okC_stT {v : Nat → Int} {s0 : CS} (h : vL v) (h0 : okC s0) {j K : Nat} (hj : j < 30) : okC (stT v s0 j K) := by
  rw [stT]
  by_cases q : v 22 < (30 - (j : Int)) * v 21
  · rw [cF_pos q]; exact okC_lvC h h0 j (by omega)
  · rw [cF_neg q]; exact okC_itC (okC_lvC h h0 j (by omega)) (sizes h j hj q) h.2.2.2.1.1 _
theorem cu_pos {s : CS} (h : okC s) : 0 ≤ s.1.2.1 := by have := h.1; have := h.2.1; omega
theorem rk_lt {v : Nat → Int} {s0 : CS} (h : vL v) (h0 : okC s0) {j K k : Nat} (hj : j ≤ 30) (hk : k < 160) (hd : dn v j K k) (hp : 1 ≤ dM v k) (hok : ¬ v 22 < dM v k * v 21) : (rkS v s0 k : Int) < (lvC v s0 j).1.2.1 + cif (v 22 < (30 - (j : Int)) * v 21) 0 (cnt v (30 - (j : Int)) K : Int) := by
  have hb := dM_bd h k
  unfold rkS
  rcases hd with q | q
  · have hi : (30 - dM v k).toNat + 1 ≤ j := by omega
    have e1 : (30 - (((30 - dM v k).toNat : Nat) : Int)) = dM v k := by omega
    have h1 := lvC_cu v s0 (30 - dM v k).toNat
    rw [e1, cif_neg hok] at h1
    have h2 := lvC_mono (v := v) (s0 := s0) hi
    have h3 := cnt_lt (v := v) (d := dM v k) hk rfl
    have h4 := cu_pos (okC_lvC h h0 (30 - dM v k).toNat (by omega))
    by_cases z : v 22 < (30 - (j : Int)) * v 21
    · rw [cif_pos z]; omega
    · rw [cif_neg z]; omega
  · obtain ⟨q1, q2⟩ := q
    have h3 := cnt_lt (v := v) (d := dM v k) q2 rfl
    have h4 := cu_pos (okC_lvC h h0 j hj)
    rw [← q1, cif_neg hok, show (30 - dM v k).toNat = j by omega]
    omega
theorem BDI_init {v : Nat → Int} {s0 : CS} {bd br : Nat → Int} (h : vL v) (hb : ∀ k : Nat, k < 160 → bd k = -4) : BDI v s0 bd br 0 0 := fun k hk => by
  have := dM_bd h k
  rw [cif_neg (fun q => by rcases q.1 with z | z; omega; omega), hb k hk]
theorem BDI_no {v : Nat → Int} {s0 : CS} {bd br : Nat → Int} {j K : Nat} (h : BDI v s0 bd br j K) (hd : ¬ dM v K = 30 - (j : Int)) : BDI v s0 bd br j (K + 1) := fun k hk => by
  rw [h k hk]
  congr 1
  apply propext
  unfold dn
  constructor
  · rintro ⟨q | q, z⟩
    · exact ⟨Or.inl q, z⟩
    · exact ⟨Or.inr ⟨q.1, by omega⟩, z⟩
  · rintro ⟨q | q, z⟩
    · exact ⟨Or.inl q, z⟩
    · refine ⟨Or.inr ⟨q.1, ?_⟩, z⟩
      rcases Nat.lt_or_ge k K with y | y
      · exact y
      · exact absurd (by rw [show K = k by omega]; exact q.1) hd
theorem BDI_lost {v : Nat → Int} {s0 : CS} {bd br : Nat → Int} {j K : Nat} (h : BDI v s0 bd br j K) (hs : v 22 < (30 - (j : Int)) * v 21) : BDI v s0 bd br j (K + 1) := fun k hk => by
  rw [h k hk]
  congr 1
  apply propext
  unfold dn
  constructor
  · rintro ⟨q | q, z⟩
    · exact ⟨Or.inl q, z⟩
    · exact ⟨Or.inr ⟨q.1, by omega⟩, z⟩
  · rintro ⟨q | q, z⟩
    · exact ⟨Or.inl q, z⟩
    · rw [q.1] at z; exact absurd hs z
theorem BDI_cut {v : Nat → Int} {s0 : CS} {bd : Nat → Int} {j K : Nat} (hv : vL v) (h0 : okC s0) (hj : j < 30) (hK : K < 160) (h : BDI v s0 bd (stT v s0 j K).2.2.2.2 j K) (hs : ¬ v 22 < (30 - (j : Int)) * v 21) (hd : dM v K = 30 - (j : Int)) (x : Int) : BDI v s0 (upI bd K x) (upI (stT v s0 j K).2.2.2.2 (stT v s0 j K).1.2.1.toNat x) j (K + 1) := fun k hk => by
  have hcu := cu_pos (okC_stT hv h0 (j := j) (K := K) hj)
  by_cases e : k = K
  · subst e
    rw [upI_s, cif_pos ⟨Or.inr ⟨hd, by omega⟩, by rw [hd]; exact hs⟩]
    have hr : rkS v s0 k = (stT v s0 j k).1.2.1.toNat := by
      have h4 := cu_pos (okC_lvC hv h0 j (by omega))
      rw [stT_cu, cif_neg hs, rkS, hd, show (30 - (30 - (j : Int))).toNat = j by omega]
      omega
    rw [hr, upI_s]
  · rw [upI_n e, h k hk]
    by_cases q : dn v j K k ∧ ¬ v 22 < dM v k * v 21
    · have hq2 : dn v j (K + 1) k ∧ ¬ v 22 < dM v k * v 21 := ⟨by rcases q.1 with z | z; exact Or.inl z; exact Or.inr ⟨z.1, by omega⟩, q.2⟩
      have hp : 1 ≤ dM v k := by rcases q.1 with z | z; omega; omega
      have hl := rk_lt hv h0 (by omega) hk q.1 hp q.2
      rw [← stT_cu] at hl
      rw [cif_pos q, cif_pos hq2, upI_n (by omega)]
    · have hq2 : ¬ (dn v j (K + 1) k ∧ ¬ v 22 < dM v k * v 21) := fun z => q ⟨by rcases z.1 with y | y; exact Or.inl y; exact Or.inr ⟨y.1, by omega⟩, z.2⟩
      rw [cif_neg q, cif_neg hq2]
theorem BDI_next {v : Nat → Int} {s0 : CS} {bd br : Nat → Int} {j : Nat} (h : BDI v s0 bd br j 160) : BDI v s0 bd br (j + 1) 0 := fun k hk => by
  rw [h k hk]
  congr 1
  apply propext
  unfold dn
  constructor
  · rintro ⟨q | q, z⟩
    · exact ⟨Or.inl (by omega), z⟩
    · exact ⟨Or.inl (by omega), z⟩
  · rintro ⟨q | q, z⟩
    · rcases (show 30 - (j : Int) < dM v k ∨ dM v k = 30 - (j : Int) by omega) with y | y
      · exact ⟨Or.inl y, z⟩
      · exact ⟨Or.inr ⟨y, hk⟩, z⟩
    · omega
theorem rkS_rk {v : Nat → Int} {us bl lg br : Nat → Int} (h : vL v) (k : Nat) : rkS v ((0, 0, 0), us, bl, lg, br) k = rk v k := by
  have hb := dM_bd h k
  have hs := Sim_lvC (t0 := CZ) h (okC_0 us bl lg br) (Sim_0 _ _ _ _ _ _ _ _) (30 - dM v k).toNat (by omega)
  rw [rkS, rk, hs.1]
/-- what stands behind all levels, whatever the rows held before -/
theorem cutEnd {v : Nat → Int} {us bl lg br : Nat → Int} {S : CS} (h : vL v) (hS : S = lvC v ((0, 0, 0), us, bl, lg, br) 30) : S.1 = (fC v).1 ∧ (∀ b : Nat, (b : Int) < S.1.1 → S.2.1 b = (fC v).2.1 b ∧ S.2.2.1 b = (fC v).2.2.1 b ∧ S.2.2.2.1 b = (fC v).2.2.2.1 b) ∧ (∀ i : Nat, (i : Int) < S.1.2.1 → S.2.2.2.2 i = (fC v).2.2.2.2 i) := by
  subst hS
  exact Sim_lvC (t0 := CZ) h (okC_0 us bl lg br) (Sim_0 _ _ _ _ _ _ _ _) 30 (Nat.le_refl _)
theorem bdEnd {v : Nat → Int} {us bl lg br bd : Nat → Int} {S : CS} (h : vL v) (hS : S = lvC v ((0, 0, 0), us, bl, lg, br) 30) (hB : BDI v ((0, 0, 0), us, bl, lg, br) bd S.2.2.2.2 30 0) (k : Nat) (hk : k < 160) : bd k = whB v k := by
  have hb := dM_bd h k
  rw [hB k hk, whB]
  by_cases q : 1 ≤ dM v k ∧ ¬ v 22 < dM v k * v 21
  · have hq : dn v 30 0 k ∧ ¬ v 22 < dM v k * v 21 := ⟨Or.inl (by omega), q.2⟩
    have hl := rk_lt h (okC_0 us bl lg br) (Nat.le_refl 30) hk hq.1 q.1 q.2
    have hc := (cutEnd h hS).2.2 (rkS v ((0, 0, 0), us, bl, lg, br) k) (by
      rw [hS]
      by_cases z : v 22 < (30 - ((30 : Nat) : Int)) * v 21
      · rw [cif_pos z] at hl; omega
      · rw [cif_neg z] at hl
        have : cnt v (30 - ((30 : Nat) : Int)) 0 = 0 := rfl
        omega)
    rw [cif_pos hq, cif_pos q, hc, rkS_rk h]
  · have hq : ¬ (dn v 30 0 k ∧ ¬ v 22 < dM v k * v 21) := fun z => q ⟨by rcases z.1 with y | y; omega; omega, z.2⟩
    rw [cif_neg hq, cif_neg q]
theorem fC_ok {v : Nat → Int} (h : vL v) : okC (fC v) ∧ (fC v).1.2.1 ≤ 160 := ⟨okC_lvC h (okC_0 _ _ _ _) 30 (Nat.le_refl _), cu_160 rfl 30⟩
/-! what cut, board, where, best answer -/
noncomputable def aCut (v : Nat → Int) (what : Int) : Int := cif (0 ≤ what ∧ what ≤ 4) (cif (what = 0) (fC v).1.1 (cif (what = 1) (fC v).1.2.1 (cif (what = 2) (lvL v 30) (cif (what = 3) (((fC v).1.2.2 + v 22 - 1) / v 22) ((fC v).1.1 * v 22 - (fC v).1.2.2))))) (-1)
noncomputable def aBoard (v : Nat → Int) (b what : Int) : Int := cif ((0 ≤ b ∧ b < (fC v).1.1) ∧ (0 ≤ what ∧ what ≤ 2)) (cif (what = 0) ((fC v).2.2.1 b.toNat) (cif (what = 1) (v 22 - (fC v).2.1 b.toNat) ((fC v).2.2.2.1 b.toNat))) (-1)
noncomputable def aWhere (v : Nat → Int) (p i : Int) : Int := cif ((0 ≤ p ∧ p < v 20) ∧ (0 ≤ i ∧ i < pv v p 4)) (whB v (40 * p + i).toNat) (-1)
/-- with another offset of panel p -/
def offV (v : Nat → Int) (p o : Int) : Nat → Int := upI v (5 * p.toNat + 3) o
noncomputable def leftS (v : Nat → Int) : Int := cif ((fC v).1.1 = 0) 0 (v 22 - (fC v).2.1 ((fC v).1.1 - 1).toNat)
/-- is v better than (lost, boards, left) -/
def betP (v : Nat → Int) (lo bo le : Int) : Prop := lvL v 30 < lo ∨ (lvL v 30 = lo ∧ ((fC v).1.1 < bo ∨ ((fC v).1.1 = bo ∧ le < leftS v)))
/-- the best of the offsets 0 to k - 1: (which, lost, boards, left) -/
noncomputable def bst (v : Nat → Int) (p : Int) : Nat → Int × Int × Int × Int
  | 0 => (0, 1000, 1000, 0)
  | k + 1 => cF (betP (offV v p (k : Int)) (bst v p k).2.1 (bst v p k).2.2.1 (bst v p k).2.2.2) ((k : Int), lvL (offV v p (k : Int)) 30, (fC (offV v p (k : Int))).1.1, leftS (offV v p (k : Int))) (bst v p k)
noncomputable def aBest (v : Nat → Int) (p what : Int) : Int := cif ((0 ≤ p ∧ p < v 20) ∧ (0 ≤ what ∧ what ≤ 1)) (cif (what = 0) (bst v p (pv v p 1).toNat).1 (bst v p (pv v p 1).toNat).2.2.1) (-1)
