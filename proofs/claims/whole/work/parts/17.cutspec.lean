/-! boards and blocks: what is cut -/
def ffr (us bl : Nat → Int) (cw B size : Int) : Nat → Nat → Nat
  | 0, b => b
  | k + 1, b => if us b + cw * bl b + size ≤ B then b else ffr us bl cw B size k (b + 1)
theorem ffr_le (us bl : Nat → Int) (cw B size : Int) (k : Nat) : ∀ b, b ≤ ffr us bl cw B size k b ∧ ffr us bl cw B size k b ≤ b + k := by
  induction k with
  | zero => intro b; simp [ffr]
  | succ k ih =>
    intro b
    simp only [ffr]
    split
    · omega
    · have := ih (b + 1); omega
theorem ffr_room (us bl : Nat → Int) (cw B size : Int) (k : Nat) : ∀ b, ffr us bl cw B size k b < b + k → us (ffr us bl cw B size k b) + cw * bl (ffr us bl cw B size k b) + size ≤ B := by
  induction k with
  | zero => intro b h; simp [ffr] at h
  | succ k ih =>
    intro b h
    simp only [ffr] at h ⊢
    split
    · assumption
    · rename_i hn
      rw [if_neg hn] at h
      exact ih (b + 1) (by omega)
theorem ffr_no (us bl : Nat → Int) (cw B size : Int) (k : Nat) : ∀ b i, b ≤ i → i < ffr us bl cw B size k b → ¬ us i + cw * bl i + size ≤ B := by
  induction k with
  | zero => intro b i h1 h2; simp [ffr] at h2; omega
  | succ k ih =>
    intro b i h1 h2
    simp only [ffr] at h2
    by_cases hn : us b + cw * bl b + size ≤ B
    · rw [if_pos hn] at h2; omega
    · rw [if_neg hn] at h2
      rcases Nat.lt_or_ge b i with q | q
      · exact ih (b + 1) i q h2
      · rw [show i = b by omega]; exact hn
theorem ffr_congr {us bl us2 bl2 : Nat → Int} {cw B size : Int} (k : Nat) : ∀ b, (∀ i, b ≤ i → i < b + k → us i = us2 i ∧ bl i = bl2 i) → ffr us bl cw B size k b = ffr us2 bl2 cw B size k b := by
  induction k with
  | zero => intro b _; rfl
  | succ k ih =>
    intro b h
    simp only [ffr]
    rw [(h b (by omega) (by omega)).1, (h b (by omega) (by omega)).2, ih (b + 1) (fun i h1 h2 => h i (by omega) (by omega))]
theorem ffr_skip {us bl : Nat → Int} {cw B size : Int} (b0 : Nat) : ∀ n b, b0 ≤ n → (∀ i, b ≤ i → i < b + b0 → ¬ us i + cw * bl i + size ≤ B) → ffr us bl cw B size n b = ffr us bl cw B size (n - b0) (b + b0) := by
  induction b0 with
  | zero => intro n b _ _; rfl
  | succ b0 ih =>
    intro n b hn h
    obtain ⟨k, rfl⟩ : ∃ k, n = k + 1 := ⟨n - 1, by omega⟩
    simp only [ffr]
    rw [if_neg (h b (by omega) (by omega)), ih k (b + 1) (by omega) (fun i h1 h2 => h i (by omega) (by omega)), show k + 1 - (b0 + 1) = k - b0 by omega, show b + 1 + b0 = b + (b0 + 1) by omega]
/-- boards, cuts, all lengths; used, pieces, longest of each board; the board of each cut -/
abbrev CS : Type := (Int × Int × Int) × (Nat → Int) × (Nat → Int) × (Nat → Int) × (Nat → Int)
def ffs (cw B size : Int) (s : CS) : Nat := ffr s.2.1 s.2.2.1 cw B size s.1.1.toNat 0
def cut1 (cw B size : Int) (s : CS) : CS :=
  if ((ffs cw B size s : Nat) : Int) = s.1.1 then ((s.1.1 + 1, s.1.2.1 + 1, s.1.2.2 + size), upI (upI s.2.1 (ffs cw B size s) 0) (ffs cw B size s) (upI s.2.1 (ffs cw B size s) 0 (ffs cw B size s) + size), upI (upI s.2.2.1 (ffs cw B size s) 0) (ffs cw B size s) (upI s.2.2.1 (ffs cw B size s) 0 (ffs cw B size s) + 1), upI s.2.2.2.1 (ffs cw B size s) size, upI s.2.2.2.2 s.1.2.1.toNat ((ffs cw B size s : Nat) : Int))
  else ((s.1.1, s.1.2.1 + 1, s.1.2.2 + size), upI s.2.1 (ffs cw B size s) (s.2.1 (ffs cw B size s) + size), upI s.2.2.1 (ffs cw B size s) (s.2.2.1 (ffs cw B size s) + 1), s.2.2.2.1, upI s.2.2.2.2 s.1.2.1.toNat ((ffs cw B size s : Nat) : Int))
def okC (s : CS) : Prop := 0 ≤ s.1.1 ∧ s.1.1 ≤ s.1.2.1 ∧ 0 ≤ s.1.2.2 ∧ s.1.2.2 ≤ 400 * s.1.2.1 ∧ ∀ b : Nat, (b : Int) < s.1.1 → (0 ≤ s.2.1 b ∧ s.2.1 b ≤ 400) ∧ (0 ≤ s.2.2.1 b ∧ s.2.2.1 b ≤ s.1.2.1)
theorem ffs_le (cw B size : Int) {s : CS} (h : okC s) : ((ffs cw B size s : Nat) : Int) ≤ s.1.1 := by
  have := ffr_le s.2.1 s.2.2.1 cw B size s.1.1.toNat 0
  have h0 := h.1
  unfold ffs
  omega
theorem cut1_cu (cw B size : Int) (s : CS) : (cut1 cw B size s).1.2.1 = s.1.2.1 + 1 := by
  unfold cut1
  split <;> rfl
theorem cut1_br (cw B size : Int) (s : CS) : (cut1 cw B size s).2.2.2.2 = upI s.2.2.2.2 s.1.2.1.toNat ((ffs cw B size s : Nat) : Int) := by
  unfold cut1
  split <;> rfl
theorem okC_cut1 {cw B size : Int} {s : CS} (h : okC s) (hs : 0 ≤ size ∧ size ≤ B ∧ B ≤ 400) (hc : 0 ≤ cw) : okC (cut1 cw B size s) := by
  have hle := ffs_le cw B size h
  obtain ⟨h0, h1, h2, h3, h4⟩ := h
  by_cases hn : ((ffs cw B size s : Nat) : Int) = s.1.1
  · unfold cut1
    rw [if_pos hn]
    refine ⟨?_, ?_, ?_, ?_, fun b hb => ?_⟩
    · show 0 ≤ s.1.1 + 1; omega
    · show s.1.1 + 1 ≤ s.1.2.1 + 1; omega
    · show 0 ≤ s.1.2.2 + size; omega
    · show s.1.2.2 + size ≤ 400 * (s.1.2.1 + 1); omega
    · have hb : (b : Int) < s.1.1 + 1 := hb
      show (0 ≤ upI (upI s.2.1 (ffs cw B size s) 0) (ffs cw B size s) (upI s.2.1 (ffs cw B size s) 0 (ffs cw B size s) + size) b ∧ upI (upI s.2.1 (ffs cw B size s) 0) (ffs cw B size s) (upI s.2.1 (ffs cw B size s) 0 (ffs cw B size s) + size) b ≤ 400) ∧ (0 ≤ upI (upI s.2.2.1 (ffs cw B size s) 0) (ffs cw B size s) (upI s.2.2.1 (ffs cw B size s) 0 (ffs cw B size s) + 1) b ∧ upI (upI s.2.2.1 (ffs cw B size s) 0) (ffs cw B size s) (upI s.2.2.1 (ffs cw B size s) 0 (ffs cw B size s) + 1) b ≤ s.1.2.1 + 1)
      by_cases e : b = ffs cw B size s
      · subst e
        rw [upI_s, upI_s, upI_s, upI_s]
        omega
      · rw [upI_n e, upI_n e, upI_n e, upI_n e]
        have := h4 b (by omega)
        omega
  · unfold cut1
    rw [if_neg hn]
    have hr : s.2.1 (ffs cw B size s) + cw * s.2.2.1 (ffs cw B size s) + size ≤ B := ffr_room s.2.1 s.2.2.1 cw B size s.1.1.toNat 0 (by show ffs cw B size s < _; omega)
    have hb0 := h4 (ffs cw B size s) (by omega)
    have hm : 0 ≤ cw * s.2.2.1 (ffs cw B size s) := Int.mul_nonneg hc hb0.2.1
    refine ⟨h0, ?_, ?_, ?_, fun b hb => ?_⟩
    · show s.1.1 ≤ s.1.2.1 + 1; omega
    · show 0 ≤ s.1.2.2 + size; omega
    · show s.1.2.2 + size ≤ 400 * (s.1.2.1 + 1); omega
    · have hb : (b : Int) < s.1.1 := hb
      show (0 ≤ upI s.2.1 (ffs cw B size s) (s.2.1 (ffs cw B size s) + size) b ∧ upI s.2.1 (ffs cw B size s) (s.2.1 (ffs cw B size s) + size) b ≤ 400) ∧ (0 ≤ upI s.2.2.1 (ffs cw B size s) (s.2.2.1 (ffs cw B size s) + 1) b ∧ upI s.2.2.1 (ffs cw B size s) (s.2.2.1 (ffs cw B size s) + 1) b ≤ s.1.2.1 + 1)
      by_cases e : b = ffs cw B size s
      · subst e
        rw [upI_s, upI_s]
        omega
      · rw [upI_n e, upI_n e]
        have := h4 b hb
        omega
/-- the same as far as it counts -/
def Sim (s t : CS) : Prop := s.1 = t.1 ∧ (∀ b : Nat, (b : Int) < s.1.1 → s.2.1 b = t.2.1 b ∧ s.2.2.1 b = t.2.2.1 b ∧ s.2.2.2.1 b = t.2.2.2.1 b) ∧ ∀ i : Nat, (i : Int) < s.1.2.1 → s.2.2.2.2 i = t.2.2.2.2 i
theorem Sim_ffs {cw B size : Int} {s t : CS} (h : Sim s t) (hok : okC s) : ffs cw B size s = ffs cw B size t := by
  have h0 := hok.1
  unfold ffs
  rw [← h.1]
  exact ffr_congr _ 0 (fun i _ hi => ⟨(h.2.1 i (by omega)).1, (h.2.1 i (by omega)).2.1⟩)
theorem Sim_cut1 {cw B size : Int} {s t : CS} (h : Sim s t) (hok : okC s) : Sim (cut1 cw B size s) (cut1 cw B size t) := by
  have hf := Sim_ffs (cw := cw) (B := B) (size := size) h hok
  have hle := ffs_le cw B size hok
  obtain ⟨h1, h2, h3⟩ := h
  have h0 := hok.1
  have h01 := hok.2.1
  generalize hb : ffs cw B size s = b at *
  unfold cut1
  rw [← hf, hb, ← h1]
  by_cases hn : (b : Int) = s.1.1
  · rw [if_pos hn, if_pos hn]
    refine ⟨rfl, fun j hj => ?_, fun i hi => ?_⟩
    · have hj : (j : Int) < s.1.1 + 1 := hj
      by_cases e : j = b
      · subst e
        simp only [upI_s]
        exact ⟨trivial, trivial, trivial⟩
      · simp only [upI_n e]
        exact h2 j (by omega)
    · have hi : (i : Int) < s.1.2.1 + 1 := hi
      by_cases e : i = s.1.2.1.toNat
      · subst e; simp only [upI_s]
      · simp only [upI_n e]
        exact h3 i (by omega)
  · rw [if_neg hn, if_neg hn]
    refine ⟨rfl, fun j hj => ?_, fun i hi => ?_⟩
    · have hj : (j : Int) < s.1.1 := hj
      by_cases e : j = b
      · subst e
        simp only [upI_s]
        have := h2 j hj
        rw [this.1, this.2.1]
        exact ⟨rfl, rfl, this.2.2⟩
      · simp only [upI_n e]
        exact h2 j hj
    · have hi : (i : Int) < s.1.2.1 + 1 := hi
      by_cases e : i = s.1.2.1.toNat
      · subst e; simp only [upI_s]
      · simp only [upI_n e]
        exact h3 i (by omega)
def itC (cw B size : Int) : Nat → CS → CS
  | 0, s => s
  | n + 1, s => cut1 cw B size (itC cw B size n s)
theorem itC_cu (cw B size : Int) (n : Nat) (s : CS) : (itC cw B size n s).1.2.1 = s.1.2.1 + (n : Int) := by
  induction n with
  | zero => simp [itC]
  | succ n ih => rw [itC, cut1_cu, ih]; omega
theorem okC_itC {cw B size : Int} {s : CS} (h : okC s) (hs : 0 ≤ size ∧ size ≤ B ∧ B ≤ 400) (hc : 0 ≤ cw) (n : Nat) : okC (itC cw B size n s) := by
  induction n with
  | zero => exact h
  | succ n ih => exact okC_cut1 ih hs hc
theorem Sim_itC {cw B size : Int} {s t : CS} (h : Sim s t) (hok : okC s) (hs : 0 ≤ size ∧ size ≤ B ∧ B ≤ 400) (hc : 0 ≤ cw) (n : Nat) : Sim (itC cw B size n s) (itC cw B size n t) := by
  induction n with
  | zero => exact h
  | succ n ih => exact Sim_cut1 ih (okC_itC hok hs hc n)
theorem itC_br {cw B size : Int} {s : CS} (h0 : 0 ≤ s.1.2.1) (n : Nat) {i : Nat} (hi : (i : Int) < s.1.2.1) : (itC cw B size n s).2.2.2.2 i = s.2.2.2.2 i := by
  induction n with
  | zero => rfl
  | succ n ih =>
    have := itC_cu cw B size n s
    rw [itC, cut1_br, upI_n (by omega), ih]
/-- the depth of well k (forty to a panel) -/
noncomputable def dM (v : Nat → Int) (k : Nat) : Int := cif (((k / 40 : Nat) : Int) < v 20 ∧ ((k % 40 : Nat) : Int) < pv v ((k / 40 : Nat) : Int) 4) (dpt (pv v ((k / 40 : Nat) : Int) 0) (pv v ((k / 40 : Nat) : Int) 1) (pv v ((k / 40 : Nat) : Int) 2) (((k % 40 : Nat) : Int) + pv v ((k / 40 : Nat) : Int) 3)) 0
theorem dM_bd {v : Nat → Int} (h : vL v) (k : Nat) : 0 ≤ dM v k ∧ dM v k ≤ 30 := by
  unfold dM
  by_cases q : ((k / 40 : Nat) : Int) < v 20 ∧ ((k % 40 : Nat) : Int) < pv v ((k / 40 : Nat) : Int) 4
  · rw [cif_pos q]
    obtain ⟨hk, hn, hf, -, -⟩ := vL_p h ⟨Int.natCast_nonneg _, q.1⟩
    exact dpt_bd hk hn hf _
  · rw [cif_neg q]; decide
noncomputable def cnt (v : Nat → Int) (d : Int) : Nat → Nat
  | 0 => 0
  | K + 1 => cnt v d K + cF (dM v K = d) 1 0
theorem cnt_le (v : Nat → Int) (d : Int) (K : Nat) : cnt v d K ≤ K := by
  induction K with
  | zero => exact Nat.le_refl 0
  | succ K ih =>
    rw [cnt]
    by_cases q : dM v K = d
    · rw [cF_pos q]; omega
    · rw [cF_neg q]; omega
theorem cnt_mono {v : Nat → Int} {d : Int} {i j : Nat} (h : i ≤ j) : cnt v d i ≤ cnt v d j := by
  induction j with
  | zero => rw [show i = 0 by omega]; exact Nat.le_refl _
  | succ j ih =>
    rcases Nat.lt_or_ge i (j + 1) with q | q
    · have := ih (by omega)
      rw [cnt]
      omega
    · rw [show i = j + 1 by omega]; exact Nat.le_refl _
theorem cnt_lt {v : Nat → Int} {d : Int} {i j : Nat} (h : i < j) (hd : dM v i = d) : cnt v d i < cnt v d j := by
  have h1 : cnt v d (i + 1) = cnt v d i + 1 := by rw [cnt, cF_pos hd]
  have h2 := cnt_mono (v := v) (d := d) (show i + 1 ≤ j by omega)
  omega
/-- behind j levels: the depths 30 down to 31 - j -/
noncomputable def lvC (v : Nat → Int) (s0 : CS) : Nat → CS
  | 0 => s0
  | j + 1 => cF (v 22 < (30 - (j : Int)) * v 21) (lvC v s0 j) (itC (v 23) (v 22) ((30 - (j : Int)) * v 21) (cnt v (30 - (j : Int)) 160) (lvC v s0 j))
noncomputable def lvL (v : Nat → Int) : Nat → Int
  | 0 => 0
  | j + 1 => lvL v j + cif (v 22 < (30 - (j : Int)) * v 21) (cnt v (30 - (j : Int)) 160 : Int) 0
theorem sizes {v : Nat → Int} (h : vL v) (j : Nat) (hj : j < 30) (hs : ¬ v 22 < (30 - (j : Int)) * v 21) : 0 ≤ (30 - (j : Int)) * v 21 ∧ (30 - (j : Int)) * v 21 ≤ v 22 ∧ v 22 ≤ 400 := by
  obtain ⟨-, h21, h22, -, -⟩ := h
  have : 0 ≤ (30 - (j : Int)) * v 21 := Int.mul_nonneg (by omega) (by omega)
  omega
theorem okC_lvC {v : Nat → Int} {s0 : CS} (h : vL v) (h0 : okC s0) (j : Nat) (hj : j ≤ 30) : okC (lvC v s0 j) := by
  induction j with
  | zero => exact h0
  | succ j ih =>
    rw [lvC]
    by_cases q : v 22 < (30 - (j : Int)) * v 21
    · rw [cF_pos q]; exact ih (by omega)
    · rw [cF_neg q]; exact okC_itC (ih (by omega)) (sizes h j (by omega) q) h.2.2.2.1.1 _
theorem Sim_lvC {v : Nat → Int} {s0 t0 : CS} (h : vL v) (h0 : okC s0) (hs : Sim s0 t0) (j : Nat) (hj : j ≤ 30) : Sim (lvC v s0 j) (lvC v t0 j) := by
  induction j with
  | zero => exact hs
  | succ j ih =>
    rw [lvC, lvC]
    by_cases q : v 22 < (30 - (j : Int)) * v 21
    · rw [cF_pos q, cF_pos q]; exact ih (by omega)
    · rw [cF_neg q, cF_neg q]; exact Sim_itC (ih (by omega)) (okC_lvC h h0 j (by omega)) (sizes h j (by omega) q) h.2.2.2.1.1 _
def CZ : CS := ((0, 0, 0), (fun _ => 0), (fun _ => 0), (fun _ => 0), (fun _ => 0))
theorem okC_0 (us bl lg br : Nat → Int) : okC ((0, 0, 0), us, bl, lg, br) := ⟨Int.le_refl _, Int.le_refl _, Int.le_refl _, (show (0 : Int) ≤ 400 * 0 by decide), fun b hb => absurd hb (by show ¬ (b : Int) < 0; omega)⟩
theorem Sim_0 (us bl lg br us2 bl2 lg2 br2 : Nat → Int) : Sim ((0, 0, 0), us, bl, lg, br) ((0, 0, 0), us2, bl2, lg2, br2) := ⟨rfl, fun b hb => absurd hb (by show ¬ (b : Int) < 0; omega), fun b hb => absurd hb (by show ¬ (b : Int) < 0; omega)⟩
/-- all that is cut of v -/
noncomputable def fC (v : Nat → Int) : CS := lvC v CZ 30
/-- how many are cut ahead of well k -/
noncomputable def rk (v : Nat → Int) (k : Nat) : Nat := (lvC v CZ (30 - dM v k).toNat).1.2.1.toNat + cnt v (dM v k) k
/-- the board of well k, or -4 -/
noncomputable def whB (v : Nat → Int) (k : Nat) : Int := cif (1 ≤ dM v k ∧ ¬ v 22 < dM v k * v 21) ((fC v).2.2.2.2 (rk v k)) (-4)
theorem lvC_cu (v : Nat → Int) (s0 : CS) (j : Nat) : (lvC v s0 (j + 1)).1.2.1 = (lvC v s0 j).1.2.1 + cif (v 22 < (30 - (j : Int)) * v 21) 0 (cnt v (30 - (j : Int)) 160 : Int) := by
  rw [lvC]
  by_cases q : v 22 < (30 - (j : Int)) * v 21
  · rw [cF_pos q, cif_pos q]; omega
  · rw [cF_neg q, cif_neg q, itC_cu]
theorem lvC_mono {v : Nat → Int} {s0 : CS} {i j : Nat} (h : i ≤ j) : (lvC v s0 i).1.2.1 ≤ (lvC v s0 j).1.2.1 := by
  induction j with
  | zero => rw [show i = 0 by omega]; exact Int.le_refl _
  | succ j ih =>
    rcases Nat.lt_or_ge i (j + 1) with q | q
    · have h1 := ih (by omega)
      rw [lvC_cu]
      by_cases z : v 22 < (30 - (j : Int)) * v 21
      · rw [cif_pos z]; omega
      · rw [cif_neg z]; omega
    · rw [show i = j + 1 by omega]; exact Int.le_refl _
noncomputable def cntG (v : Nat → Int) (t : Int) : Nat → Nat
  | 0 => 0
  | K + 1 => cntG v t K + cF (t < dM v K) 1 0
theorem cntG_le (v : Nat → Int) (t : Int) (K : Nat) : cntG v t K ≤ K := by
  induction K with
  | zero => exact Nat.le_refl 0
  | succ K ih =>
    rw [cntG]
    by_cases q : t < dM v K
    · rw [cF_pos q]; omega
    · rw [cF_neg q]; omega
theorem cntG_step (v : Nat → Int) (t : Int) (K : Nat) : cntG v (t - 1) K = cntG v t K + cnt v t K := by
  induction K with
  | zero => rfl
  | succ K ih =>
    rw [cntG, cntG, cnt, ih]
    by_cases q : t < dM v K
    · rw [cF_pos q, cF_pos (show t - 1 < dM v K by omega), cF_neg (show ¬ dM v K = t by omega)]; omega
    · by_cases q2 : dM v K = t
      · rw [cF_neg q, cF_pos (show t - 1 < dM v K by omega), cF_pos q2]; omega
      · rw [cF_neg q, cF_neg (show ¬ t - 1 < dM v K by omega), cF_neg q2]; omega
theorem cu_le (v : Nat → Int) (s0 : CS) (j : Nat) : (lvC v s0 j).1.2.1 ≤ s0.1.2.1 + (cntG v (30 - (j : Int)) 160 : Int) := by
  induction j with
  | zero => rw [lvC]; omega
  | succ j ih =>
    have h1 := cntG_step v (30 - (j : Int)) 160
    rw [lvC_cu, show (30 - ((j + 1 : Nat) : Int)) = 30 - (j : Int) - 1 by omega, h1]
    by_cases q : v 22 < (30 - (j : Int)) * v 21
    · rw [cif_pos q]; omega
    · rw [cif_neg q]; omega
theorem lo_le (v : Nat → Int) (j : Nat) : 0 ≤ lvL v j ∧ lvL v j ≤ (cntG v (30 - (j : Int)) 160 : Int) := by
  induction j with
  | zero => rw [lvL]; omega
  | succ j ih =>
    have h1 := cntG_step v (30 - (j : Int)) 160
    rw [lvL, show (30 - ((j + 1 : Nat) : Int)) = 30 - (j : Int) - 1 by omega, h1]
    by_cases q : v 22 < (30 - (j : Int)) * v 21
    · rw [cif_pos q]; omega
    · rw [cif_neg q]; omega
theorem cu_lt {v : Nat → Int} {s0 : CS} (h0 : s0.1.2.1 = 0) (j K : Nat) (hK : K < 160) (hd : dM v K = 30 - (j : Int)) : (lvC v s0 j).1.2.1 + (cnt v (30 - (j : Int)) K : Int) < 160 := by
  have h1 := cu_le v s0 j
  have h2 := cntG_step v (30 - (j : Int)) 160
  have h3 := cntG_le v (30 - (j : Int) - 1) 160
  have h4 := cnt_lt (v := v) hK hd
  omega
theorem cu_160 {v : Nat → Int} {s0 : CS} (h0 : s0.1.2.1 = 0) (j : Nat) : (lvC v s0 j).1.2.1 ≤ 160 := by
  have h1 := cu_le v s0 j
  have h3 := cntG_le v (30 - (j : Int)) 160
  omega
