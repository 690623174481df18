/-! Saw: wells in one row, how many are alike, how many come before -/
theorem PlG.pin {D : va_G} {cs : Nat → ClassId} {M : Nat → Prop} {H : Heap} {a : Nat} {v : Nat → Int} {arr : Nat} {g : Nat → Option Nat} (h : PlG D cs M H a v arr g) : PlIn D cs H a arr (v 20).toNat g (v 21) (v 22) (v 23) :=
  ⟨h.2.1, fun q hq => by obtain ⟨y, e, -⟩ := h.2.2.2.2 q (by omega); exact ⟨y, e⟩⟩
def exW (v : Nat → Int) (k : Nat) : Prop := ((k / 40 : Nat) : Int) < v 20 ∧ ((k % 40 : Nat) : Int) < pv v ((k / 40 : Nat) : Int) 4
noncomputable def ix (v : Nat → Int) : Nat → Nat
  | 0 => 0
  | K + 1 => ix v K + cF (exW v K) 1 0
theorem ix_yes {v : Nat → Int} {K : Nat} (h : exW v K) : ix v (K + 1) = ix v K + 1 := by rw [ix, cF_pos h]
theorem ix_no {v : Nat → Int} {K : Nat} (h : ¬ exW v K) : ix v (K + 1) = ix v K := by rw [ix, cF_neg h]; omega
theorem ix_le (v : Nat → Int) (K : Nat) : ix v K ≤ K := by
  induction K with
  | zero => exact Nat.le_refl 0
  | succ K ih =>
    by_cases q : exW v K
    · rw [ix_yes q]; omega
    · rw [ix_no q]; omega
theorem ix_mono {v : Nat → Int} {i j : Nat} (h : i ≤ j) : ix v i ≤ ix v j := by
  induction j with
  | zero => rw [show i = 0 by omega]; exact Nat.le_refl _
  | succ j ih =>
    rcases Nat.lt_or_ge i (j + 1) with q | q
    · have := ih (by omega)
      rw [ix]
      omega
    · rw [show i = j + 1 by omega]; exact Nat.le_refl _
theorem ix_lt {v : Nat → Int} {i j : Nat} (h : i < j) (hd : exW v i) : ix v i < ix v j := by
  have h1 := ix_yes hd
  have h2 := ix_mono (v := v) (show i + 1 ≤ j by omega)
  omega
theorem exW_at {v : Nat → Int} {p i : Nat} (hi : i < 40) : exW v (40 * p + i) ↔ ((p : Int) < v 20 ∧ (i : Int) < v (5 * p + 4)) := by
  unfold exW pv
  rw [show (40 * p + i) / 40 = p by omega, show (40 * p + i) % 40 = i by omega, Int.toNat_natCast]
theorem dM_no {v : Nat → Int} {k : Nat} (h : ¬ exW v k) : dM v k = 0 := by
  unfold dM
  exact cif_neg h
theorem dM_at {v : Nat → Int} {p i : Nat} (hi : i < 40) (h : (p : Int) < v 20 ∧ (i : Int) < v (5 * p + 4)) : dM v (40 * p + i) = dpt (v (5 * p)) (v (5 * p + 1)) (v (5 * p + 2)) ((i : Int) + v (5 * p + 3)) := by
  have h2 := (exW_at (v := v) (p := p) hi).mpr h
  unfold exW at h2
  unfold dM
  rw [cif_pos h2]
  unfold pv
  rw [show (40 * p + i) / 40 = p by omega, show (40 * p + i) % 40 = i by omega, Int.toNat_natCast]
  rfl
theorem ix_in {v : Nat → Int} {p : Nat} (hp : (p : Int) < v 20) (hw : v (5 * p + 4) ≤ 40) (i : Nat) (hi : (i : Int) ≤ v (5 * p + 4)) : ix v (40 * p + i) = ix v (40 * p) + i := by
  induction i with
  | zero => rfl
  | succ i ih =>
    rw [show 40 * p + (i + 1) = (40 * p + i) + 1 by omega, ix_yes ((exW_at (by omega)).mpr ⟨hp, by omega⟩), ih (by omega)]
    omega
theorem ix_out {v : Nat → Int} {p : Nat} (j i : Nat) (hi : i + j ≤ 40) (hw : v (5 * p + 4) ≤ (i : Int)) : ix v (40 * p + (i + j)) = ix v (40 * p + i) := by
  induction j with
  | zero => rfl
  | succ j ih =>
    rw [show 40 * p + (i + (j + 1)) = (40 * p + (i + j)) + 1 by omega, ix_no (fun z => by have := ((exW_at (by omega)).mp z).2; omega), ih (by omega)]
theorem ix_w {v : Nat → Int} (h : vL v) (p : Nat) (hp : (p : Int) ≤ v 20) : (ix v (40 * p) : Int) = wsum v p := by
  induction p with
  | zero => rfl
  | succ p ih =>
    have hw := (h.2.2.2.2 p (by omega)).2.2.2.2
    have h1 := ix_in (v := v) (p := p) (by omega) (by omega) (v (5 * p + 4)).toNat (by omega)
    have h2 := ix_out (v := v) (p := p) (40 - (v (5 * p + 4)).toNat) (v (5 * p + 4)).toNat (by omega) (by omega)
    rw [show 40 * p + ((v (5 * p + 4)).toNat + (40 - (v (5 * p + 4)).toNat)) = 40 * (p + 1) by omega] at h2
    have h3 := ih (by omega)
    rw [wsum]
    omega
/-- the rows of the Saw when the wells below K are gathered -/
def GI (v : Nat → Int) (swl : Int) (dps alk : Nat → Int) (K : Nat) : Prop :=
  swl = (ix v K : Int) ∧ (∀ d : Nat, 1 ≤ d → d ≤ 30 → alk d = (cnt v (d : Int) K : Int)) ∧ (∀ k : Nat, k < K → exW v k → dps (ix v k) = dM v k) ∧ ∀ j : Nat, (j : Int) < swl → 0 ≤ dps j ∧ dps j ≤ 30
theorem GI_0 {v : Nat → Int} {dps alk : Nat → Int} (h : ∀ i : Nat, i < 31 → alk i = 0) : GI v 0 dps alk 0 :=
  ⟨rfl, fun d _ h2 => by rw [h d (by omega)]; rfl, fun k hk => absurd hk (Nat.not_lt_zero _), fun j hj => by omega⟩
theorem GI_step {v : Nat → Int} {swl : Int} {dps alk : Nat → Int} {K : Nat} (hv : vL v) (h : GI v swl dps alk K) (he : exW v K) {d : Int} (hd : dM v K = d) : GI v (swl + 1) (upI dps swl.toNat d) (upI alk d.toNat (alk d.toNat + 1)) (K + 1) := by
  obtain ⟨h1, h2, h3, h4⟩ := h
  have hb := dM_bd hv K
  refine ⟨by rw [ix_yes he]; omega, fun e he1 he2 => ?_, fun k hk hek => ?_, fun j hj => ?_⟩
  · rw [cnt]
    by_cases z : e = d.toNat
    · rw [← z, upI_s, h2 e he1 he2, cF_pos (by omega)]; omega
    · rw [upI_n z, h2 e he1 he2, cF_neg (by omega)]; omega
  · by_cases z : k = K
    · subst z
      rw [show ix v k = swl.toNat by omega, upI_s, hd]
    · have := ix_lt (show k < K by omega) hek
      rw [upI_n (by omega)]
      exact h3 k (by omega) hek
  · by_cases z : j = swl.toNat
    · rw [z, upI_s]; omega
    · rw [upI_n z]; exact h4 j (by omega)
theorem GI_no {v : Nat → Int} {swl : Int} {dps alk : Nat → Int} {K : Nat} (h : GI v swl dps alk K) (he : ¬ exW v K) : GI v swl dps alk (K + 1) := by
  obtain ⟨h1, h2, h3, h4⟩ := h
  have hd := dM_no he
  refine ⟨by rw [ix_no he]; exact h1, fun e he1 he2 => ?_, fun k hk hek => ?_, h4⟩
  · rw [cnt, h2 e he1 he2, cF_neg (by omega)]; omega
  · by_cases z : k = K
    · subst z; exact absurd hek he
    · exact h3 k (by omega) hek
theorem GI_rest {v : Nat → Int} {swl : Int} {dps alk : Nat → Int} {K : Nat} (h : GI v swl dps alk K) (j : Nat) (hn : ∀ k, K ≤ k → k < K + j → ¬ exW v k) : GI v swl dps alk (K + j) := by
  induction j with
  | zero => exact h
  | succ j ih => exact GI_no (ih (fun k h1 h2 => hn k h1 (by omega))) (hn (K + j) (by omega) (by omega))
theorem GI_panel {v : Nat → Int} {swl : Int} {dps alk : Nat → Int} {p i : Nat} (hi : i ≤ 40) (hw : v (5 * p + 4) ≤ (i : Int)) (h : GI v swl dps alk (40 * p + i)) : GI v swl dps alk (40 * (p + 1)) := by
  have h2 := GI_rest h (40 - i) (fun k h1 h2 z => by
    obtain ⟨j, rfl⟩ : ∃ j, k = 40 * p + j := ⟨k - 40 * p, by omega⟩
    have := ((exW_at (by omega)).mp z).2
    omega)
  rw [show 40 * p + i + (40 - i) = 40 * (p + 1) by omega] at h2
  exact h2
theorem GI_all {v : Nat → Int} {swl : Int} {dps alk : Nat → Int} {p : Nat} (hp : v 20 ≤ (p : Int)) (hp4 : p ≤ 4) (h : GI v swl dps alk (40 * p)) : GI v swl dps alk 160 := by
  have h2 := GI_rest h (160 - 40 * p) (fun k h1 h2 z => by have := z.1; omega)
  rw [show 40 * p + (160 - 40 * p) = 160 by omega] at h2
  exact h2
/-- how many of the first j are cut ahead of this one -/
noncomputable def bwC (dps : Nat → Int) (un bo d well : Int) : Nat → Nat
  | 0 => 0
  | j + 1 => bwC dps un bo d well j + cF ((d < dps j ∧ ¬ bo < dps j * un) ∨ (dps j = d ∧ (j : Int) < well)) 1 0
theorem bwC_le (dps : Nat → Int) (un bo d well : Int) (j : Nat) : bwC dps un bo d well j ≤ j := by
  induction j with
  | zero => exact Nat.le_refl 0
  | succ j ih =>
    rw [bwC]
    by_cases q : (d < dps j ∧ ¬ bo < dps j * un) ∨ (dps j = d ∧ (j : Int) < well)
    · rw [cF_pos q]; omega
    · rw [cF_neg q]; omega
noncomputable def cntF (v : Nat → Int) (t : Int) : Nat → Nat
  | 0 => 0
  | K + 1 => cntF v t K + cF (t < dM v K ∧ ¬ v 22 < dM v K * v 21) 1 0
theorem cntF_step (v : Nat → Int) (t : Int) (K : Nat) : (cntF v (t - 1) K : Int) = (cntF v t K : Int) + cif (v 22 < t * v 21) 0 (cnt v t K : Int) := by
  induction K with
  | zero => by_cases q : v 22 < t * v 21; rw [cif_pos q]; rfl; rw [cif_neg q]; rfl
  | succ K ih =>
    rw [cntF, cntF, cnt]
    by_cases q : v 22 < t * v 21
    · rw [cif_pos q] at ih ⊢
      by_cases z : t < dM v K ∧ ¬ v 22 < dM v K * v 21
      · rw [cF_pos z, cF_pos (show t - 1 < dM v K ∧ ¬ v 22 < dM v K * v 21 from ⟨by omega, z.2⟩)]; omega
      · have z2 : ¬ (t - 1 < dM v K ∧ ¬ v 22 < dM v K * v 21) := fun y => z ⟨by
          rcases (show t < dM v K ∨ dM v K = t by omega) with w | w
          · exact w
          · exact absurd (by rw [w]; exact q) y.2, y.2⟩
        rw [cF_neg z, cF_neg z2]; omega
    · rw [cif_neg q] at ih ⊢
      by_cases w : dM v K = t
      · rw [cF_pos w, cF_pos (show t - 1 < dM v K ∧ ¬ v 22 < dM v K * v 21 from ⟨by omega, by rw [w]; exact q⟩), cF_neg (fun (y : t < dM v K ∧ ¬ v 22 < dM v K * v 21) => by omega)]; omega
      · rw [cF_neg w]
        by_cases z : t < dM v K ∧ ¬ v 22 < dM v K * v 21
        · rw [cF_pos z, cF_pos (show t - 1 < dM v K ∧ ¬ v 22 < dM v K * v 21 from ⟨by omega, z.2⟩)]; omega
        · rw [cF_neg z, cF_neg (fun y => z ⟨by omega, y.2⟩)]; omega
theorem cntF_30 {v : Nat → Int} (h : vL v) (K : Nat) : cntF v 30 K = 0 := by
  induction K with
  | zero => rfl
  | succ K ih => have := dM_bd h K; rw [cntF, ih, cF_neg (fun y => by omega)]
theorem lvC_F {v : Nat → Int} (h : vL v) (j : Nat) : (lvC v CZ j).1.2.1 = (cntF v (30 - (j : Int)) 160 : Int) := by
  induction j with
  | zero => rw [show (30 - ((0 : Nat) : Int)) = 30 by omega, cntF_30 h]; rfl
  | succ j ih =>
    have h1 := cntF_step v (30 - (j : Int)) 160
    rw [lvC_cu, ih, show (30 - ((j + 1 : Nat) : Int)) = 30 - (j : Int) - 1 by omega, h1]
/-- the same, over all wells -/
noncomputable def rkc (v : Nat → Int) (k0 : Nat) : Nat → Nat
  | 0 => 0
  | K + 1 => rkc v k0 K + cF ((dM v k0 < dM v K ∧ ¬ v 22 < dM v K * v 21) ∨ (dM v K = dM v k0 ∧ K < k0)) 1 0
theorem rkc_sp (v : Nat → Int) (k0 K : Nat) : rkc v k0 K = cntF v (dM v k0) K + cnt v (dM v k0) (if K < k0 then K else k0) := by
  induction K with
  | zero =>
    split
    · rfl
    · rw [show k0 = 0 by omega]; rfl
  | succ K ih =>
    rw [rkc, cntF, ih]
    by_cases q : dM v K = dM v k0
    · have n1 : ¬ (dM v k0 < dM v K ∧ ¬ v 22 < dM v K * v 21) := fun y => by omega
      rw [cF_neg n1]
      by_cases z : K < k0
      · rw [if_pos z, cF_pos (Or.inr ⟨q, z⟩)]
        have e : cnt v (dM v k0) (K + 1) = cnt v (dM v k0) K + 1 := by rw [cnt, cF_pos q]
        by_cases z2 : K + 1 < k0
        · rw [if_pos z2, e]; omega
        · have e3 : cnt v (dM v k0) k0 = cnt v (dM v k0) (K + 1) := congrArg (cnt v (dM v k0)) (by omega)
          rw [if_neg z2, e3, e]; omega
      · rw [if_neg z, if_neg (show ¬ K + 1 < k0 by omega), cF_neg (fun y => by rcases y with y | y; exact n1 y; exact z y.2)]
        omega
    · have e : cnt v (dM v k0) (K + 1) = cnt v (dM v k0) K := by rw [cnt, cF_neg q]; omega
      have e2 : cnt v (dM v k0) (if K + 1 < k0 then K + 1 else k0) = cnt v (dM v k0) (if K < k0 then K else k0) := by
        by_cases z : K < k0
        · rw [if_pos z]
          by_cases z2 : K + 1 < k0
          · rw [if_pos z2, e]
          · have e3 : cnt v (dM v k0) k0 = cnt v (dM v k0) (K + 1) := congrArg (cnt v (dM v k0)) (by omega)
            rw [if_neg z2, e3, e]
        · rw [if_neg z, if_neg (show ¬ K + 1 < k0 by omega)]
      rw [e2]
      by_cases w : dM v k0 < dM v K ∧ ¬ v 22 < dM v K * v 21
      · rw [cF_pos w, cF_pos (Or.inl w)]; omega
      · rw [cF_neg w, cF_neg (fun y => by rcases y with y | y; exact w y; exact q y.1)]; omega
theorem rkc_rk {v : Nat → Int} (h : vL v) {k0 : Nat} (hk : k0 < 160) : rkc v k0 160 = rk v k0 := by
  have hb := dM_bd h k0
  have h1 := lvC_F h (30 - dM v k0).toNat
  rw [show (30 - (((30 - dM v k0).toNat : Nat) : Int)) = dM v k0 by omega] at h1
  rw [rkc_sp, rk, if_neg (by omega), h1]
  omega
theorem bw_rkc {v : Nat → Int} {swl : Int} {dps alk : Nat → Int} (hG : GI v swl dps alk 160) {k0 : Nat} (hp : 1 ≤ dM v k0) (K : Nat) (hK : K ≤ 160) : bwC dps (v 21) (v 22) (dM v k0) (ix v k0 : Int) (ix v K) = rkc v k0 K := by
  induction K with
  | zero => rfl
  | succ K ih =>
    by_cases q : exW v K
    · rw [ix_yes q, bwC, rkc, ih (by omega), hG.2.2.1 K (by omega) q]
      have e : ((ix v K : Nat) : Int) < (ix v k0 : Int) ↔ K < k0 := ⟨fun z => by
          rcases Nat.lt_or_ge K k0 with y | y
          · exact y
          · have := ix_mono (v := v) y; omega, fun z => by have := ix_lt z q; omega⟩
      rw [show (((ix v K : Nat) : Int) < (ix v k0 : Int)) = (K < k0) from propext e]
    · have hd := dM_no q
      rw [ix_no q, rkc, ih (by omega), cF_neg (fun y => by omega)]
      omega
/-- what the Saw holds when all of v is cut -/
def SawOK (v : Nat → Int) (swl sun sbo scw bo cu lo wh : Int) (dps alk bof us bl lg : Nat → Int) : Prop :=
  vL v ∧ sun = v 21 ∧ sbo = v 22 ∧ scw = v 23 ∧ bo = (fC v).1.1 ∧ cu = (fC v).1.2.1 ∧ wh = (fC v).1.2.2 ∧ lo = lvL v 30 ∧ (∀ b : Nat, (b : Int) < bo → us b = (fC v).2.1 b ∧ bl b = (fC v).2.2.1 b ∧ lg b = (fC v).2.2.2.1 b) ∧ (∀ i : Nat, (i : Int) < cu → bof i = (fC v).2.2.2.2 i) ∧ GI v swl dps alk 160
theorem preV_sw {D : va_G} {cs : Nat → ClassId} {ad : Nat → Nat} {s : State} {H : Heap} {swl sun sbo scw bo cu lo wh : Int} {dps alk bof us bl lg : Nat → Int} {vs : List Value} (hK : KA D cs s) (h : va_P D classes (sW cs ad swl sun sbo scw bo cu lo wh dps alk bof us bl lg) H) : PreV s H "SoundWells$Saw" (ad 7) (va_Pc (.ref (ad 7) :: vs) (fun U => KA D cs U ∧ va_P D classes (sW cs ad swl sun sbo scw bo cu lo wh dps alk bof us bl lg) U.heap)) vs := preV_of (Bf := fun U H => KA D cs U ∧ va_P D classes (sW cs ad swl sun sbo scw bo cu lo wh dps alk bof us bl lg) H) (Stb_and (KA_stb D cs) Stb_H) (va_recv hK h (ci := 4) (q0 := 0) rfl rfl) ⟨hK, h⟩
theorem rk_cu {v : Nat → Int} (h : vL v) {k : Nat} (hk : k < 160) (hp : 1 ≤ dM v k) (hok : ¬ v 22 < dM v k * v 21) : (rk v k : Int) < (fC v).1.2.1 := by
  have hl := rk_lt h (okC_0 (fun _ => 0) (fun _ => 0) (fun _ => 0) (fun _ => 0)) (Nat.le_refl 30) (K := 0) hk (Or.inl (by omega)) hp hok
  rw [rkS_rk h] at hl
  have e0 : cnt v (30 - ((30 : Nat) : Int)) 0 = 0 := rfl
  have e1 : (lvC v ((0, 0, 0), (fun _ => 0), (fun _ => 0), (fun _ => 0), (fun _ => 0)) 30).1.2.1 = (fC v).1.2.1 := rfl
  rw [e1] at hl
  by_cases z : v 22 < (30 - ((30 : Nat) : Int)) * v 21
  · rw [cif_pos z] at hl; omega
  · rw [cif_neg z] at hl; omega
/-- a cut leaves the boards ahead of it as they are -/
theorem cut1_lo {cw B size : Int} {s : CS} {j : Nat} (h : j < ffs cw B size s) : (cut1 cw B size s).2.1 j = s.2.1 j ∧ (cut1 cw B size s).2.2.1 j = s.2.2.1 j := by
  unfold cut1
  have n : j ≠ ffs cw B size s := by omega
  split
  · exact ⟨by show upI (upI _ _ _) _ _ j = _; rw [upI_n n, upI_n n], by show upI (upI _ _ _) _ _ j = _; rw [upI_n n, upI_n n]⟩
  · exact ⟨by show upI _ _ _ j = _; rw [upI_n n], by show upI _ _ _ j = _; rw [upI_n n]⟩
theorem cut1_bo {cw B size : Int} {s : CS} (hok : okC s) : s.1.1 ≤ (cut1 cw B size s).1.1 ∧ ((ffs cw B size s : Nat) : Int) ≤ (cut1 cw B size s).1.1 := by
  have hle := ffs_le cw B size hok
  unfold cut1
  split
  · rename_i z
    exact ⟨by show s.1.1 ≤ s.1.1 + 1; omega, by show _ ≤ s.1.1 + 1; omega⟩
  · exact ⟨Int.le_refl _, hle⟩
