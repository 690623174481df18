/-! Reader: what an item is, number by number -/
theorem nar_char {x : Int} (h : 0 ≤ x ∧ x < 65536) : narrow .char (.int (iI x)) = .int (iI x) := by
  obtain ⟨k, rfl⟩ : ∃ k : Nat, x = (k : Int) := ⟨x.toNat, by omega⟩
  rw [← iI_nat]
  exact (pk_charN (show k < 65536 by omega)).1
def RdT (D : va_G) (cs : Nat → ClassId) (H : Heap) (o t : Nat) (fs : List Value) (len : Int) (tx : Nat → Int) : Prop := va_P D classes [(o, .inr (3, fs)), (t, caC cs 200 tx)] H ∧ fs[2]? = some (.ref t) ∧ fs[3]? = some (.int (iI len)) ∧ (0 ≤ len ∧ len ≤ 200) ∧ okTx tx len
theorem preV_rdT {D : va_G} {cs : Nat → ClassId} {s : State} {H : Heap} {o t : Nat} {fs : List Value} {len : Int} {tx : Nat → Int} {vs : List Value} (hK : KA D cs s) (h : RdT D cs H o t fs len tx) : PreV s H "SoundWells$Reader" o (va_Pc (.ref o :: vs) (fun U => KA D cs U ∧ RdT D cs U.heap o t fs len tx)) vs := preV_of (Bf := fun U H => KA D cs U ∧ RdT D cs H o t fs len tx) (Stb_and (KA_stb D cs) Stb_H) (va_recv hK h.1 (ci := 3) (q0 := 0) rfl rfl) ⟨hK, h⟩
noncomputable def nbOf (ch : Int) : Int := cif (ch = 113 ∨ ch = 114 ∨ ch = 108) 4 (cif (ch = 98) 2 (cif (ch = 117) 1 0))
noncomputable def nxk (tx : Nat → Int) (len s : Int) : Nat → Int
  | 0 => s
  | k + 1 => nx tx len (nxk tx len s k)
theorem nxk_bd (tx : Nat → Int) (len s : Int) (k : Nat) : s + (k : Int) ≤ nxk tx len s k ∧ nxk tx len s k ≤ s + 4 * (k : Int) := by
  induction k with
  | zero => rw [nxk]; omega
  | succ k ih => have := nx_gt tx len (nxk tx len s k); rw [nxk]; omega
/-- what an item's numbers must be -/
def okKp (ch m : Int) (nu : Nat → Int) : Prop := (ch = 117 ∧ okTell 0 (nu 0)) ∨ (ch = 98 ∧ okTell 1 (nu 0) ∧ okTell 2 (nu 1)) ∨ (¬ ch = 117 ∧ ¬ ch = 98 ∧ m < 4 ∧ isPr (nu 0) ∧ fOK (kdItem ch) (nu 0) (nu 1) ∧ (0 ≤ nu 2 ∧ nu 2 < nu 0) ∧ (1 ≤ nu 3 ∧ nu 3 ≤ 40))
noncomputable def kpV (v : Nat → Int) (ch : Int) (nu : Nat → Int) : Nat → Int := cF (ch = 117) (upI v 21 (nu 0)) (cF (ch = 98) (upI (upI v 22 (nu 0)) 23 (nu 1)) (setP v (kdItem ch) (nu 0) (nu 1) (nu 2) (nu 3)))
theorem kd_bd (ch : Int) : 0 ≤ kdItem ch ∧ kdItem ch ≤ 2 := by
  unfold kdItem
  by_cases h : ch = 113
  · rw [cif_pos h]; decide
  · rw [cif_neg h]
    by_cases h2 : ch = 114
    · rw [cif_pos h2]; decide
    · rw [cif_neg h2]; decide
theorem okKp_congr {ch m : Int} {nu nu2 : Nat → Int} (h : ∀ j : Nat, (j : Int) < nbOf ch → nu j = nu2 j) (h1 : 1 ≤ nbOf ch) : okKp ch m nu → okKp ch m nu2 := by
  intro q
  unfold nbOf at h h1
  rcases q with q | q | q
  · rw [cif_neg (by omega), cif_neg (by omega), cif_pos q.1] at h
    rw [h 0 (by decide)] at q
    exact Or.inl q
  · rw [cif_neg (by omega), cif_pos q.1] at h
    rw [h 0 (by decide), h 1 (by decide)] at q
    exact Or.inr (Or.inl q)
  · by_cases z : ch = 113 ∨ ch = 114 ∨ ch = 108
    · rw [cif_pos z] at h
      rw [h 0 (by decide), h 1 (by decide), h 2 (by decide), h 3 (by decide)] at q
      exact Or.inr (Or.inr q)
    · rw [cif_neg z, cif_neg q.2.1, cif_neg q.1] at h1
      omega
theorem kpV_congr {v : Nat → Int} {ch : Int} {nu nu2 : Nat → Int} (h : ∀ j : Nat, (j : Int) < nbOf ch → nu j = nu2 j) (h1 : 1 ≤ nbOf ch) : kpV v ch nu = kpV v ch nu2 := by
  unfold nbOf at h h1
  unfold kpV
  by_cases z1 : ch = 117
  · rw [cif_neg (by omega), cif_neg (by omega), cif_pos z1] at h
    rw [cF_pos z1, cF_pos z1, h 0 (by decide)]
  · by_cases z2 : ch = 98
    · rw [cif_neg (by omega), cif_pos z2] at h
      rw [cF_neg z1, cF_neg z1, cF_pos z2, cF_pos z2, h 0 (by decide), h 1 (by decide)]
    · by_cases z : ch = 113 ∨ ch = 114 ∨ ch = 108
      · rw [cif_pos z] at h
        rw [cF_neg z1, cF_neg z1, cF_neg z2, cF_neg z2, h 0 (by decide), h 1 (by decide), h 2 (by decide), h 3 (by decide)]
      · rw [cif_neg z, cif_neg z2, cif_neg z1] at h1
        omega
/-- an item, number by number -/
theorem okItem_of {tx : Nat → Int} {len m ch s : Int} (hn : ∀ j : Nat, (j : Int) < nbOf ch → okNum tx len (nxk tx len s j) (cif ((j : Int) + 1 = nbOf ch) 59 44)) (h1 : 1 ≤ nbOf ch) (hk : okKp ch m (fun j => nV tx len (nxk tx len s j))) : okItem tx len m ch s := by
  unfold nbOf at hn h1
  rcases hk with q | q | q
  · rw [cif_neg (by omega), cif_neg (by omega), cif_pos q.1] at hn
    have n0 := hn 0 (by decide)
    rw [cif_pos (by decide)] at n0
    have q2 : okTell 0 (nV tx len s) := q.2
    unfold okTell at q2
    exact Or.inr (Or.inr (Or.inr (Or.inl ⟨q.1, n0, by omega⟩)))
  · rw [cif_neg (by omega), cif_pos q.1] at hn
    have n0 := hn 0 (by decide)
    have n1 := hn 1 (by decide)
    rw [cif_neg (by decide)] at n0
    rw [cif_pos (by decide)] at n1
    have q2 : okTell 1 (nV tx len s) := q.2.1
    have q3 : okTell 2 (nV tx len (nx tx len s)) := q.2.2
    unfold okTell at q2 q3
    exact Or.inr (Or.inr (Or.inr (Or.inr ⟨q.1, n0, by omega, n1, by omega⟩)))
  · by_cases z : ch = 113 ∨ ch = 114 ∨ ch = 108
    · rw [cif_pos z] at hn
      have n0 := hn 0 (by decide)
      have n1 := hn 1 (by decide)
      have n2 := hn 2 (by decide)
      have n3 := hn 3 (by decide)
      rw [cif_neg (by decide)] at n0 n1 n2
      rw [cif_pos (by decide)] at n3
      have main : ∀ k : Int, kdItem ch = k → okPan tx len k s := fun k ek => ⟨n0, n1, n2, n3, q.2.2.2.1, by rw [← ek]; exact q.2.2.2.2.1, q.2.2.2.2.2.1, q.2.2.2.2.2.2⟩
      rcases z with z | z | z
      · exact Or.inl ⟨z, q.2.2.1, main 0 (by rw [kdItem, cif_pos z])⟩
      · exact Or.inr (Or.inl ⟨z, q.2.2.1, main 1 (by rw [kdItem, cif_neg (by omega), cif_pos z])⟩)
      · exact Or.inr (Or.inr (Or.inl ⟨z, q.2.2.1, main 2 (by rw [kdItem, cif_neg (by omega), cif_neg (by omega)])⟩))
    · rw [cif_neg z, cif_neg q.2.1, cif_neg q.1] at h1
      omega
theorem okItem_nb {tx : Nat → Int} {len m ch s : Int} (h : okItem tx len m ch s) : 1 ≤ nbOf ch := by
  unfold nbOf
  rcases h with q | q | q | q | q
  · rw [cif_pos (Or.inl q.1)]; decide
  · rw [cif_pos (Or.inr (Or.inl q.1))]; decide
  · rw [cif_pos (Or.inr (Or.inr q.1))]; decide
  · rw [cif_neg (by omega), cif_neg (by omega), cif_pos q.1]; decide
  · rw [cif_neg (by omega), cif_pos q.1]; decide
theorem okItem_to {tx : Nat → Int} {len m ch s : Int} (h : okItem tx len m ch s) : (∀ j : Nat, (j : Int) < nbOf ch → okNum tx len (nxk tx len s j) (cif ((j : Int) + 1 = nbOf ch) 59 44)) ∧ okKp ch m (fun j => nV tx len (nxk tx len s j)) := by
  have pan : ∀ k : Int, nbOf ch = 4 → kdItem ch = k → m < 4 → ¬ ch = 117 → ¬ ch = 98 → okPan tx len k s → (∀ j : Nat, (j : Int) < nbOf ch → okNum tx len (nxk tx len s j) (cif ((j : Int) + 1 = nbOf ch) 59 44)) ∧ okKp ch m (fun j => nV tx len (nxk tx len s j)) := by
    intro k h4 ek hm c1 c2 p
    refine ⟨fun j hj => ?_, Or.inr (Or.inr ⟨c1, c2, hm, p.2.2.2.2.1, by rw [ek]; exact p.2.2.2.2.2.1, p.2.2.2.2.2.2.1, p.2.2.2.2.2.2.2⟩)⟩
    rw [h4] at hj ⊢
    rcases (show j = 0 ∨ j = 1 ∨ j = 2 ∨ j = 3 by omega) with e | e | e | e <;> subst e
    · rw [cif_neg (by decide)]; exact p.1
    · rw [cif_neg (by decide)]; exact p.2.1
    · rw [cif_neg (by decide)]; exact p.2.2.1
    · rw [cif_pos (by decide)]; exact p.2.2.2.1
  rcases h with q | q | q | q | q
  · exact pan 0 (by rw [nbOf, cif_pos (Or.inl q.1)]) (by rw [kdItem, cif_pos q.1]) q.2.1 (by omega) (by omega) q.2.2
  · exact pan 1 (by rw [nbOf, cif_pos (Or.inr (Or.inl q.1))]) (by rw [kdItem, cif_neg (by omega), cif_pos q.1]) q.2.1 (by omega) (by omega) q.2.2
  · exact pan 2 (by rw [nbOf, cif_pos (Or.inr (Or.inr q.1))]) (by rw [kdItem, cif_neg (by omega), cif_neg (by omega)]) q.2.1 (by omega) (by omega) q.2.2
  · have h1 : nbOf ch = 1 := by rw [nbOf, cif_neg (by omega), cif_neg (by omega), cif_pos q.1]
    refine ⟨fun j hj => ?_, Or.inl ⟨q.1, Or.inl ⟨rfl, q.2.2⟩⟩⟩
    rw [h1] at hj ⊢
    rw [show j = 0 by omega, cif_pos (by decide)]
    exact q.2.1
  · have h1 : nbOf ch = 2 := by rw [nbOf, cif_neg (by omega), cif_pos q.1]
    refine ⟨fun j hj => ?_, Or.inr (Or.inl ⟨q.1, Or.inr (Or.inl ⟨rfl, q.2.2.1⟩), Or.inr (Or.inr ⟨rfl, q.2.2.2.2⟩)⟩)⟩
    rw [h1] at hj ⊢
    rcases (show j = 0 ∨ j = 1 by omega) with e | e <;> subst e
    · rw [cif_neg (by decide)]; exact q.2.1
    · rw [cif_pos (by decide)]; exact q.2.2.2.1
theorem stItem_kp (tx : Nat → Int) (len : Int) (v : Nat → Int) (ch s : Int) : stItem tx len v ch s = kpV v ch (fun j => nV tx len (nxk tx len s j)) := rfl
theorem nxItem_k {tx : Nat → Int} {len ch s : Int} (h1 : 1 ≤ nbOf ch) : nxItem tx len ch s = nxk tx len s (nbOf ch).toNat := by
  unfold nbOf at *
  unfold nxItem
  by_cases z : ch = 113 ∨ ch = 114 ∨ ch = 108
  · rw [cif_neg (by omega), cif_neg (by omega), cif_pos z]; rfl
  · by_cases z2 : ch = 98
    · rw [cif_neg (by omega), cif_pos z2, cif_neg z, cif_pos z2]; rfl
    · by_cases z3 : ch = 117
      · rw [cif_pos z3, cif_neg z, cif_neg z2, cif_pos z3]; rfl
      · rw [cif_neg z, cif_neg z2, cif_neg z3] at h1; omega
theorem nbOf_bd (ch : Int) : 0 ≤ nbOf ch ∧ nbOf ch ≤ 4 := by
  unfold nbOf
  by_cases z : ch = 113 ∨ ch = 114 ∨ ch = 108
  · rw [cif_pos z]; decide
  · rw [cif_neg z]
    by_cases z2 : ch = 98
    · rw [cif_pos z2]; decide
    · rw [cif_neg z2]
      by_cases z3 : ch = 117
      · rw [cif_pos z3]; decide
      · rw [cif_neg z3]; decide
/-- what the Reader holds of v -/
def RdS (D : va_G) (cs : Nat → ClassId) (M : Nat → Prop) (H : Heap) (v : Nat → Int) (rpc run_ rbo rcw : Int) (gp : Nat → Option Nat) : Prop := vL v ∧ rpc = v 20 ∧ run_ = v 21 ∧ rbo = v 22 ∧ rcw = v 23 ∧ ∀ q : Nat, (q : Int) < v 20 → ∃ y : Nat, gp q = some y ∧ PanelAt D cs M H y (v (5 * q)) (v (5 * q + 1)) (v (5 * q + 2)) (v (5 * q + 3)) (v (5 * q + 4))
theorem RdS.inS {D : va_G} {cs : Nat → ClassId} {M A : Nat → Prop} {ws : va_W} {H0 H : Heap} {locs : List Loc} {v : Nat → Int} {rpc run_ rbo rcw : Int} {gp : Nat → Option Nat} (h : RdS D cs M H0 v rpc run_ rbo rcw gp) (hw : ∀ q, Mw ws q → M q) (hAe : va_A ws H0.size = A) (hS : va_S A H0 H locs) : RdS D cs M H v rpc run_ rbo rcw gp := by
  obtain ⟨h0, h1, h2, h3, h4, h5⟩ := h
  exact ⟨h0, h1, h2, h3, h4, fun q hq => by obtain ⟨y, e, hy⟩ := h5 q hq; exact ⟨y, e, hy.inS hw hAe hS⟩⟩
theorem PZ.inS {U : State} {M A : Nat → Prop} {ws : va_W} {H0 H : Heap} {locs : List Loc} (h : PZ U H0 M) (hw : ∀ q, Mw ws q → M q) (hAe : va_A ws H0.size = A) (hS : va_S A H0 H locs) : PZ U H M :=
  h.kept (fun q h1 h2 => hS.2.1 q h1 (fun z => by rw [← hAe] at z; exact z.elim (fun y => h2 (hw q y)) (fun y => by omega)))
theorem PZ.no {U : State} {H : Heap} {M : Nat → Prop} (h : PZ U H M) : PZ U H (fun _ => False) := h.narrow (fun _ q => q.elim)
theorem newM2 {M A : Nat → Prop} {ws0 ws : va_W} {sz i q : Nat} {e : va_E} (hAe : va_A ws0 sz = A) (hM : ∀ q, M q → q < sz) (hD : va_D A ws) (hpre : (ws.map Prod.fst).take ws0.length = ws0.map Prod.fst) (hi : ws[i]? = some (q, e)) (hge : ws0.length ≤ i) : ¬ M q := fun z => by
  have hA := hD.2 i _ hi
  rw [← hAe] at hA
  rcases hA with ⟨k, e2, hk⟩ | hA
  · have hkl : k < ws0.length := (List.getElem?_eq_some_iff.mp hk).1
    have h1 : (ws0.map Prod.fst)[k]? = some q := by rw [List.getElem?_map, hk]; rfl
    rw [← hpre, List.getElem?_take_of_lt hkl, List.getElem?_map] at h1
    cases hw : ws[k]? with
    | none => rw [hw] at h1; cases h1
    | some y =>
      rw [hw] at h1
      have hy : y.1 = q := Option.some.inj h1
      have := hD.1 k i y (q, e) hw hi hy
      omega
  · have := hM q z
    have hA : sz ≤ q := hA
    omega
theorem vL_kp {v : Nat → Int} {ch : Int} {nu : Nat → Int} (hv : vL v) (h : okKp ch (v 20) nu) : vL (kpV v ch nu) := by
  rcases h with q | q | q
  · rw [kpV, cF_pos q.1]
    exact vL_tell hv q.2 21 rfl
  · rw [kpV, cF_neg (by omega), cF_pos q.1]
    exact vL_tell (vL_tell hv q.2.1 22 rfl) q.2.2 23 rfl
  · rw [kpV, cF_neg q.1, cF_neg q.2.1]
    exact vL_set hv q.2.2.1 ⟨kd_bd ch, q.2.2.2.1, q.2.2.2.2.1, q.2.2.2.2.2.1, q.2.2.2.2.2.2⟩
abbrev rW1 (cs : Nat → ClassId) (ad : Nat → Nat) (rlen rpc run_ rbo rcw : Int) (tx : Nat → Int) (gp : Nat → Option Nat) (nu : Nat → Int) : va_W := rW cs ad rlen rpc run_ rbo rcw (.ref (ad 1)) tx gp nu
