/-! the class: what its changes leave -/
theorem rv_putPl {p : Program} {l : Launch} {e : Env} {R : Room} {s : State} {m : MethodId} {args : Array Value} {below : List Frame} {meth : Method} {c : Code} {H : Heap} {locs : List Loc} {cells slots : Nat} {Q : State → Prop} {cc : ByteArray} {pc index : Nat} {ls : Array Slot} {rest : List Value} {D : va_G} {cs : Nat → ClassId} {A : Nat → Prop} {ws : va_W} {H0 : Heap} {a x : Nat} {fs : List Value} (hx : p.tables.exec = Jvm.exec) (hb : c.code = cc) (hts : ∀ w ∈ TB, w.before args s = true) (hown : s.vm.findClass "SoundWells" = some m.cls) (hK : KA D cs s) (hP : va_P D classes ws H) (hD : va_D A ws) (hS : va_S A H0 H locs) (he : ws[0]? = some (a, .inr (5, fs))) (hl : 5 < fs.length)
    (hlink : (Cond.fieldLink "SoundWells" index "SoundWells" (TX6 5).2.1 (TX6 5).2.2.1).before args s = true) (hdg : decode cc pc = .ok (.putfield index, 3))
    (kk : ∀ (H1 : Heap) (locs1 : List Loc), va_P D classes (ws.set 0 (a, .inr (5, fs.set 5 (.ref x)))) H1 → va_D A (ws.set 0 (a, .inr (5, fs.set 5 (.ref x)))) → va_S A H0 H1 locs1 → (∀ q : Nat, q ≠ a → H1[q]? = H[q]?) → W p l e R s m args below meth c H1 locs1 cells slots Q (F0 m (pc + 3) ls rest)) : W p l e R s m args below meth c H locs cells slots Q (F0 m pc ls (.ref x :: .ref a :: rest)) := by
  have hc : classes[5]? = some (RX6, TX6, 6) := rfl
  have apart := va_apart (own := "SoundWells") hts inTB_X6 tyX6 tyX6_ok nmX6 hK hc
  obtain ⟨r, hr, cell, q1, q2, q3, q4⟩ := hP 0 _ he
  cases (Option.some.inj (hr.symm.trans hc))
  obtain ⟨hslots, hfc, kC, hkC, hkind⟩ := hK.1 5 _ hc
  obtain ⟨cf, kf, fi, f, hi, hsl⟩ := hslots 5 (by decide)
  have hlay := hts _ (inTB_X6 _ (u_in_lay (show 5 < 6 by decide)))
  unfold u_lay at hlay
  rw [if_neg (by decide)] at hlay
  have h6 := u_store hfc hkC hkind hlay hi (tyX6_ok 5 (by decide)) (show narrow (tyX6 5) (.ref x) = .ref x from rfl) rfl
  refine W.putK hx hb (f := f) ⟨hown, hlink, ⟨_, _, _, hi⟩, (u_facts hfc hkC (u_lays hts inTB_X6 (show 5 < 6 by decide)) hi).1⟩ (by rw [q2]; exact h6) q1 q3 (by rw [hsl]; exact k2_hasslot (q4 5 (by decide))) rfl rfl hdg fun H1 e1 e2 e3 => ?_
  rw [hsl] at e1 ⊢
  exact kk H1 _ (hP.set hD he ⟨_, hc, t_OB.to (V := updV (vp_V fs) 5 (.ref x)) ⟨_, e1, q2, q3, t_set q4 apart (by decide) (.ref x)⟩ (fun j _ => vp_updV_set hl (.ref x) j)⟩ e3) (hD.set he) (hS.put e2 e3 (hD.2 0 _ he)) e3
def XK (D : va_G) (cs : Nat → ClassId) (M : Nat → Prop) (H : Heap) (pl : Nat) (kept : Int) (gq : Nat → Option Nat) (v : Nat → Int) (un : Int) (bf : Nat → Int) : Prop := PlanAt D cs M H pl v ∧ kept = un ∧ PastAt D cs M H kept gq bf
theorem XK.call {D : va_G} {cs : Nat → ClassId} {M : Nat → Prop} {wc : va_W} {H H1 : Heap} {pl : Nat} {v : Nat → Int} {kept un : Int} {gq : Nat → Option Nat} {bf : Nat → Int} (h : XK D cs M H pl kept gq v un bf) (hw : ∀ q, Mw wc q → M q) (hk : ∀ q : Nat, q < H.size → ¬ va_A wc H.size q → H1[q]? = H[q]?) : XK D cs M H1 pl kept gq v un bf :=
  have hq : ∀ q : Nat, q < H.size → ¬ M q → H1[q]? = H[q]? := fun q h1 h2 => hk q h1 (fun z => z.elim (fun y => h2 (hw q y)) (fun y => by omega))
  ⟨h.1.kept hq, h.2.1, h.2.2.kept hq⟩
theorem PastAt.note {D : va_G} {cs : Nat → ClassId} {M : Nat → Prop} {H : Heap} {kept kept2 un2 : Int} {gq gq2 : Nat → Option Nat} {bf bf2 v : Nat → Int} {pl : Nat} (h : PastAt D cs M H kept gq bf) (hpl : PlanAt D cs M H pl v) (hk : 0 ≤ kept ∧ kept ≤ 6) (hf : (kept < 6 → kept2 = kept + 1 ∧ gq2 = va_up gq kept.toNat (some pl)) ∧ (kept = 6 → kept2 = 6 ∧ (∀ i : Nat, i < 5 → gq2 i = gq (i + 1)) ∧ gq2 5 = some pl)) (hN : Noted kept bf v un2 bf2) : kept2 = un2 ∧ PastAt D cs M H kept2 gq2 bf2 := by
  obtain ⟨n1, n2, n3⟩ := hN
  rcases (show kept < 6 ∨ kept = 6 by omega) with z | z
  · obtain ⟨e1, e2⟩ := hf.1 z
    obtain ⟨m1, m2⟩ := n1 z
    refine ⟨by omega, fun i hi => ?_⟩
    subst e2
    by_cases y : i = kept.toNat
    · subst y
      refine ⟨pl, va_up_s, hpl.agr (fun j hj => ?_)⟩
      rw [← n3 j hj, show (un2 - 1).toNat = kept.toNat by omega]
    · obtain ⟨w, hw, hp⟩ := h i (by omega)
      refine ⟨w, by rw [va_up_n y]; exact hw, hp.agr (fun j hj => ?_)⟩
      exact (m2 (24 * i + j) (by omega)).symm
  · obtain ⟨e1, e2, e3⟩ := hf.2 z
    obtain ⟨m1, m2⟩ := n2 z
    refine ⟨by omega, fun i hi => ?_⟩
    by_cases y : i = 5
    · subst y
      refine ⟨pl, e3, hpl.agr (fun j hj => ?_)⟩
      rw [← n3 j hj, show (un2 - 1).toNat = 5 by omega]
    · obtain ⟨w, hw, hp⟩ := h (i + 1) (by omega)
      refine ⟨w, by rw [e2 i (by omega)]; exact hw, hp.agr (fun j hj => ?_)⟩
      show bf (24 * (i + 1) + j) = bf2 (24 * i + j)
      rw [m2 (24 * i + j) (by omega), show 24 + (24 * i + j) = 24 * (i + 1) + j by omega]
theorem set_pv {v : Nat → Int} {p what x : Int} (hw : 0 ≤ what ∧ what ≤ 2) : pv (upI v (5 * p.toNat + 2 + what.toNat) x) p 0 = pv v p 0 ∧ pv (upI v (5 * p.toNat + 2 + what.toNat) x) p 1 = pv v p 1 ∧ pv (upI v (5 * p.toNat + 2 + what.toNat) x) p 2 = (if what = 0 then x else pv v p 2) ∧ pv (upI v (5 * p.toNat + 2 + what.toNat) x) p 3 = (if what = 1 then x else pv v p 3) ∧ pv (upI v (5 * p.toNat + 2 + what.toNat) x) p 4 = (if what = 2 then x else pv v p 4) := by
  unfold pv
  rcases (show what = 0 ∨ what = 1 ∨ what = 2 by omega) with e | e | e <;> subst e
  · rw [show 5 * p.toNat + 2 + (0 : Int).toNat = 5 * p.toNat + 2 by rfl]
    exact ⟨upI_n (by omega), upI_n (by omega), by rw [upI_s]; rfl, by rw [upI_n (by omega)]; rfl, by rw [upI_n (by omega)]; rfl⟩
  · rw [show 5 * p.toNat + 2 + (1 : Int).toNat = 5 * p.toNat + 3 by rfl]
    exact ⟨upI_n (by omega), upI_n (by omega), by rw [upI_n (by omega)]; rfl, by rw [upI_s]; rfl, by rw [upI_n (by omega)]; rfl⟩
  · rw [show 5 * p.toNat + 2 + (2 : Int).toNat = 5 * p.toNat + 4 by rfl]
    exact ⟨upI_n (by omega), upI_n (by omega), by rw [upI_n (by omega)]; rfl, by rw [upI_n (by omega)]; rfl, by rw [upI_s]; rfl⟩
theorem meas_eq {v : Nat → Int} {p what : Int} (hw : 0 ≤ what ∧ what ≤ 2) : (if what = 0 then pv v p 2 else if what = 1 then pv v p 3 else pv v p 4) = v (5 * p.toNat + 2 + what.toNat) := by
  unfold pv
  rcases (show what = 0 ∨ what = 1 ∨ what = 2 by omega) with e | e | e <;> subst e <;> rfl
theorem set_vP {v : Nat → Int} {p what x : Int} (h : vL v) (hok : okSet v p what x) : vP (pv v p 0) (pv v p 1) (if what = 0 then x else pv v p 2) (if what = 1 then x else pv v p 3) (if what = 2 then x else pv v p 4) := by
  have hw : 0 ≤ what ∧ what ≤ 2 := by have := hok.2; omega
  obtain ⟨e0, e1, e2, e3, e4⟩ := set_pv (v := v) (p := p) (x := x) hw
  have h1 := vL_p (vL_put h hok) (p := p) (by rw [upI_n (by have := hok.1; have := h.1; omega)]; exact hok.1)
  rw [e0, e1, e2, e3, e4] at h1
  exact h1
/-- the best of the offsets: the first is always taken -/
theorem bst_1 {v : Nat → Int} {p : Int} : bst v p 1 = ((0 : Int), lvL (offV v p 0) 30, (fC (offV v p 0)).1.1, leftS (offV v p 0)) := by
  have hl := lo_160 (offV v p 0)
  show cF (betP (offV v p ((0 : Nat) : Int)) (bst v p 0).2.1 (bst v p 0).2.2.1 (bst v p 0).2.2.2) (((0 : Nat) : Int), lvL (offV v p ((0 : Nat) : Int)) 30, (fC (offV v p ((0 : Nat) : Int))).1.1, leftS (offV v p ((0 : Nat) : Int))) (bst v p 0) = _
  exact cF_pos (Or.inl (show lvL (offV v p 0) 30 < 1000 by omega))
theorem offV_3 {v : Nat → Int} {p x : Int} (hp : 0 ≤ p) (q : Nat) : offV v p x (5 * q + 3) = cif ((q : Int) = p) x (v (5 * q + 3)) := by
  by_cases z : (q : Int) = p
  · rw [cif_pos z, show q = p.toNat by omega]; exact upI_s
  · rw [cif_neg z]; exact upI_n (by omega)
