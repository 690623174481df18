/-! cells that are made, and kept as they are -/
def Mw (ws : va_W) : Nat → Prop := fun q => ∃ (k : Nat) (e : va_E), ws[k]? = some (q, e)
theorem PanelAt.call {D : va_G} {cs : Nat → ClassId} {M : Nat → Prop} {wc : va_W} {H H1 : Heap} {a : Nat} {k n f o w : Int} (h : PanelAt D cs M H a k n f o w) (hw : ∀ q, Mw wc q → M q) (hk : ∀ q : Nat, q < H.size → ¬ va_A wc H.size q → H1[q]? = H[q]?) : PanelAt D cs M H1 a k n f o w :=
  h.kept (fun q h1 h2 => hk q h1 (fun z => z.elim (fun y => h2 (hw q y)) (fun y => by omega)))
theorem PlanAt.call {D : va_G} {cs : Nat → ClassId} {M : Nat → Prop} {wc : va_W} {H H1 : Heap} {a : Nat} {v : Nat → Int} (h : PlanAt D cs M H a v) (hw : ∀ q, Mw wc q → M q) (hk : ∀ q : Nat, q < H.size → ¬ va_A wc H.size q → H1[q]? = H[q]?) : PlanAt D cs M H1 a v :=
  h.kept (fun q h1 h2 => hk q h1 (fun z => z.elim (fun y => h2 (hw q y)) (fun y => by omega)))
theorem PanelAt.inS {D : va_G} {cs : Nat → ClassId} {M A : Nat → Prop} {ws : va_W} {H0 H : Heap} {locs : List Loc} {a : Nat} {k n f o w : Int} (h : PanelAt D cs M H0 a k n f o w) (hw : ∀ q, Mw ws q → M q) (hAe : va_A ws H0.size = A) (hS : va_S A H0 H locs) : PanelAt D cs M H a k n f o w :=
  h.kept (fun q h1 h2 => hS.2.1 q h1 (fun z => by rw [← hAe] at z; exact z.elim (fun y => h2 (hw q y)) (fun y => by omega)))
theorem PlanAt.inS {D : va_G} {cs : Nat → ClassId} {M A : Nat → Prop} {ws : va_W} {H0 H : Heap} {locs : List Loc} {a : Nat} {v : Nat → Int} (h : PlanAt D cs M H0 a v) (hw : ∀ q, Mw ws q → M q) (hAe : va_A ws H0.size = A) (hS : va_S A H0 H locs) : PlanAt D cs M H a v :=
  h.kept (fun q h1 h2 => hS.2.1 q h1 (fun z => by rw [← hAe] at z; exact z.elim (fun y => h2 (hw q y)) (fun y => by omega)))
theorem Mw_nil {M : Nat → Prop} : ∀ q, Mw [] q → M q := fun q h => by obtain ⟨k, e, h⟩ := h; simp at h
theorem PlanAt.agr {D : va_G} {cs : Nat → ClassId} {M : Nat → Prop} {H : Heap} {a : Nat} {v w : Nat → Int} (h : PlanAt D cs M H a v) (hag : agr v w) : PlanAt D cs M H a w := by
  obtain ⟨hv, arr, g, h1, h2, h3, h4⟩ := h
  have e20 := hag 20 (by decide)
  have hb := hv.1
  refine ⟨vL_agr hag hv, arr, g, ?_, h2, h3, fun q hq => ?_⟩
  · rw [← hag 21 (by decide), ← hag 22 (by decide), ← hag 23 (by decide), ← e20]; exact h1
  · rw [← e20] at hq
    obtain ⟨y, e, hy⟩ := h4 q hq
    refine ⟨y, e, ?_⟩
    rw [← hag (5 * q) (by omega), ← hag (5 * q + 1) (by omega), ← hag (5 * q + 2) (by omega), ← hag (5 * q + 3) (by omega), ← hag (5 * q + 4) (by omega)]
    exact hy
theorem any_of {D : va_G} {cs : Nat → ClassId} {s : State} {H : Heap} {a ci : Nat} {r : vw_C} {fs : List Value} (hK : KA D cs s) (hc : classes[ci]? = some r) (h : va_at D classes (a, .inr (ci, fs)) H) : va_Any r.1 s H a := by
  obtain ⟨q', h1, cell, g1, g2, g3, -⟩ := h
  obtain ⟨-, hcls, kC, hkC, hkind⟩ := hK.1 ci r hc
  refine ⟨cell, g1, by rw [g3]; rfl, ⟨kC, by rw [g2]; exact hkC⟩, fun comp hcomp => ?_⟩
  have e : comp = D.1 ci := Option.some.inj (hcomp.symm.trans hcls)
  rw [g2, e]
  exact va_assign ⟨hcls, kC, hkC, hkind⟩
section RN
variable {p : Program} {l : Launch} {e : Env} {R : Room} {s : State} {m : MethodId} {args : Array Value} {below : List Frame} {meth : Method} {c : Code} {H : Heap} {locs : List Loc} {cells slots : Nat} {Q : State → Prop}
variable {cc : ByteArray} {pc : Nat} {ls : Array Slot} {rest : List Value} {D : va_G} {cs : Nat → ClassId} {A : Nat → Prop} {ws : va_W} {H0 : Heap}
theorem rv_newi (hx : p.tables.exec = Jvm.exec) (hb : c.code = cc) (harr : (Cond.arrayClass .int).before args s = true) (hK : KA D cs s) (hP : va_P D classes ws H) (hD : va_D A ws) (hS : va_S A H0 H locs) (hA : ∀ q, H0.size ≤ q → A q) {z : Int} (N : Nat) (hz : z = (N : Int)) (hN : N < 100000) (hcells : cells + 1 ≤ R.cells) (hslots : slots + N ≤ R.slots) (hdg : decode cc pc = .ok (.newarray .int, 2))
    (kk : ∀ (q : Nat) (H1 : Heap), va_P D classes (ws ++ [(q, iaC cs N (fun _ => 0))]) H1 → va_D A (ws ++ [(q, iaC cs N (fun _ => 0))]) → va_S A H0 H1 locs → W p l e R s m args below meth c H1 locs (cells + 1) (slots + N) Q (F0 m (pc + 2) ls (.ref q :: rest))) : W p l e R s m args below meth c H locs cells slots Q (F0 m pc ls (.int (iI z) :: rest)) := by
  subst hz
  refine va_newa (atype := .int) (a0 := (N, .inl (iA (fun _ => 0)))) hx hb harr rfl hK hP hD hS hA (fun cA => rfl) (by rw [← iI_z, iI_lt (by omega) (by omega)]; omega) (by rw [iI_cl (by omega), Int.toNat_natCast]) (by show N * 4 ≤ _; omega) hcells hslots hdg (fun q cA H1 hK1 hP1 hD1 hS1 => ?_)
  have h1 : va_RA s cA .int := (hK1.2 4 (cA, .int) rfl).2
  have h2 : va_RA s (cs 0) .int := (hK.2 0 (cs 0, .int) rfl).2
  have e : cA = cs 0 := Option.some.inj ((show s.vm.findClass _ = some cA from h1).symm.trans h2)
  subst e
  exact kk q H1 hP1 hD1 hS1
theorem rv_newc (hx : p.tables.exec = Jvm.exec) (hb : c.code = cc) (harr : (Cond.arrayClass .char).before args s = true) (hK : KA D cs s) (hP : va_P D classes ws H) (hD : va_D A ws) (hS : va_S A H0 H locs) (hA : ∀ q, H0.size ≤ q → A q) {z : Int} (N : Nat) (hz : z = (N : Int)) (hN : N < 100000) (hcells : cells + 1 ≤ R.cells) (hslots : slots + N ≤ R.slots) (hdg : decode cc pc = .ok (.newarray .char, 2))
    (kk : ∀ (q : Nat) (H1 : Heap), va_P D classes (ws ++ [(q, caC cs N (fun _ => 0))]) H1 → va_D A (ws ++ [(q, caC cs N (fun _ => 0))]) → va_S A H0 H1 locs → W p l e R s m args below meth c H1 locs (cells + 1) (slots + N) Q (F0 m (pc + 2) ls (.ref q :: rest))) : W p l e R s m args below meth c H locs cells slots Q (F0 m pc ls (.int (iI z) :: rest)) := by
  subst hz
  refine va_newa (atype := .char) (a0 := (N, .inl (iA (fun _ => 0)))) hx hb harr rfl hK hP hD hS hA (fun cA => rfl) (by rw [← iI_z, iI_lt (by omega) (by omega)]; omega) (by rw [iI_cl (by omega), Int.toNat_natCast]) (by show N * 2 ≤ _; omega) hcells hslots hdg (fun q cA H1 hK1 hP1 hD1 hS1 => ?_)
  have h1 : va_RA s cA .char := (hK1.2 4 (cA, .char) rfl).2
  have h2 : va_RA s (cs 1) .char := (hK.2 1 (cs 1, .char) rfl).2
  have e : cA = cs 1 := Option.some.inj ((show s.vm.findClass _ = some cA from h1).symm.trans h2)
  subst e
  exact kk q H1 hP1 hD1 hS1
theorem rv_newq {C : String} {own : String} {index t0 : Nat} {cT : ClassId} (hx : p.tables.exec = Jvm.exec) (hb : c.code = cc) (hown : s.vm.findClass own = some m.cls) (hclink : (Cond.classLink own index C).before args s = true) (hover : va_AO C s) (hK : KA D cs s) (ht : (KT cs)[t0]? = some (cT, .object C)) (hP : va_P D classes ws H) (hD : va_D A ws) (hS : va_S A H0 H locs) (hA : ∀ q, H0.size ≤ q → A q) {z : Int} (N : Nat) (hz : z = (N : Int)) (hN : N < 100000) (hcells : cells + 1 ≤ R.cells) (hslots : slots + N ≤ R.slots) (hdg : decode cc pc = .ok (.anewarray index, 3))
    (kk : ∀ (q : Nat) (H1 : Heap), va_P D classes (ws ++ [(q, raC cT N (fun _ => none))]) H1 → va_D A (ws ++ [(q, raC cT N (fun _ => none))]) → va_S A H0 H1 locs → W p l e R s m args below meth c H1 locs (cells + 1) (slots + N) Q (F0 m (pc + 3) ls (.ref q :: rest))) : W p l e R s m args below meth c H locs cells slots Q (F0 m pc ls (.int (iI z) :: rest)) := by
  subst hz
  refine va_newq hx hb hown hclink hover hK hP hD hS hA (N' := N) (by rw [← iI_z, iI_lt (by omega) (by omega)]; omega) (by rw [iI_cl (by omega), Int.toNat_natCast]) (by omega) hcells hslots hdg (fun q cA H1 hK1 hP1 hD1 hS1 => ?_)
  obtain ⟨kA, comp, -, -, -, h1⟩ : va_RA s cA (.object C) := (hK1.2 4 (cA, .object C) rfl).2
  obtain ⟨kB, compB, -, -, -, h2⟩ : va_RA s cT (.object C) := (hK.2 t0 (cT, .object C) ht).2
  have e : cA = cT := Option.some.inj (h1.symm.trans h2)
  subst e
  exact kk q H1 hP1 hD1 hS1
theorem rv_aald (hx : p.tables.exec = Jvm.exec) (hb : c.code = cc) (hK : KA D cs s) (hP : va_P D classes ws H) (q0 t0 : Nat) {a : Nat} {cA : ClassId} {C : String} {n : Nat} {g : Nat → Option Nat} (ha : ws[q0]? = some (a, raC cA n g)) (ht : (KT cs)[t0]? = some (cA, .object C)) {z : Int} (j : Nat) (hj : z = (j : Int)) (hlt : j < n ∧ n < 2147483648) {y : Nat} (hy : g j = some y) (hdg : decode cc pc = .ok (.aaload, 1))
    (kk : W p l e R s m args below meth c H locs cells slots Q (F0 m (pc + 1) ls (.ref y :: rest))) : W p l e R s m args below meth c H locs cells slots Q (F0 m pc ls (.int (iI z) :: .ref a :: rest)) :=
  va_aldq hx hb hK hP q0 t0 ha ht (iI_in hj hlt) hdg (by rw [iI_at hj hlt, hy]; exact kk)
theorem rv_aast (hx : p.tables.exec = Jvm.exec) (hb : c.code = cc) (hK : KA D cs s) (hP : va_P D classes ws H) (hD : va_D A ws) (hS : va_S A H0 H locs) (q0 t0 : Nat) {a v : Nat} {cA : ClassId} {C : String} {n : Nat} {g : Nat → Option Nat} (ha : ws[q0]? = some (a, raC cA n g)) (ht : (KT cs)[t0]? = some (cA, .object C)) (hr : va_Any C s H v) {z : Int} (j : Nat) (hj : z = (j : Int)) (hlt : j < n ∧ n < 2147483648) (hdg : decode cc pc = .ok (.aastore, 1))
    (kk : ∀ (H1 : Heap) (locs1 : List Loc), va_P D classes (ws.set q0 (a, raC cA n (va_up g j (some v)))) H1 → va_D A (ws.set q0 (a, raC cA n (va_up g j (some v)))) → va_S A H0 H1 locs1 → W p l e R s m args below meth c H1 locs1 cells slots Q (F0 m (pc + 1) ls rest)) : W p l e R s m args below meth c H locs cells slots Q (F0 m pc ls (.ref v :: .int (iI z) :: .ref a :: rest)) :=
  va_astqM hx hb hK hP hD hS q0 t0 ha ht hr (iI_in hj hlt) hdg (by rw [iI_at hj hlt]; exact kk)
theorem rv_aastN (hx : p.tables.exec = Jvm.exec) (hb : c.code = cc) (hK : KA D cs s) (hP : va_P D classes ws H) (hD : va_D A ws) (hS : va_S A H0 H locs) (q0 t0 : Nat) {a : Nat} {cA : ClassId} {C : String} {n : Nat} {g : Nat → Option Nat} (ha : ws[q0]? = some (a, raC cA n g)) (ht : (KT cs)[t0]? = some (cA, .object C)) {z : Int} (j : Nat) (hj : z = (j : Int)) (hlt : j < n ∧ n < 2147483648) (hdg : decode cc pc = .ok (.aastore, 1))
    (kk : ∀ (H1 : Heap) (locs1 : List Loc), va_P D classes (ws.set q0 (a, raC cA n (va_up g j none))) H1 → va_D A (ws.set q0 (a, raC cA n (va_up g j none))) → va_S A H0 H1 locs1 → W p l e R s m args below meth c H1 locs1 cells slots Q (F0 m (pc + 1) ls rest)) : W p l e R s m args below meth c H locs cells slots Q (F0 m pc ls (.null :: .int (iI z) :: .ref a :: rest)) :=
  va_astqN hx hb hK hP hD hS q0 t0 ha ht (iI_in hj hlt) hdg (by rw [iI_at hj hlt]; exact kk)
end RN
theorem va_up_s {α : Type} {f : Nat → α} {k : Nat} {x : α} : va_up f k x k = x := by simp [va_up]
theorem va_up_n {α : Type} {f : Nat → α} {k j : Nat} {x : α} (h : j ≠ k) : va_up f k x j = f j := by simp [va_up, h]
