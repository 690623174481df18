/-! Plan -/
theorem preV_pl {D : va_G} {cs : Nat → ClassId} {A : Nat → Prop} {s : State} {H : Heap} {a : Nat} {v : Nat → Int} {vs : List Value} (hK : KA D cs s) (h : PlanAt D cs A H a v) : PreV s H "SoundWells$Plan" a (va_Pc (.ref a :: vs) (fun U => KA D cs U ∧ PlanAt D cs (fun _ => False) U.heap a v)) vs := preV_of (Bf := fun U H => KA D cs U ∧ PlanAt D cs (fun _ => False) H a v) (Stb_and (KA_stb D cs) Stb_H) (h.recv hK) ⟨hK, h.any⟩
def PlG (D : va_G) (cs : Nat → ClassId) (M : Nat → Prop) (H : Heap) (a : Nat) (v : Nat → Int) (arr : Nat) (g : Nat → Option Nat) : Prop :=
  vL v ∧ va_P D classes [(a, plC arr (v 21) (v 22) (v 23)), (arr, raC (cs 2) (v 20).toNat g)] H ∧ ¬ M a ∧ ¬ M arr ∧ ∀ q : Nat, (q : Int) < v 20 → ∃ y : Nat, g q = some y ∧ PanelAt D cs M H y (v (5 * q)) (v (5 * q + 1)) (v (5 * q + 2)) (v (5 * q + 3)) (v (5 * q + 4))
theorem PlanAt.g {D : va_G} {cs : Nat → ClassId} {M : Nat → Prop} {H : Heap} {a : Nat} {v : Nat → Int} (h : PlanAt D cs M H a v) : ∃ (arr : Nat) (g : Nat → Option Nat), PlG D cs M H a v arr g := by
  obtain ⟨hv, arr, g, h1, h2, h3, h4⟩ := h
  exact ⟨arr, g, hv, h1, h2, h3, h4⟩
theorem PlG.at {D : va_G} {cs : Nat → ClassId} {M : Nat → Prop} {H : Heap} {a : Nat} {v : Nat → Int} {arr : Nat} {g : Nat → Option Nat} (h : PlG D cs M H a v arr g) : PlanAt D cs M H a v := ⟨h.1, arr, g, h.2.1, h.2.2.1, h.2.2.2.1, h.2.2.2.2⟩
theorem PlG.kept {D : va_G} {cs : Nat → ClassId} {M : Nat → Prop} {H H1 : Heap} {a : Nat} {v : Nat → Int} {arr : Nat} {g : Nat → Option Nat} (h : PlG D cs M H a v arr g) (hq : ∀ q : Nat, q < H.size → ¬ M q → H1[q]? = H[q]?) : PlG D cs M H1 a v arr g := by
  obtain ⟨hv, h1, h2, h3, h4⟩ := h
  obtain ⟨g1, g2⟩ := h1.two
  exact ⟨hv, va_P.of2 (g1.kept (hq _ g1.lt h2)) (g2.kept (hq _ g2.lt h3)), h2, h3, fun q hq1 => by obtain ⟨y, e, hy⟩ := h4 q hq1; exact ⟨y, e, hy.kept hq⟩⟩
theorem PlG.inS {D : va_G} {cs : Nat → ClassId} {M A : Nat → Prop} {ws : va_W} {H0 H : Heap} {locs : List Loc} {a : Nat} {v : Nat → Int} {arr : Nat} {g : Nat → Option Nat} (h : PlG D cs M H0 a v arr g) (hw : ∀ q, Mw ws q → M q) (hAe : va_A ws H0.size = A) (hS : va_S A H0 H locs) : PlG D cs M H a v arr g :=
  h.kept (fun q h1 h2 => hS.2.1 q h1 (fun z => by rw [← hAe] at z; exact z.elim (fun y => h2 (hw q y)) (fun y => by omega)))
def PlIn (D : va_G) (cs : Nat → ClassId) (H : Heap) (a arr N : Nat) (g : Nat → Option Nat) (u b w : Int) : Prop := va_P D classes [(a, plC arr u b w), (arr, raC (cs 2) N g)] H ∧ ∀ q : Nat, q < N → ∃ y, g q = some y
theorem preV_pi {D : va_G} {cs : Nat → ClassId} {s : State} {H : Heap} {a arr N : Nat} {g : Nat → Option Nat} {u b w : Int} {vs : List Value} (hK : KA D cs s) (h : PlIn D cs H a arr N g u b w) : PreV s H "SoundWells$Plan" a (va_Pc (.ref a :: vs) (fun U => KA D cs U ∧ PlIn D cs U.heap a arr N g u b w)) vs := preV_of (Bf := fun U H => KA D cs U ∧ PlIn D cs H a arr N g u b w) (Stb_and (KA_stb D cs) Stb_H) (va_recv hK h.1 (ci := 2) (q0 := 0) rfl rfl) ⟨hK, h⟩
def ST (U : State) : Prop := va_AO "SoundWells$Panel" U ∧ va_AO "SoundWells$Plan" U ∧ va_Nw (.castable "[LSoundWells$Panel;" "java/lang/Cloneable") U
theorem va_AO.same {C : String} {u U : State} (e : u.vm = U.vm) (h : va_AO C u) : va_AO C U := h.moved (e ▸ Vm.Alike.refl u.vm)
theorem ST_stb : Stb (fun U _ => ST U) := ⟨fun u U H e h => ⟨h.1.same e, h.2.1.same e, h.2.2.same rfl e⟩, fun s U H w h => ⟨h.1.moved w.alike, h.2.1.moved w.alike, h.2.2.warmC w⟩⟩
theorem ref_fit {cA : ClassId} {n : Nat} {g : Nat → Option Nat} {C : String} : ∀ (i : Nat) (v : Value), (vp_cell cA (n, .inr (.inr (.inr (.inr g))))).slots[i]? = some v → fits (.object C) v = true := by
  intro i v h
  rw [vp_cell_q] at h
  rcases Nat.lt_or_ge i n with q | q
  · rw [arrV_read _ _ q] at h
    cases h
    cases g i <;> rfl
  · rw [Array.getElem?_eq_none (by rw [arrV_size]; exact q)] at h
    cases h
theorem tkV_hi {v : Nat → Int} {p j : Nat} (h : 21 ≤ j) : tkV v p j = v j := by unfold tkV; rw [if_neg (by omega), if_neg (by omega)]
theorem tkV_lo {v : Nat → Int} {p : Int} {q j : Nat} (h : (q : Int) < p) (hj : j < 5) (hp : p ≤ 4 := by omega) : tkV v p.toNat (5 * q + j) = v (5 * q + j) := by unfold tkV; rw [if_neg (by omega), if_neg (by omega)]
theorem tkV_mv {v : Nat → Int} {p : Int} {q j : Nat} (h : ¬ (q : Int) < p) (hq : q + 1 < 4) (hj : j < 5) : tkV v p.toNat (5 * q + j) = v (5 * (q + 1) + j) := by unfold tkV; rw [if_neg (by omega), if_pos (by omega)]; congr 1; omega
theorem vL_take {v : Nat → Int} {p : Int} (h : vL v) (hp : 0 ≤ p ∧ p < v 20) : vL (tkV v p.toNat) := by
  obtain ⟨h20, h21, h22, h23, hq⟩ := h
  have e20 : tkV v p.toNat 20 = v 20 - 1 := by unfold tkV; rw [if_pos rfl]
  refine ⟨by rw [e20]; omega, by rw [tkV_hi (by decide)]; exact h21, by rw [tkV_hi (by decide)]; exact h22, by rw [tkV_hi (by decide)]; exact h23, fun q hq1 => ?_⟩
  rw [e20] at hq1
  by_cases z : (q : Int) < p
  · have e0 := tkV_lo (v := v) (j := 0) z (by decide)
    rw [Nat.add_zero] at e0
    rw [e0, tkV_lo (j := 1) z (by decide), tkV_lo (j := 2) z (by decide), tkV_lo (j := 3) z (by decide), tkV_lo (j := 4) z (by decide)]
    exact hq q (by omega)
  · have e0 := tkV_mv (v := v) (j := 0) z (by omega) (by decide)
    rw [Nat.add_zero, Nat.add_zero] at e0
    rw [e0, tkV_mv (j := 1) z (by omega) (by decide), tkV_mv (j := 2) z (by omega) (by decide), tkV_mv (j := 3) z (by omega) (by decide), tkV_mv (j := 4) z (by omega) (by decide)]
    exact hq (q + 1) (by omega)
theorem rv_clone {p : Program} {l : Launch} {e : Env} {R : Room} {s : State} {m : MethodId} {args : Array Value} {below : List Frame} {meth : Method} {c : Code} {H : Heap} {cells slots : Nat} {Q : State → Prop} {cc : ByteArray} {pc : Nat} {ls : Array Slot} {rest : List Value} {D : va_G} {cs : Nat → ClassId} {A : Nat → Prop} {ws : va_W} {H0 : Heap} {b arr N : Nat} {x : va_E} {g : Nat → Option Nat} {own : String} {index : Nat} (hx : p.tables.exec = Jvm.exec) (hb : c.code = cc) (hml : c.maxLocals = ls.size) (hown : s.vm.findClass own = some m.cls)
    (hlink : (Cond.methodLink own index ⟨"[LSoundWells$Panel;", "clone", "()Ljava/lang/Object;"⟩).before args s = true) (hsame : (Cond.sameMethod "[LSoundWells$Panel;" "java/lang/Object" "clone" "()Ljava/lang/Object;").before args s = true)
    (hnat : (Cond.native ⟨"java/lang/Object", "clone", "()Ljava/lang/Object;"⟩).before args s = true) (hinst : (Cond.instanceMethod ⟨"java/lang/Object", "clone", "()Ljava/lang/Object;"⟩).before args s = true)
    (hsel : (Cond.selects "[LSoundWells$Panel;" ⟨"[LSoundWells$Panel;", "clone", "()Ljava/lang/Object;"⟩ ⟨"java/lang/Object", "clone", "()Ljava/lang/Object;"⟩).before args s = true) (hcl : va_Nw (.castable "[LSoundWells$Panel;" "java/lang/Cloneable") s)
    (hK : KA D cs s) (hP : va_P D classes ws H) (hPl : va_P D classes [(b, x), (arr, raC (cs 2) N g)] H) (hD : va_D A ws) (hS : va_S A H0 H []) (hA : ∀ q, H0.size ≤ q → A q) (hnm : s.vm.findClass "[LSoundWells$Panel;" = some (cs 2))
    (hframes : 1 ≤ R.frames) (hlocals : (rest.map fun v => v.category).sum + 14 ≤ R.locals) (hcells : cells + 1 ≤ R.cells) (hslots : slots + N ≤ R.slots) (hdg : decode cc pc = .ok (.invokevirtual index, 3))
    (kk : ∀ (q : Nat) (H1 : Heap), va_P D classes (ws ++ [(q, raC (cs 2) N g)]) H1 → va_D A (ws ++ [(q, raC (cs 2) N g)]) → va_S A H0 H1 [] → W p l e R s m args below meth c H1 [] (cells + 1) (slots + N) Q (F0 m (pc + 3) ls (.ref q :: rest))) : W p l e R s m args below meth c H [] cells slots Q (F0 m pc ls (.ref arr :: rest)) := by
  have hat := hPl 1 _ rfl
  have hP2 : va_P D classes [(arr, raC (cs 2) N g)] H := hPl.sub [1] rfl
  have hD2 : va_D (fun q => q = arr ∨ H.size ≤ q) ([(arr, raC (cs 2) N g)] : va_W) := by
    refine ⟨fun i j y z hi hj _ => ?_, fun k y hk => ?_⟩
    · have h1 : i < 1 := (List.getElem?_eq_some_iff.mp hi).1
      have h2 : j < 1 := (List.getElem?_eq_some_iff.mp hj).1
      omega
    · have h1 : k < 1 := (List.getElem?_eq_some_iff.mp hk).1
      rw [show k = 0 by omega] at hk
      cases hk
      exact Or.inl rfl
  refine va_clone hx hb hml hown hlink hsame hnat hinst hsel hcl hK hP2 hD2 (va_S.rf (H0 := H)) (fun q h => Or.inr h) 0 2 rfl rfl hnm ref_fit hframes hlocals hcells hslots hdg (fun q H1 _ hP1 hD1 hS1 => ?_)
  have hq : H.size ≤ q := by
    rcases hD1.2 1 _ rfl with z | z
    · exact absurd (hD1.1 0 1 _ _ rfl rfl z.symm) (by decide)
    · exact z
  have hall : ∀ y : Nat, y < H.size → H1[y]? = H[y]? := fun y hy => by
    by_cases z : y = arr
    · subst z
      have h1 : va_at D classes (y, raC (cs 2) N g) H1 := hP1 0 _ rfl
      exact (show H1[y]? = some _ from h1).trans (show H[y]? = some _ from hat).symm
    · exact hS1.2.1 y hy (fun q => by rcases q with q | q; exact z q; omega)
  have hone : va_P D classes [(q, raC (cs 2) N g)] H1 := hP1.sub [1] rfl
  refine kk q H1 ((hP.kept (fun k y hy => hall y.1 ((hP k y hy).lt))).app hone) (hD.app ⟨fun i j y z hi hj _ => ?_, fun k y hk => ?_⟩ (fun i j y z hi hj hyz => ?_)) ⟨Nat.le_trans hS.1 hS1.1, fun y h1 h2 => (hall y (Nat.lt_of_lt_of_le h1 hS.1)).trans (hS.2.1 y h1 h2), fun _ h => absurd h List.not_mem_nil⟩
  · have h1 : i < 1 := (List.getElem?_eq_some_iff.mp hi).1
    have h2 : j < 1 := (List.getElem?_eq_some_iff.mp hj).1
    omega
  · have h1 : k < 1 := (List.getElem?_eq_some_iff.mp hk).1
    rw [show k = 0 by omega] at hk
    cases hk
    exact hA q (Nat.le_trans hS.1 hq)
  · have h1 := (hP i y hi).lt
    have h2 : j < 1 := (List.getElem?_eq_some_iff.mp hj).1
    rw [show j = 0 by omega] at hj
    cases hj
    have h3 : y.1 = q := hyz
    omega
theorem wsum_bd {v : Nat → Int} (h : vL v) (q : Nat) (hq : (q : Int) ≤ v 20) : 0 ≤ wsum v q ∧ wsum v q ≤ 40 * (q : Int) := by
  induction q with
  | zero => exact ⟨by simp [wsum], by simp [wsum]⟩
  | succ q ih =>
    have h1 := ih (by omega)
    have h2 := (h.2.2.2.2 q (by omega)).2.2.2.2
    rw [wsum]
    omega

abbrev rm_X3_panelAt : Room := { frames := 0, cells := 0, slots := 0, locals := 0 }
set_option maxHeartbeats 4000000 in
set_option maxRecDepth 100000 in
/-- panelAt -/
theorem c_X3_panelAt (l : Launch) (D : va_G) (cs : Nat → ClassId) (a : Nat) (arr : Nat) (N : Nat) (g : Nat → Option Nat) (u : Int) (b : Int) (w : Int) (p : Int) (hp : -2147483648 ≤ p ∧ p < 2147483648) (hN : N < 100000) : Met l yX3_panelAt (Cond.code yX3_panelAt cX3_panelAt 2 (some (.object "SoundWells$Panel")) :: TB) rm_X3_panelAt (va_Pc [.ref a, .int (iI p)] (fun U => KA D cs U ∧ PlIn D cs U.heap a arr N g u b w)) (va_Sq (fun r => r = cF (0 ≤ p ∧ p < ((N : Nat) : Int)) (g p.toNat) none)) 0 0 (fun _ => False) := by
  refine enter (cc := cX3_panelAt) (maxL := 2) (ret := (some (.object "SoundWells$Panel"))) (by decide) (Nat.le_of_ble_eq_true rfl) ?_
  intro pg ev s m below meth c Q ls hx hb hml hown hts hr hlocks hnm ⟨hK, hpi⟩ hl hQ
  have ht : ∀ w ∈ TB, w.before _ s = true := fun w h => hts w (List.mem_cons_of_mem _ h)
  have hl : lv_has ls 2 [(0, .ref a), (1, .int (iI p))] := hl
  obtain ⟨hPl, hall⟩ := hpi
  refine lv_iload_n hx hb dX3_panelAt_0 rfl (lv_at hl 1 rfl) ?_
  refine rv_if_lt (tgt := 13) hx hb dX3_panelAt_1 (by decide) (by omega) (fun h1 => ?_) (fun h1 => ?_)
  · refine lv_null hx hb dX3_panelAt_13 ?_
    refine lv_goto (tgt := 23) hx hb dX3_panelAt_14 (by decide) ?_
    subst hQ
    exact W.aret (v := .null) hx hb hr (Or.inl ⟨_, rfl⟩) (Or.inl rfl) (fun t9 ht9 hW9 => ⟨none, rfl, (by rw [cF_neg (by omega)]), ht9⟩) (fun _ h => absurd h List.not_mem_nil) dX3_panelAt_23
  · refine lv_iload_n hx hb dX3_panelAt_4 rfl (lv_at hl 1 rfl) ?_
    refine lv_aload_n hx hb dX3_panelAt_5 rfl (lv_at hl 0 rfl) ?_
    refine va_get (D := D) (ci := 2) (v := .ref arr) (C := RX3) (T := TX3) (N := 4) hx hb ht inTB_X3 hown hK hPl 0 rfl rfl 0 (by decide) (ht _ tb_178) (fun _ h9 => h9) rfl dX3_panelAt_6 ?_
    refine rv_alen hx hb hK hPl 1 2 rfl rfl dX3_panelAt_9 ?_
    refine rv_icmp_lt (tgt := 17) hx hb dX3_panelAt_10 (by decide) (by omega) (fun h10 => ?_) (fun h10 => ?_)
    · refine lv_aload_n hx hb dX3_panelAt_17 rfl (lv_at hl 0 rfl) ?_
      refine va_get (D := D) (ci := 2) (v := .ref arr) (C := RX3) (T := TX3) (N := 4) hx hb ht inTB_X3 hown hK hPl 0 rfl rfl 0 (by decide) (ht _ tb_178) (fun _ h9 => h9) rfl dX3_panelAt_18 ?_
      refine lv_iload_n hx hb dX3_panelAt_21 rfl (lv_at hl 1 rfl) ?_
      obtain ⟨y, hy⟩ := hall p.toNat (by omega)
      refine rv_aald (y := y) hx hb hK hPl 1 2 rfl rfl p.toNat (by omega) (by omega) hy dX3_panelAt_22 ?_
      subst hQ
      exact W.aret (v := .ref y) hx hb hr (Or.inl ⟨_, rfl⟩) (Or.inr ⟨_, rfl⟩) (fun t9 ht9 hW9 => ⟨some y, rfl, (by rw [cF_pos (by omega), hy]), ht9⟩) (fun _ h => absurd h List.not_mem_nil) dX3_panelAt_23
    · refine lv_null hx hb dX3_panelAt_13 ?_
      refine lv_goto (tgt := 23) hx hb dX3_panelAt_14 (by decide) ?_
      subst hQ
      exact W.aret (v := .null) hx hb hr (Or.inl ⟨_, rfl⟩) (Or.inl rfl) (fun t9 ht9 hW9 => ⟨none, rfl, (by rw [cF_neg (by omega)]), ht9⟩) (fun _ h => absurd h List.not_mem_nil) dX3_panelAt_23

abbrev rm_X3_wellsBefore : Room := { frames := 0, cells := 0, slots := 0, locals := 0 }
set_option maxHeartbeats 4000000 in
set_option maxRecDepth 100000 in
/-- wellsBefore -/
theorem c_X3_wellsBefore (l : Launch) (D : va_G) (cs : Nat → ClassId) (a : Nat) (v : Nat → Int) (p : Int) (hp : 0 ≤ p ∧ p < 1000) : Met l yX3_wellsBefore (Cond.code yX3_wellsBefore cX3_wellsBefore 5 (some .int) :: TB) rm_X3_wellsBefore (va_Pc [.ref a, .int (iI p)] (fun U => KA D cs U ∧ PlanAt D cs (fun _ => False) U.heap a v)) (vp_Si (fun r => r = iI (wsum v (mnI p (v 20)).toNat))) 0 0 (fun _ => False) := by
  refine enter (cc := cX3_wellsBefore) (maxL := 5) (ret := (some .int)) (by decide) (Nat.le_of_ble_eq_true rfl) ?_
  intro pg ev s m below meth c Q ls hx hb hml hown hts hr hlocks hnm ⟨hK, hpl⟩ hl hQ
  have ht : ∀ w ∈ TB, w.before _ s = true := fun w h => hts w (List.mem_cons_of_mem _ h)
  have hl : lv_has ls 5 [(0, .ref a), (1, .int (iI p))] := hl
  obtain ⟨hvL, arr, g, hPl, -, -, hgy⟩ := id hpl
  obtain ⟨hv20, hv21, hv22, hv23, hvp⟩ := id hvL
  refine rv_iconst hx hb dX3_wellsBefore_0 ?_
  refine lv_istore_n (lv' := [(2, .int (iI 0)), (0, .ref a), (1, .int (iI p))]) hx hb dX3_wellsBefore_1 rfl hl (by decide) rfl (fun ls hl => ?_)
  refine rv_iconst hx hb dX3_wellsBefore_2 ?_
  refine lv_istore_n (lv' := [(3, .int (iI 0)), (2, .int (iI 0)), (0, .ref a), (1, .int (iI p))]) hx hb dX3_wellsBefore_3 rfl hl (by decide) rfl (fun ls hl => ?_)
  have loop4 : ∀ (fuel4 : Nat) (q : Nat), ((q : Int) ≤ p ∧ (q : Int) ≤ v 20) → (p - (q : Int)).toNat < fuel4 → ∀ (x2 x3 : Int), x2 = wsum v q → x3 = (q : Int) → ∀ ls : Array Slot, lv_has ls 5 [(0, .ref a), (1, .int (iI p)), (2, .int (iI x2)), (3, .int (iI x3))] → W pg l ev rm_X3_wellsBefore s m [.ref a, .int (iI p)].toArray below meth c s.heap [] 0 0 Q (F0 m 4 ls []) := by
    intro fuel4
    induction fuel4 with
    | zero => intro q hq hfuel4; exact absurd hfuel4 (Nat.not_lt_zero _)
    | succ fuel4 ih4 =>
      intro q hq hfuel4 x2 x3 ex2 ex3 ls hl
      subst ex2 ex3
      refine lv_iload_n hx hb dX3_wellsBefore_4 rfl (lv_at hl 3 rfl) ?_
      refine lv_iload_n hx hb dX3_wellsBefore_5 rfl (lv_at hl 1 rfl) ?_
      refine rv_icmp_ge (tgt := 45) hx hb dX3_wellsBefore_6 (by decide) (by omega) (fun h6 => ?_) (fun h6 => ?_)
      · refine lv_iload_n hx hb dX3_wellsBefore_45 rfl (lv_at hl 2 rfl) ?_
        subst hQ
        exact W.iret hx hb hr (fun t9 ht9 hW9 => ⟨_, rfl, by rw [show (mnI p (v 20)).toNat = q by unfold mnI; split <;> omega], ht9⟩) (fun _ h => absurd h List.not_mem_nil) dX3_wellsBefore_46
      · refine lv_iload_n hx hb dX3_wellsBefore_9 rfl (lv_at hl 3 rfl) ?_
        refine lv_aload_n hx hb dX3_wellsBefore_10 rfl (lv_at hl 0 rfl) ?_
        refine va_get (D := D) (ci := 2) (v := .ref arr) (C := RX3) (T := TX3) (N := 4) hx hb ht inTB_X3 hown hK hPl 0 rfl rfl 0 (by decide) (ht _ tb_178) (fun _ h9 => h9) rfl dX3_wellsBefore_11 ?_
        refine rv_alen hx hb hK hPl 1 2 rfl rfl dX3_wellsBefore_14 ?_
        refine rv_icmp_ge (tgt := 45) hx hb dX3_wellsBefore_15 (by decide) (by omega) (fun h15 => ?_) (fun h15 => ?_)
        · refine lv_iload_n hx hb dX3_wellsBefore_45 rfl (lv_at hl 2 rfl) ?_
          subst hQ
          exact W.iret hx hb hr (fun t9 ht9 hW9 => ⟨_, rfl, by rw [show (mnI p (v 20)).toNat = q by unfold mnI; split <;> omega], ht9⟩) (fun _ h => absurd h List.not_mem_nil) dX3_wellsBefore_46
        · obtain ⟨y, hy, hvq, rq, rowq, hPq, -⟩ := hgy q (by omega)
          refine lv_aload_n hx hb dX3_wellsBefore_18 rfl (lv_at hl 0 rfl) ?_
          refine va_get (D := D) (ci := 2) (v := .ref arr) (C := RX3) (T := TX3) (N := 4) hx hb ht inTB_X3 hown hK hPl 0 rfl rfl 0 (by decide) (ht _ tb_178) (fun _ h9 => h9) rfl dX3_wellsBefore_19 ?_
          refine lv_iload_n hx hb dX3_wellsBefore_22 rfl (lv_at hl 3 rfl) ?_
          refine rv_aald (y := y) hx hb hK hPl 1 2 rfl rfl q rfl (by omega) hy dX3_wellsBefore_23 ?_
          refine lv_astore (lv' := [(4, .ref y), (0, .ref a), (1, .int (iI p)), (2, .int (iI (wsum v q))), (3, .int (iI (q : Int)))]) hx hb dX3_wellsBefore_24 hl (by decide) rfl (fun ls hl => ?_)
          refine lv_aload hx hb dX3_wellsBefore_26 (lv_at hl 0 rfl) ?_
          refine lv_ifnull hx hb dX3_wellsBefore_28 ?_
          refine lv_iload_n hx hb dX3_wellsBefore_31 rfl (lv_at hl 3 rfl) ?_
          refine lv_aload hx hb dX3_wellsBefore_32 (lv_at hl 0 rfl) ?_
          refine va_get (D := D) (ci := 0) (v := .int (iI (v (5 * q + 4)))) (C := RX1) (T := TX1) (N := 7) hx hb ht inTB_X1 hown hK hPq 0 rfl rfl 4 (by decide) (ht _ tb_151) (fun _ h9 => h9) rfl dX3_wellsBefore_34 ?_
          refine rv_iadd hx hb dX3_wellsBefore_37 ?_
          refine lv_istore_n (lv' := [(2, .int (iI (wsum v q + (v (5 * q + 4))))), (4, .ref y), (0, .ref a), (1, .int (iI p)), (3, .int (iI (q : Int)))]) hx hb dX3_wellsBefore_38 rfl hl (by decide) rfl (fun ls hl => ?_)
          refine rv_iinc (k := 4) (lv' := [(3, .int (iI ((q : Int) + 1))), (2, .int (iI (wsum v q + (v (5 * q + 4))))), (4, .ref y), (0, .ref a), (1, .int (iI p))]) hx hb dX3_wellsBefore_39 hl rfl (by decide) rfl (fun ls hl => ?_)
          refine lv_goto (tgt := 4) hx hb dX3_wellsBefore_42 (by decide) ?_
          exact ih4 (q + 1) (by omega) (by omega) _ _ rfl (by omega) ls (lv_sub hl [3, 4, 1, 0] rfl)
  exact loop4 (_ + 1) 0 (by omega) (Nat.lt_succ_self _) _ _ rfl rfl ls (lv_sub hl [2, 3, 1, 0] rfl)

abbrev rm_X3_allows : Room := { frames := 0, cells := 0, slots := 0, locals := 0 }
set_option maxHeartbeats 4000000 in
set_option maxRecDepth 100000 in
/-- allows -/
theorem c_X3_allows (l : Launch) (what : Int) (x : Int) (hw : -2147483648 ≤ what ∧ what < 2147483648) (hx1 : -2147483648 ≤ x ∧ x < 2147483648) : Met l yX3_allows (Cond.code yX3_allows cX3_allows 2 (some .boolean) :: TB) rm_X3_allows (va_Pc [.int (iI what), .int (iI x)] (fun _ => True)) (vp_Si (fun r => (r = iI 1 ∧ (okTell what x)) ∨ (r = iI 0 ∧ ¬ (okTell what x)))) 0 0 (fun _ => False) := by
  refine enter (cc := cX3_allows) (maxL := 2) (ret := (some .boolean)) (by decide) (Nat.le_of_ble_eq_true rfl) ?_
  intro pg ev s m below meth c Q ls hx hb hml hown hts hr hlocks hnm _ hl hQ
  have ht : ∀ w ∈ TB, w.before _ s = true := fun w h => hts w (List.mem_cons_of_mem _ h)
  have hl : lv_has ls 2 [(0, .int (iI what)), (1, .int (iI x))] := hl
  refine lv_iload_n hx hb dX3_allows_0 rfl (lv_at hl 0 rfl) ?_
  by_cases hc0 : what = 0
  · refine rv_top (y := 0) hc0 ?_
    refine lv_tableIn (tgt := 28) hx hb dX3_allows_1 (by decide) (by decide) rfl (by decide) ?_
    refine lv_iload_n hx hb dX3_allows_28 rfl (lv_at hl 1 rfl) ?_
    refine rv_iconst hx hb dX3_allows_29 ?_
    refine rv_icmp_lt (tgt := 43) hx hb dX3_allows_30 (by decide) (by omega) (fun h30 => ?_) (fun h30 => ?_)
    · refine rv_iconst hx hb dX3_allows_43 ?_
      subst hQ
      exact W.zret (ty := .boolean) hx hb hr (by decide) (fun t9 ht9 hW9 => ⟨_, rfl, Or.inr ⟨rfl, fun q => by unfold okTell at q; omega⟩, ht9⟩) (fun _ h => absurd h List.not_mem_nil) dX3_allows_44
    · refine lv_iload_n hx hb dX3_allows_33 rfl (lv_at hl 1 rfl) ?_
      refine rv_bipush hx hb dX3_allows_34 (by decide) ?_
      refine rv_icmp_gt (tgt := 43) hx hb dX3_allows_36 (by decide) (by omega) (fun h36 => ?_) (fun h36 => ?_)
      · refine rv_iconst hx hb dX3_allows_43 ?_
        subst hQ
        exact W.zret (ty := .boolean) hx hb hr (by decide) (fun t9 ht9 hW9 => ⟨_, rfl, Or.inr ⟨rfl, fun q => by unfold okTell at q; omega⟩, ht9⟩) (fun _ h => absurd h List.not_mem_nil) dX3_allows_44
      · refine rv_iconst hx hb dX3_allows_39 ?_
        refine lv_goto (tgt := 44) hx hb dX3_allows_40 (by decide) ?_
        subst hQ
        exact W.zret (ty := .boolean) hx hb hr (by decide) (fun t9 ht9 hW9 => ⟨_, rfl, Or.inl ⟨rfl, by unfold okTell; omega⟩, ht9⟩) (fun _ h => absurd h List.not_mem_nil) dX3_allows_44
  by_cases hc1 : what = 1
  · refine rv_top (y := 1) hc1 ?_
    refine lv_tableIn (tgt := 45) hx hb dX3_allows_1 (by decide) (by decide) rfl (by decide) ?_
    refine lv_iload_n hx hb dX3_allows_45 rfl (lv_at hl 1 rfl) ?_
    refine rv_bipush hx hb dX3_allows_46 (by decide) ?_
    refine rv_icmp_lt (tgt := 62) hx hb dX3_allows_48 (by decide) (by omega) (fun h48 => ?_) (fun h48 => ?_)
    · refine rv_iconst hx hb dX3_allows_62 ?_
      subst hQ
      exact W.zret (ty := .boolean) hx hb hr (by decide) (fun t9 ht9 hW9 => ⟨_, rfl, Or.inr ⟨rfl, fun q => by unfold okTell at q; omega⟩, ht9⟩) (fun _ h => absurd h List.not_mem_nil) dX3_allows_63
    · refine lv_iload_n hx hb dX3_allows_51 rfl (lv_at hl 1 rfl) ?_
      refine rv_sipush hx hb dX3_allows_52 (by decide) ?_
      refine rv_icmp_gt (tgt := 62) hx hb dX3_allows_55 (by decide) (by omega) (fun h55 => ?_) (fun h55 => ?_)
      · refine rv_iconst hx hb dX3_allows_62 ?_
        subst hQ
        exact W.zret (ty := .boolean) hx hb hr (by decide) (fun t9 ht9 hW9 => ⟨_, rfl, Or.inr ⟨rfl, fun q => by unfold okTell at q; omega⟩, ht9⟩) (fun _ h => absurd h List.not_mem_nil) dX3_allows_63
      · refine rv_iconst hx hb dX3_allows_58 ?_
        refine lv_goto (tgt := 63) hx hb dX3_allows_59 (by decide) ?_
        subst hQ
        exact W.zret (ty := .boolean) hx hb hr (by decide) (fun t9 ht9 hW9 => ⟨_, rfl, Or.inl ⟨rfl, by unfold okTell; omega⟩, ht9⟩) (fun _ h => absurd h List.not_mem_nil) dX3_allows_63
  by_cases hc2 : what = 2
  · refine rv_top (y := 2) hc2 ?_
    refine lv_tableIn (tgt := 64) hx hb dX3_allows_1 (by decide) (by decide) rfl (by decide) ?_
    refine lv_iload_n hx hb dX3_allows_64 rfl (lv_at hl 1 rfl) ?_
    refine rv_if_lt (tgt := 77) hx hb dX3_allows_65 (by decide) (by omega) (fun h65 => ?_) (fun h65 => ?_)
    · refine rv_iconst hx hb dX3_allows_77 ?_
      subst hQ
      exact W.zret (ty := .boolean) hx hb hr (by decide) (fun t9 ht9 hW9 => ⟨_, rfl, Or.inr ⟨rfl, fun q => by unfold okTell at q; omega⟩, ht9⟩) (fun _ h => absurd h List.not_mem_nil) dX3_allows_78
    · refine lv_iload_n hx hb dX3_allows_68 rfl (lv_at hl 1 rfl) ?_
      refine rv_iconst hx hb dX3_allows_69 ?_
      refine rv_icmp_gt (tgt := 77) hx hb dX3_allows_70 (by decide) (by omega) (fun h70 => ?_) (fun h70 => ?_)
      · refine rv_iconst hx hb dX3_allows_77 ?_
        subst hQ
        exact W.zret (ty := .boolean) hx hb hr (by decide) (fun t9 ht9 hW9 => ⟨_, rfl, Or.inr ⟨rfl, fun q => by unfold okTell at q; omega⟩, ht9⟩) (fun _ h => absurd h List.not_mem_nil) dX3_allows_78
      · refine rv_iconst hx hb dX3_allows_73 ?_
        refine lv_goto (tgt := 78) hx hb dX3_allows_74 (by decide) ?_
        subst hQ
        exact W.zret (ty := .boolean) hx hb hr (by decide) (fun t9 ht9 hW9 => ⟨_, rfl, Or.inl ⟨rfl, by unfold okTell; omega⟩, ht9⟩) (fun _ h => absurd h List.not_mem_nil) dX3_allows_78
  refine lv_tableOut (tgt := 79) hx hb dX3_allows_1 (by rw [iI_toInt (by omega)]; omega) (by decide) ?_
  refine rv_iconst hx hb dX3_allows_79 ?_
  subst hQ
  exact W.zret (ty := .boolean) hx hb hr (by decide) (fun t9 ht9 hW9 => ⟨_, rfl, Or.inr ⟨rfl, fun q => by unfold okTell at q; omega⟩, ht9⟩) (fun _ h => absurd h List.not_mem_nil) dX3_allows_80

abbrev rm_X3_measure : Room := { frames := 0, cells := 0, slots := 0, locals := 0 }
set_option maxHeartbeats 4000000 in
set_option maxRecDepth 100000 in
/-- measure -/
theorem c_X3_measure (l : Launch) (D : va_G) (cs : Nat → ClassId) (a : Nat) (v : Nat → Int) (what : Int) (hw : 0 ≤ what ∧ what ≤ 2) : Met l yX3_measure (Cond.code yX3_measure cX3_measure 2 (some .int) :: TB) rm_X3_measure (va_Pc [.ref a, .int (iI what)] (fun U => KA D cs U ∧ PlanAt D cs (fun _ => False) U.heap a v)) (vp_Si (fun r => r = iI (v (21 + (what).toNat)))) 0 0 (fun _ => False) := by
  refine enter (cc := cX3_measure) (maxL := 2) (ret := (some .int)) (by decide) (Nat.le_of_ble_eq_true rfl) ?_
  intro pg ev s m below meth c Q ls hx hb hml hown hts hr hlocks hnm ⟨hK, hpl⟩ hl hQ
  have ht : ∀ w ∈ TB, w.before _ s = true := fun w h => hts w (List.mem_cons_of_mem _ h)
  have hl : lv_has ls 2 [(0, .ref a), (1, .int (iI what))] := hl
  obtain ⟨hvL, arr, g, hPl, -, -, hgy⟩ := id hpl
  obtain ⟨hv20, hv21, hv22, hv23, hvp⟩ := id hvL
  refine lv_iload_n hx hb dX3_measure_0 rfl (lv_at hl 1 rfl) ?_
  by_cases hc0 : what = 0
  · refine rv_top (y := 0) hc0 ?_
    refine lv_lookup (tgt := 28) hx hb dX3_measure_1 (by decide) rfl (by decide) ?_
    refine lv_aload_n hx hb dX3_measure_28 rfl (lv_at hl 0 rfl) ?_
    refine va_get (D := D) (ci := 2) (v := .int (iI (v 21))) (C := RX3) (T := TX3) (N := 4) hx hb ht inTB_X3 hown hK hPl 0 rfl rfl 1 (by decide) (ht _ tb_181) (fun _ h9 => h9) rfl dX3_measure_29 ?_
    subst hQ
    exact W.iret hx hb hr (fun t9 ht9 hW9 => ⟨_, rfl, by rw [show 21 + what.toNat = 21 by omega], ht9⟩) (fun _ h => absurd h List.not_mem_nil) dX3_measure_32
  by_cases hc1 : what = 1
  · refine rv_top (y := 1) hc1 ?_
    refine lv_lookup (tgt := 33) hx hb dX3_measure_1 (by decide) rfl (by decide) ?_
    refine lv_aload_n hx hb dX3_measure_33 rfl (lv_at hl 0 rfl) ?_
    refine va_get (D := D) (ci := 2) (v := .int (iI (v 22))) (C := RX3) (T := TX3) (N := 4) hx hb ht inTB_X3 hown hK hPl 0 rfl rfl 2 (by decide) (ht _ tb_184) (fun _ h9 => h9) rfl dX3_measure_34 ?_
    subst hQ
    exact W.iret hx hb hr (fun t9 ht9 hW9 => ⟨_, rfl, by rw [show 21 + what.toNat = 22 by omega], ht9⟩) (fun _ h => absurd h List.not_mem_nil) dX3_measure_37
  refine lv_lookup (tgt := 38) (off := 37) hx hb dX3_measure_1 (by decide) (by rw [iI_toInt (by omega)]; show Op.lookupswitch.offset [(0, 27), (1, 32)] 37 _ = 37; rw [Op.lookupswitch.offset_cons, if_neg (by omega), Op.lookupswitch.offset_cons, if_neg (by omega)]; rfl) (by decide) ?_
  refine lv_aload_n hx hb dX3_measure_38 rfl (lv_at hl 0 rfl) ?_
  refine va_get (D := D) (ci := 2) (v := .int (iI (v 23))) (C := RX3) (T := TX3) (N := 4) hx hb ht inTB_X3 hown hK hPl 0 rfl rfl 3 (by decide) (ht _ tb_187) (fun _ h9 => h9) rfl dX3_measure_39 ?_
  subst hQ
  exact W.iret hx hb hr (fun t9 ht9 hW9 => ⟨_, rfl, by rw [show 21 + what.toNat = 23 by omega], ht9⟩) (fun _ h => absurd h List.not_mem_nil) dX3_measure_42

abbrev rm_X3_init : Room := { frames := 1, cells := 0, slots := 0, locals := 12 }
set_option maxHeartbeats 8000000 in
set_option maxRecDepth 100000 in
/-- Plan(..) -/
theorem c_X3_init (l : Launch) (D : va_G) (cs : Nat → ClassId) (sz : Nat) (a : Nat) (arr : Nat) (u : Int) (b : Int) (w : Int) : Met l yX3_init (Cond.code yX3_init cX3_init 5 none :: TB) rm_X3_init (va_Pc [.ref a, .ref arr, .int (iI u), .int (iI b), .int (iI w)] (MPre D cs sz [(a, .inr (2, [.null, .int (iI 0), .int (iI 0), .int (iI 0)]))] (fun _ _ => True))) (va_Qv (fun _ : Unit => True) (fun _ t => va_P D classes [(a, .inr (2, [.ref arr, .int (iI u), .int (iI b), .int (iI w)]))] t.heap ∧ va_D (va_A [(a, .inr (2, [.null, .int (iI 0), .int (iI 0), .int (iI 0)]))] sz) [(a, .inr (2, [.ref arr, .int (iI u), .int (iI b), .int (iI w)]))]) (va_A [(a, .inr (2, [.null, .int (iI 0), .int (iI 0), .int (iI 0)]))] sz)) 0 0 (va_A [(a, .inr (2, [.null, .int (iI 0), .int (iI 0), .int (iI 0)]))] sz) := by
  refine enter (cc := cX3_init) (maxL := 5) (ret := none) (by decide) (Nat.le_of_ble_eq_true rfl) ?_
  intro pg ev s m below meth c Q ls hx hb hml hown hts hr hlocks hnm ⟨hsz, hP, hD0, hK, hX0⟩ hl hQ
  have ht : ∀ w ∈ TB, w.before _ s = true := fun w h => hts w (List.mem_cons_of_mem _ h)
  have hin : meth.name = "<init>" := hnm
  subst hsz
  have hD := hD0.self (sz := s.heap.size)
  obtain ⟨A, hAe⟩ : ∃ A, va_A [(a, .inr (2, [.null, .int (iI 0), .int (iI 0), .int (iI 0)]))] s.heap.size = A := ⟨_, rfl⟩
  rw [hAe] at hD
  have hA : ∀ q : Nat, s.heap.size ≤ q → A q := fun q h => by rw [← hAe]; exact Or.inr h
  obtain ⟨H, hH⟩ : ∃ H, H = s.heap := ⟨_, rfl⟩
  obtain ⟨locs, hlocs⟩ : ∃ locs : List Loc, locs = [] := ⟨_, rfl⟩
  have hS : va_S A s.heap H locs := by rw [hH, hlocs]; exact va_S.rf
  rw [← hH] at hP
  suffices hgo : W pg l ev rm_X3_init s m [.ref a, .ref arr, .int (iI u), .int (iI b), .int (iI w)].toArray below meth c H locs 0 0 Q (F0 m 0 ls []) by rw [hH, hlocs] at hgo; exact hgo
  have hl : lv_has ls 5 [(0, .ref a), (1, .ref arr), (2, .int (iI u)), (3, .int (iI b)), (4, .int (iI w))] := hl
  refine lv_aload_n hx hb dX3_init_0 rfl (lv_at hl 0 rfl) ?_
  refine W.objInit hx hb hown (ht _ tb_177) (ht _ tb_18) (ht _ tb_19) rfl (by rw [hml]; exact hl.1) rfl dX3_init_1 (Nat.le_of_ble_eq_true rfl) (Nat.le_of_ble_eq_true rfl) ?_
  refine W.eq (g2 := F0 m 4 ls []) rfl ?_
  refine lv_aload_n hx hb dX3_init_4 rfl (lv_at hl 0 rfl) ?_
  refine lv_aload_n hx hb dX3_init_5 rfl (lv_at hl 1 rfl) ?_
  refine va_putF (D := D) (ci := 2) (v := .ref arr) (ty := tyX3 0) (C := RX3) (T := TX3) (N := 4) hx hb ht inTB_X3 tyX3 tyX3_ok nmX3 hown hK hP hD hS 0 rfl rfl 0 (by decide) (ht _ tb_178) (fun _ h9 => h9) rfl hin rfl (tyX3_ok 0 (by decide)) rfl rfl (Nat.le_of_ble_eq_true rfl) dX3_init_6 (fun H locs hP hD hS => ?_)
  have hP : va_P D classes ([(a, .inr (2, [.ref arr, .int (iI 0), .int (iI 0), .int (iI 0)]))]) H := hP
  have hD : va_D A ([(a, .inr (2, [.ref arr, .int (iI 0), .int (iI 0), .int (iI 0)]))]) := hD
  refine lv_aload_n hx hb dX3_init_9 rfl (lv_at hl 0 rfl) ?_
  refine lv_iload_n hx hb dX3_init_10 rfl (lv_at hl 2 rfl) ?_
  refine va_putF (D := D) (ci := 2) (v := .int (iI u)) (ty := tyX3 1) (C := RX3) (T := TX3) (N := 4) hx hb ht inTB_X3 tyX3 tyX3_ok nmX3 hown hK hP hD hS 0 rfl rfl 1 (by decide) (ht _ tb_181) (fun _ h9 => h9) rfl hin rfl (tyX3_ok 1 (by decide)) rfl rfl (Nat.le_of_ble_eq_true rfl) dX3_init_11 (fun H locs hP hD hS => ?_)
  have hP : va_P D classes ([(a, .inr (2, [.ref arr, .int (iI u), .int (iI 0), .int (iI 0)]))]) H := hP
  have hD : va_D A ([(a, .inr (2, [.ref arr, .int (iI u), .int (iI 0), .int (iI 0)]))]) := hD
  refine lv_aload_n hx hb dX3_init_14 rfl (lv_at hl 0 rfl) ?_
  refine lv_iload_n hx hb dX3_init_15 rfl (lv_at hl 3 rfl) ?_
  refine va_putF (D := D) (ci := 2) (v := .int (iI b)) (ty := tyX3 2) (C := RX3) (T := TX3) (N := 4) hx hb ht inTB_X3 tyX3 tyX3_ok nmX3 hown hK hP hD hS 0 rfl rfl 2 (by decide) (ht _ tb_184) (fun _ h9 => h9) rfl hin rfl (tyX3_ok 2 (by decide)) rfl rfl (Nat.le_of_ble_eq_true rfl) dX3_init_16 (fun H locs hP hD hS => ?_)
  have hP : va_P D classes ([(a, .inr (2, [.ref arr, .int (iI u), .int (iI b), .int (iI 0)]))]) H := hP
  have hD : va_D A ([(a, .inr (2, [.ref arr, .int (iI u), .int (iI b), .int (iI 0)]))]) := hD
  refine lv_aload_n hx hb dX3_init_19 rfl (lv_at hl 0 rfl) ?_
  refine lv_iload hx hb dX3_init_20 (lv_at hl 4 rfl) ?_
  refine va_putF (D := D) (ci := 2) (v := .int (iI w)) (ty := tyX3 3) (C := RX3) (T := TX3) (N := 4) hx hb ht inTB_X3 tyX3 tyX3_ok nmX3 hown hK hP hD hS 0 rfl rfl 3 (by decide) (ht _ tb_187) (fun _ h9 => h9) rfl hin rfl (tyX3_ok 3 (by decide)) rfl rfl (Nat.le_of_ble_eq_true rfl) dX3_init_22 (fun H locs hP hD hS => ?_)
  have hP : va_P D classes ([(a, .inr (2, [.ref arr, .int (iI u), .int (iI b), .int (iI w)]))]) H := hP
  have hD : va_D A ([(a, .inr (2, [.ref arr, .int (iI u), .int (iI b), .int (iI w)]))]) := hD
  subst hQ
  exact W.vret hx hb hr (fun t9 ht9 hW9 => ⟨⟨(), rfl, trivial, ⟨by rw [ht9]; exact hP, by rw [hAe]; exact hD⟩⟩, by rw [hAe]; exact hS.F ht9⟩) (by rw [hAe]; exact hS.2.2) dX3_init_25

theorem vL_tell {v : Nat → Int} {what x : Int} (h : vL v) (hok : okTell what x) (i : Nat) (hi : (i : Int) = 21 + what) : vL (upI v i x) := by
  obtain ⟨h20, h21, h22, h23, hq⟩ := h
  unfold okTell at hok
  refine ⟨by rw [upI_n (by omega)]; exact h20, ?_, ?_, ?_, fun q hq1 => ?_⟩
  · by_cases z : 21 = i
    · subst z; rw [upI_s]; omega
    · rw [upI_n z]; exact h21
  · by_cases z : 22 = i
    · subst z; rw [upI_s]; omega
    · rw [upI_n z]; exact h22
  · by_cases z : 23 = i
    · subst z; rw [upI_s]; omega
    · rw [upI_n z]; exact h23
  · rw [upI_n (by omega)] at hq1
    rw [upI_n (by omega), upI_n (by omega), upI_n (by omega), upI_n (by omega), upI_n (by omega)]
    exact hq q hq1

abbrev rm_X3_withMeasure : Room := { frames := 2, cells := 1, slots := 4, locals := 36 }
set_option maxHeartbeats 8000000 in
set_option maxRecDepth 100000 in
/-- withMeasure -/
theorem c_X3_withMeasure (l : Launch) (D : va_G) (cs : Nat → ClassId) (sz : Nat) (M : Nat → Prop) (a : Nat) (v : Nat → Int) (what : Int) (x : Int) (hok : okTell what x) : Met l yX3_withMeasure (Cond.code yX3_withMeasure cX3_withMeasure 3 (some (.object "SoundWells$Plan")) :: TB) rm_X3_withMeasure (va_Pc [.ref a, .int (iI what), .int (iI x)] (MPre D cs sz ([] : va_W) (fun U H => (∀ q, M q → q < H.size) ∧ PlanAt D cs M H a v))) (va_Qr (fun _ : Unit => True) (fun _ r t => (PlanAt D cs M t.heap r (upI v (21 + what.toNat) x)) ∧ va_P D classes ([] : va_W) t.heap ∧ va_D (va_A ([] : va_W) sz) ([] : va_W)) (va_A ([] : va_W) sz)) 1 4 (va_A ([] : va_W) sz) := by
  refine enter (cc := cX3_withMeasure) (maxL := 3) (ret := (some (.object "SoundWells$Plan"))) (by decide) (Nat.le_of_ble_eq_true rfl) ?_
  intro pg ev s m below meth c Q ls hx hb hml hown hts hr hlocks hnm ⟨hsz, hP, hD0, hK, hX0⟩ hl hQ
  have ht : ∀ w ∈ TB, w.before _ s = true := fun w h => hts w (List.mem_cons_of_mem _ h)
  subst hsz
  have hD := hD0.self (sz := s.heap.size)
  obtain ⟨A, hAe⟩ : ∃ A, va_A ([] : va_W) s.heap.size = A := ⟨_, rfl⟩
  rw [hAe] at hD
  have hA : ∀ q : Nat, s.heap.size ≤ q → A q := fun q h => by rw [← hAe]; exact Or.inr h
  obtain ⟨H, hH⟩ : ∃ H, H = s.heap := ⟨_, rfl⟩
  obtain ⟨locs, hlocs⟩ : ∃ locs : List Loc, locs = [] := ⟨_, rfl⟩
  have hS : va_S A s.heap H locs := by rw [hH, hlocs]; exact va_S.rf
  rw [← hH] at hP
  suffices hgo : W pg l ev rm_X3_withMeasure s m [.ref a, .int (iI what), .int (iI x)].toArray below meth c H locs 0 0 Q (F0 m 0 ls []) by rw [hH, hlocs] at hgo; exact hgo
  have hl : lv_has ls 3 [(0, .ref a), (1, .int (iI what)), (2, .int (iI x))] := hl
  have hok0 := hok
  unfold okTell at hok0
  obtain ⟨arr, g, hG0⟩ := hX0.2.g
  refine lv_iload_n hx hb dX3_withMeasure_0 rfl (lv_at hl 1 rfl) ?_
  by_cases hc0 : what = 0
  · refine rv_top (y := 0) hc0 ?_
    refine lv_lookup (tgt := 28) hx hb dX3_withMeasure_1 (by decide) rfl (by decide) ?_
    refine va_new (ci := 2) (fs := [.null, .int (iI 0), .int (iI 0), .int (iI 0)]) (C := RX3) (T := TX3) (N := 4) hx hb ht inTB_X3 tyX3 tyX3_ok hown (ht _ tb_346) (ht _ tb_173) (ht _ tb_7) hK hP hD hS hA rfl (fun j hj => by rcases (show j = 0 ∨ j = 1 ∨ j = 2 ∨ j = 3 by omega) with rfl | rfl | rfl | rfl <;> rfl) (Nat.le_of_ble_eq_true rfl) (Nat.le_of_ble_eq_true rfl) dX3_withMeasure_28 (fun q28 H hP hD hS => ?_)
    have hP : va_P D classes ([(q28, .inr (2, [.null, .int (iI 0), .int (iI 0), .int (iI 0)]))]) H := hP
    have hD : va_D A ([(q28, .inr (2, [.null, .int (iI 0), .int (iI 0), .int (iI 0)]))]) := hD
    refine lv_dup hx hb dX3_withMeasure_31 rfl ?_
    obtain ⟨hvL, hPl, hna, hnr, hgy⟩ := hG0.inS Mw_nil hAe hS
    obtain ⟨hv20, hv21, hv22, hv23, hvp⟩ := id hvL
    refine lv_aload_n hx hb dX3_withMeasure_32 rfl (lv_at hl 0 rfl) ?_
    refine va_get (D := D) (ci := 2) (v := .ref arr) (C := RX3) (T := TX3) (N := 4) hx hb ht inTB_X3 hown hK hPl 0 rfl rfl 0 (by decide) (ht _ tb_178) (fun _ h9 => h9) rfl dX3_withMeasure_33 ?_
    refine lv_iload_n hx hb dX3_withMeasure_36 rfl (lv_at hl 2 rfl) ?_
    refine lv_aload_n hx hb dX3_withMeasure_37 rfl (lv_at hl 0 rfl) ?_
    refine va_get (D := D) (ci := 2) (v := .int (iI (v 22))) (C := RX3) (T := TX3) (N := 4) hx hb ht inTB_X3 hown hK hPl 0 rfl rfl 2 (by decide) (ht _ tb_184) (fun _ h9 => h9) rfl dX3_withMeasure_38 ?_
    refine lv_aload_n hx hb dX3_withMeasure_41 rfl (lv_at hl 0 rfl) ?_
    refine va_get (D := D) (ci := 2) (v := .int (iI (v 23))) (C := RX3) (T := TX3) (N := 4) hx hb ht inTB_X3 hown hK hPl 0 rfl rfl 3 (by decide) (ht _ tb_187) (fun _ h9 => h9) rfl dX3_withMeasure_42 ?_
    have hFc := va_free (wc := [(q28, .inr (2, [.null, .int (iI 0), .int (iI 0), .int (iI 0)]))]) hD hS hA [0] rfl
    have hPc := hP.sub (ws' := [(q28, .inr (2, [.null, .int (iI 0), .int (iI 0), .int (iI 0)]))]) [0] rfl
    have hDc := hD.sub (ws' := [(q28, .inr (2, [.null, .int (iI 0), .int (iI 0), .int (iI 0)]))]) [0] (by decide) rfl
    refine va_callv (va_runI (As := [.ref arr, .int (iI x), .int (iI (v 22)), .int (iI (v 23))]) (rest := [.ref q28]) ⟨hx, hb, hml, hown, hts⟩ (c_X3_init l D cs H.size q28 arr x (v 22) (v 23)) (cwI 4 hts (gTB tb_176) rfl rfl rfl (ht _ tb_7) (ht _ tb_347) (ht _ tb_175) rfl (by decide +kernel) ⟨Nat.le_of_ble_eq_true rfl, Nat.le_of_ble_eq_true rfl⟩) (preS_M (X := fun _ _ => True) Stb_T hK hPc hDc trivial) rfl rfl hl.1 rfl (lv_room (Nat.le_of_ble_eq_true rfl)) dX3_withMeasure_45 ⟨Nat.le_of_ble_eq_true rfl, Nat.le_of_ble_eq_true rfl⟩) hS (fun q _ h => hFc q h) hFc (fun u9 t9 H9 locs ht9 hvm9 hw9 hB9 hz9 hk9 hS => ?_)
    obtain ⟨hP1, hD1⟩ := hB9
    rw [ht9] at hP1
    obtain ⟨hPj, hDj⟩ := va_join (wr := []) hP hD [0] [] rfl rfl (by decide) (by decide) hk9 hFc hP1 hD1
    generalize H9 = H at *
    have hP : va_P D classes ([(q28, .inr (2, [.ref arr, .int (iI x), .int (iI (v 22)), .int (iI (v 23))]))]) H := hPj
    have hD : va_D A ([(q28, .inr (2, [.ref arr, .int (iI x), .int (iI (v 22)), .int (iI (v 23))]))]) := hDj
    obtain ⟨hvL, hPl, hna, hnr, hgy⟩ := hG0.inS Mw_nil hAe hS
    obtain ⟨hv20, hv21, hv22, hv23, hvp⟩ := id hvL
    subst hQ
    exact W.aret (v := .ref q28) hx hb hr (Or.inl ⟨_, rfl⟩) (Or.inr ⟨_, rfl⟩) (fun t9 ht9 hW9 => ⟨⟨(), _, rfl, trivial, ⟨by rw [ht9, show 21 + what.toNat = 21 by omega]; refine ⟨vL_tell hvL hok 21 (by omega), arr, g, ?_, newM hAe hX0.1 (hD.2 0 _ rfl), hnr, fun q hq => ?_⟩; (rw [upI_s, upI_n (by decide), upI_n (by decide), upI_n (by decide)]; exact va_P.of2 (hP 0 _ rfl) hPl.two.2); (rw [upI_n (by decide)] at hq; rw [upI_n (by omega), upI_n (by omega), upI_n (by omega), upI_n (by omega), upI_n (by omega)]; exact hgy q hq), by rw [ht9]; exact hP.sub [] rfl, by rw [hAe]; exact hD.sub [] (by decide) rfl⟩⟩, by rw [hAe]; exact hS.F ht9⟩) (by rw [hAe]; exact hS.2.2) dX3_withMeasure_48
  by_cases hc1 : what = 1
  · refine rv_top (y := 1) hc1 ?_
    refine lv_lookup (tgt := 49) hx hb dX3_withMeasure_1 (by decide) rfl (by decide) ?_
    refine va_new (ci := 2) (fs := [.null, .int (iI 0), .int (iI 0), .int (iI 0)]) (C := RX3) (T := TX3) (N := 4) hx hb ht inTB_X3 tyX3 tyX3_ok hown (ht _ tb_346) (ht _ tb_173) (ht _ tb_7) hK hP hD hS hA rfl (fun j hj => by rcases (show j = 0 ∨ j = 1 ∨ j = 2 ∨ j = 3 by omega) with rfl | rfl | rfl | rfl <;> rfl) (Nat.le_of_ble_eq_true rfl) (Nat.le_of_ble_eq_true rfl) dX3_withMeasure_49 (fun q49 H hP hD hS => ?_)
    have hP : va_P D classes ([(q49, .inr (2, [.null, .int (iI 0), .int (iI 0), .int (iI 0)]))]) H := hP
    have hD : va_D A ([(q49, .inr (2, [.null, .int (iI 0), .int (iI 0), .int (iI 0)]))]) := hD
    refine lv_dup hx hb dX3_withMeasure_52 rfl ?_
    obtain ⟨hvL, hPl, hna, hnr, hgy⟩ := hG0.inS Mw_nil hAe hS
    obtain ⟨hv20, hv21, hv22, hv23, hvp⟩ := id hvL
    refine lv_aload_n hx hb dX3_withMeasure_53 rfl (lv_at hl 0 rfl) ?_
    refine va_get (D := D) (ci := 2) (v := .ref arr) (C := RX3) (T := TX3) (N := 4) hx hb ht inTB_X3 hown hK hPl 0 rfl rfl 0 (by decide) (ht _ tb_178) (fun _ h9 => h9) rfl dX3_withMeasure_54 ?_
    refine lv_aload_n hx hb dX3_withMeasure_57 rfl (lv_at hl 0 rfl) ?_
    refine va_get (D := D) (ci := 2) (v := .int (iI (v 21))) (C := RX3) (T := TX3) (N := 4) hx hb ht inTB_X3 hown hK hPl 0 rfl rfl 1 (by decide) (ht _ tb_181) (fun _ h9 => h9) rfl dX3_withMeasure_58 ?_
    refine lv_iload_n hx hb dX3_withMeasure_61 rfl (lv_at hl 2 rfl) ?_
    refine lv_aload_n hx hb dX3_withMeasure_62 rfl (lv_at hl 0 rfl) ?_
    refine va_get (D := D) (ci := 2) (v := .int (iI (v 23))) (C := RX3) (T := TX3) (N := 4) hx hb ht inTB_X3 hown hK hPl 0 rfl rfl 3 (by decide) (ht _ tb_187) (fun _ h9 => h9) rfl dX3_withMeasure_63 ?_
    have hFc := va_free (wc := [(q49, .inr (2, [.null, .int (iI 0), .int (iI 0), .int (iI 0)]))]) hD hS hA [0] rfl
    have hPc := hP.sub (ws' := [(q49, .inr (2, [.null, .int (iI 0), .int (iI 0), .int (iI 0)]))]) [0] rfl
    have hDc := hD.sub (ws' := [(q49, .inr (2, [.null, .int (iI 0), .int (iI 0), .int (iI 0)]))]) [0] (by decide) rfl
    refine va_callv (va_runI (As := [.ref arr, .int (iI (v 21)), .int (iI x), .int (iI (v 23))]) (rest := [.ref q49]) ⟨hx, hb, hml, hown, hts⟩ (c_X3_init l D cs H.size q49 arr (v 21) x (v 23)) (cwI 4 hts (gTB tb_176) rfl rfl rfl (ht _ tb_7) (ht _ tb_347) (ht _ tb_175) rfl (by decide +kernel) ⟨Nat.le_of_ble_eq_true rfl, Nat.le_of_ble_eq_true rfl⟩) (preS_M (X := fun _ _ => True) Stb_T hK hPc hDc trivial) rfl rfl hl.1 rfl (lv_room (Nat.le_of_ble_eq_true rfl)) dX3_withMeasure_66 ⟨Nat.le_of_ble_eq_true rfl, Nat.le_of_ble_eq_true rfl⟩) hS (fun q _ h => hFc q h) hFc (fun u9 t9 H9 locs ht9 hvm9 hw9 hB9 hz9 hk9 hS => ?_)
    obtain ⟨hP1, hD1⟩ := hB9
    rw [ht9] at hP1
    obtain ⟨hPj, hDj⟩ := va_join (wr := []) hP hD [0] [] rfl rfl (by decide) (by decide) hk9 hFc hP1 hD1
    generalize H9 = H at *
    have hP : va_P D classes ([(q49, .inr (2, [.ref arr, .int (iI (v 21)), .int (iI x), .int (iI (v 23))]))]) H := hPj
    have hD : va_D A ([(q49, .inr (2, [.ref arr, .int (iI (v 21)), .int (iI x), .int (iI (v 23))]))]) := hDj
    obtain ⟨hvL, hPl, hna, hnr, hgy⟩ := hG0.inS Mw_nil hAe hS
    obtain ⟨hv20, hv21, hv22, hv23, hvp⟩ := id hvL
    subst hQ
    exact W.aret (v := .ref q49) hx hb hr (Or.inl ⟨_, rfl⟩) (Or.inr ⟨_, rfl⟩) (fun t9 ht9 hW9 => ⟨⟨(), _, rfl, trivial, ⟨by rw [ht9, show 21 + what.toNat = 22 by omega]; refine ⟨vL_tell hvL hok 22 (by omega), arr, g, ?_, newM hAe hX0.1 (hD.2 0 _ rfl), hnr, fun q hq => ?_⟩; (rw [upI_n (by decide), upI_s, upI_n (by decide), upI_n (by decide)]; exact va_P.of2 (hP 0 _ rfl) hPl.two.2); (rw [upI_n (by decide)] at hq; rw [upI_n (by omega), upI_n (by omega), upI_n (by omega), upI_n (by omega), upI_n (by omega)]; exact hgy q hq), by rw [ht9]; exact hP.sub [] rfl, by rw [hAe]; exact hD.sub [] (by decide) rfl⟩⟩, by rw [hAe]; exact hS.F ht9⟩) (by rw [hAe]; exact hS.2.2) dX3_withMeasure_69
  refine lv_lookup (tgt := 70) (off := 69) hx hb dX3_withMeasure_1 (by decide) (by rw [iI_toInt (by omega)]; show Op.lookupswitch.offset [(0, 27), (1, 48)] 69 _ = 69; rw [Op.lookupswitch.offset_cons, if_neg (by omega), Op.lookupswitch.offset_cons, if_neg (by omega)]; rfl) (by decide) ?_
  refine va_new (ci := 2) (fs := [.null, .int (iI 0), .int (iI 0), .int (iI 0)]) (C := RX3) (T := TX3) (N := 4) hx hb ht inTB_X3 tyX3 tyX3_ok hown (ht _ tb_346) (ht _ tb_173) (ht _ tb_7) hK hP hD hS hA rfl (fun j hj => by rcases (show j = 0 ∨ j = 1 ∨ j = 2 ∨ j = 3 by omega) with rfl | rfl | rfl | rfl <;> rfl) (Nat.le_of_ble_eq_true rfl) (Nat.le_of_ble_eq_true rfl) dX3_withMeasure_70 (fun q70 H hP hD hS => ?_)
  have hP : va_P D classes ([(q70, .inr (2, [.null, .int (iI 0), .int (iI 0), .int (iI 0)]))]) H := hP
  have hD : va_D A ([(q70, .inr (2, [.null, .int (iI 0), .int (iI 0), .int (iI 0)]))]) := hD
  refine lv_dup hx hb dX3_withMeasure_73 rfl ?_
  obtain ⟨hvL, hPl, hna, hnr, hgy⟩ := hG0.inS Mw_nil hAe hS
  obtain ⟨hv20, hv21, hv22, hv23, hvp⟩ := id hvL
  refine lv_aload_n hx hb dX3_withMeasure_74 rfl (lv_at hl 0 rfl) ?_
  refine va_get (D := D) (ci := 2) (v := .ref arr) (C := RX3) (T := TX3) (N := 4) hx hb ht inTB_X3 hown hK hPl 0 rfl rfl 0 (by decide) (ht _ tb_178) (fun _ h9 => h9) rfl dX3_withMeasure_75 ?_
  refine lv_aload_n hx hb dX3_withMeasure_78 rfl (lv_at hl 0 rfl) ?_
  refine va_get (D := D) (ci := 2) (v := .int (iI (v 21))) (C := RX3) (T := TX3) (N := 4) hx hb ht inTB_X3 hown hK hPl 0 rfl rfl 1 (by decide) (ht _ tb_181) (fun _ h9 => h9) rfl dX3_withMeasure_79 ?_
  refine lv_aload_n hx hb dX3_withMeasure_82 rfl (lv_at hl 0 rfl) ?_
  refine va_get (D := D) (ci := 2) (v := .int (iI (v 22))) (C := RX3) (T := TX3) (N := 4) hx hb ht inTB_X3 hown hK hPl 0 rfl rfl 2 (by decide) (ht _ tb_184) (fun _ h9 => h9) rfl dX3_withMeasure_83 ?_
  refine lv_iload_n hx hb dX3_withMeasure_86 rfl (lv_at hl 2 rfl) ?_
  have hFc := va_free (wc := [(q70, .inr (2, [.null, .int (iI 0), .int (iI 0), .int (iI 0)]))]) hD hS hA [0] rfl
  have hPc := hP.sub (ws' := [(q70, .inr (2, [.null, .int (iI 0), .int (iI 0), .int (iI 0)]))]) [0] rfl
  have hDc := hD.sub (ws' := [(q70, .inr (2, [.null, .int (iI 0), .int (iI 0), .int (iI 0)]))]) [0] (by decide) rfl
  refine va_callv (va_runI (As := [.ref arr, .int (iI (v 21)), .int (iI (v 22)), .int (iI x)]) (rest := [.ref q70]) ⟨hx, hb, hml, hown, hts⟩ (c_X3_init l D cs H.size q70 arr (v 21) (v 22) x) (cwI 4 hts (gTB tb_176) rfl rfl rfl (ht _ tb_7) (ht _ tb_347) (ht _ tb_175) rfl (by decide +kernel) ⟨Nat.le_of_ble_eq_true rfl, Nat.le_of_ble_eq_true rfl⟩) (preS_M (X := fun _ _ => True) Stb_T hK hPc hDc trivial) rfl rfl hl.1 rfl (lv_room (Nat.le_of_ble_eq_true rfl)) dX3_withMeasure_87 ⟨Nat.le_of_ble_eq_true rfl, Nat.le_of_ble_eq_true rfl⟩) hS (fun q _ h => hFc q h) hFc (fun u9 t9 H9 locs ht9 hvm9 hw9 hB9 hz9 hk9 hS => ?_)
  obtain ⟨hP1, hD1⟩ := hB9
  rw [ht9] at hP1
  obtain ⟨hPj, hDj⟩ := va_join (wr := []) hP hD [0] [] rfl rfl (by decide) (by decide) hk9 hFc hP1 hD1
  generalize H9 = H at *
  have hP : va_P D classes ([(q70, .inr (2, [.ref arr, .int (iI (v 21)), .int (iI (v 22)), .int (iI x)]))]) H := hPj
  have hD : va_D A ([(q70, .inr (2, [.ref arr, .int (iI (v 21)), .int (iI (v 22)), .int (iI x)]))]) := hDj
  obtain ⟨hvL, hPl, hna, hnr, hgy⟩ := hG0.inS Mw_nil hAe hS
  obtain ⟨hv20, hv21, hv22, hv23, hvp⟩ := id hvL
  subst hQ
  exact W.aret (v := .ref q70) hx hb hr (Or.inl ⟨_, rfl⟩) (Or.inr ⟨_, rfl⟩) (fun t9 ht9 hW9 => ⟨⟨(), _, rfl, trivial, ⟨by rw [ht9, show 21 + what.toNat = 23 by omega]; refine ⟨vL_tell hvL hok 23 (by omega), arr, g, ?_, newM hAe hX0.1 (hD.2 0 _ rfl), hnr, fun q hq => ?_⟩; (rw [upI_n (by decide), upI_n (by decide), upI_s, upI_n (by decide)]; exact va_P.of2 (hP 0 _ rfl) hPl.two.2); (rw [upI_n (by decide)] at hq; rw [upI_n (by omega), upI_n (by omega), upI_n (by omega), upI_n (by omega), upI_n (by omega)]; exact hgy q hq), by rw [ht9]; exact hP.sub [] rfl, by rw [hAe]; exact hD.sub [] (by decide) rfl⟩⟩, by rw [hAe]; exact hS.F ht9⟩) (by rw [hAe]; exact hS.2.2) dX3_withMeasure_90

abbrev rm_X3_withPanel : Room := { frames := 2, cells := 2, slots := 8, locals := 36 }
set_option maxHeartbeats 8000000 in
set_option maxRecDepth 100000 in
/-- withPanel -/
theorem c_X3_withPanel (l : Launch) (D : va_G) (cs : Nat → ClassId) (sz : Nat) (M : Nat → Prop) (a : Nat) (v : Nat → Int) (p : Int) (y : Nat) (v2 : Nat → Int) (hp : 0 ≤ p ∧ p < v 20) (hv2 : vL v2) (hhi : ∀ j : Nat, 20 ≤ j → j < 24 → v2 j = v j) (hlo : ∀ q j : Nat, (q : Int) < v 20 → q ≠ p.toNat → j < 5 → v2 (5 * q + j) = v (5 * q + j)) : Met l yX3_withPanel (Cond.code yX3_withPanel cX3_withPanel 4 (some (.object "SoundWells$Plan")) :: TB) rm_X3_withPanel (va_Pc [.ref a, .int (iI p), .ref y] (MPre D cs sz ([] : va_W) (fun U H => ((∀ q, M q → q < H.size) ∧ PlanAt D cs M H a v ∧ PanelAt D cs M H y (pv v2 p 0) (pv v2 p 1) (pv v2 p 2) (pv v2 p 3) (pv v2 p 4)) ∧ ST U))) (va_Qr (fun _ : Unit => True) (fun _ r t => (PlanAt D cs M t.heap r v2) ∧ va_P D classes ([] : va_W) t.heap ∧ va_D (va_A ([] : va_W) sz) ([] : va_W)) (va_A ([] : va_W) sz)) 2 8 (va_A ([] : va_W) sz) := by
  refine enter (cc := cX3_withPanel) (maxL := 4) (ret := (some (.object "SoundWells$Plan"))) (by decide) (Nat.le_of_ble_eq_true rfl) ?_
  intro pg ev s m below meth c Q ls hx hb hml hown hts hr hlocks hnm ⟨hsz, hP, hD0, hK, hX0⟩ hl hQ
  have ht : ∀ w ∈ TB, w.before _ s = true := fun w h => hts w (List.mem_cons_of_mem _ h)
  subst hsz
  have hD := hD0.self (sz := s.heap.size)
  obtain ⟨A, hAe⟩ : ∃ A, va_A ([] : va_W) s.heap.size = A := ⟨_, rfl⟩
  rw [hAe] at hD
  have hA : ∀ q : Nat, s.heap.size ≤ q → A q := fun q h => by rw [← hAe]; exact Or.inr h
  obtain ⟨H, hH⟩ : ∃ H, H = s.heap := ⟨_, rfl⟩
  obtain ⟨locs, hlocs⟩ : ∃ locs : List Loc, locs = [] := ⟨_, rfl⟩
  have hS : va_S A s.heap H locs := by rw [hH, hlocs]; exact va_S.rf
  rw [← hH] at hP
  suffices hgo : W pg l ev rm_X3_withPanel s m [.ref a, .int (iI p), .ref y].toArray below meth c H locs 0 0 Q (F0 m 0 ls []) by rw [hH, hlocs] at hgo; exact hgo
  have hl : lv_has ls 4 [(0, .ref a), (1, .int (iI p)), (2, .ref y)] := hl
  obtain ⟨arr, g, hG0⟩ := hX0.1.2.1.g
  obtain ⟨hvL, hPl, hna, hnr, hgy⟩ := hG0.inS Mw_nil hAe hS
  obtain ⟨hv20, hv21, hv22, hv23, hvp⟩ := id hvL
  refine lv_aload_n hx hb dX3_withPanel_0 rfl (lv_at hl 0 rfl) ?_
  refine va_get (D := D) (ci := 2) (v := .ref arr) (C := RX3) (T := TX3) (N := 4) hx hb ht inTB_X3 hown hK hPl 0 rfl rfl 0 (by decide) (ht _ tb_178) (fun _ h9 => h9) rfl dX3_withPanel_1 ?_
  have hnm2 : s.vm.findClass "[LSoundWells$Panel;" = some (cs 2) := by obtain ⟨kA, comp, -, -, -, h1⟩ : va_RA s (cs 2) (.object "SoundWells$Panel") := (hK.2 2 (cs 2, .object "SoundWells$Panel") rfl).2; exact h1
  subst hlocs
  refine rv_clone hx hb (hml.trans hl.1.symm) hown (ht _ tb_339) (ht _ tb_340) (ht _ tb_341) (ht _ tb_342) (ht _ tb_343) hX0.2.2.2 hK hP hPl hD hS hA hnm2 (Nat.le_of_ble_eq_true rfl) (Nat.le_of_ble_eq_true rfl) (Nat.le_of_ble_eq_true rfl) (by simp only [rm_X3_withPanel]; omega) dX3_withPanel_4 (fun q4 H hP hD hS => ?_)
  refine W.widen (k := 1) (n := 4) (by omega) (by omega) ?_
  have hP : va_P D classes ([(q4, raC (cs 2) ((v 20).toNat) g)]) H := hP
  have hD : va_D A ([(q4, raC (cs 2) ((v 20).toNat) g)]) := hD
  obtain ⟨hvL, hPl, hna, hnr, hgy⟩ := hG0.inS Mw_nil hAe hS
  obtain ⟨hv20, hv21, hv22, hv23, hvp⟩ := id hvL
  refine va_castA hx hb hown (ht _ tb_345) hP 0 rfl hnm2 dX3_withPanel_7 ?_
  refine lv_astore_n (lv' := [(3, .ref q4), (0, .ref a), (1, .int (iI p)), (2, .ref y)]) hx hb dX3_withPanel_10 rfl hl (by decide) rfl (fun ls hl => ?_)
  refine lv_iload_n hx hb dX3_withPanel_11 rfl (lv_at hl 2 rfl) ?_
  refine rv_if_lt (tgt := 25) hx hb dX3_withPanel_12 (by decide) (by omega) (fun h12 => False.elim (by omega)) (fun h12 => ?_)
  refine lv_iload_n hx hb dX3_withPanel_15 rfl (lv_at hl 2 rfl) ?_
  refine lv_aload_n hx hb dX3_withPanel_16 rfl (lv_at hl 0 rfl) ?_
  refine rv_alen hx hb hK hP 0 2 rfl rfl dX3_withPanel_17 ?_
  refine rv_icmp_ge (tgt := 25) hx hb dX3_withPanel_18 (by decide) (by omega) (fun h18 => False.elim (by omega)) (fun h18 => ?_)
  refine lv_aload_n hx hb dX3_withPanel_21 rfl (lv_at hl 0 rfl) ?_
  refine lv_iload_n hx hb dX3_withPanel_22 rfl (lv_at hl 2 rfl) ?_
  refine lv_aload_n hx hb dX3_withPanel_23 rfl (lv_at hl 3 rfl) ?_
  refine rv_aast hx hb hK hP hD hS 0 2 rfl rfl (by obtain ⟨hz, rz, rowz, hz1, -⟩ := PanelAt.inS hX0.1.2.2 Mw_nil hAe hS; exact any_of (r := (RX1, TX1, 7)) hK rfl hz1.two.1) p.toNat (by omega) (by omega) dX3_withPanel_24 (fun H locs hP hD hS => ?_)
  have hP : va_P D classes ([(q4, raC (cs 2) ((v 20).toNat) (va_up g p.toNat (some y)))]) H := hP
  have hD : va_D A ([(q4, raC (cs 2) ((v 20).toNat) (va_up g p.toNat (some y)))]) := hD
  refine va_new (ci := 2) (fs := [.null, .int (iI 0), .int (iI 0), .int (iI 0)]) (C := RX3) (T := TX3) (N := 4) hx hb ht inTB_X3 tyX3 tyX3_ok hown (ht _ tb_346) (ht _ tb_173) (ht _ tb_7) hK hP hD hS hA rfl (fun j hj => by rcases (show j = 0 ∨ j = 1 ∨ j = 2 ∨ j = 3 by omega) with rfl | rfl | rfl | rfl <;> rfl) (Nat.le_of_ble_eq_true rfl) (Nat.le_of_ble_eq_true rfl) dX3_withPanel_25 (fun q25 H hP hD hS => ?_)
  have hP : va_P D classes ([(q4, raC (cs 2) ((v 20).toNat) (va_up g p.toNat (some y))), (q25, .inr (2, [.null, .int (iI 0), .int (iI 0), .int (iI 0)]))]) H := hP
  have hD : va_D A ([(q4, raC (cs 2) ((v 20).toNat) (va_up g p.toNat (some y))), (q25, .inr (2, [.null, .int (iI 0), .int (iI 0), .int (iI 0)]))]) := hD
  refine lv_dup hx hb dX3_withPanel_28 rfl ?_
  refine lv_aload_n hx hb dX3_withPanel_29 rfl (lv_at hl 0 rfl) ?_
  obtain ⟨hvL, hPl, hna, hnr, hgy⟩ := hG0.inS Mw_nil hAe hS
  obtain ⟨hv20, hv21, hv22, hv23, hvp⟩ := id hvL
  refine lv_aload_n hx hb dX3_withPanel_30 rfl (lv_at hl 1 rfl) ?_
  refine va_get (D := D) (ci := 2) (v := .int (iI (v 21))) (C := RX3) (T := TX3) (N := 4) hx hb ht inTB_X3 hown hK hPl 0 rfl rfl 1 (by decide) (ht _ tb_181) (fun _ h9 => h9) rfl dX3_withPanel_31 ?_
  refine lv_aload_n hx hb dX3_withPanel_34 rfl (lv_at hl 1 rfl) ?_
  refine va_get (D := D) (ci := 2) (v := .int (iI (v 22))) (C := RX3) (T := TX3) (N := 4) hx hb ht inTB_X3 hown hK hPl 0 rfl rfl 2 (by decide) (ht _ tb_184) (fun _ h9 => h9) rfl dX3_withPanel_35 ?_
  refine lv_aload_n hx hb dX3_withPanel_38 rfl (lv_at hl 1 rfl) ?_
  refine va_get (D := D) (ci := 2) (v := .int (iI (v 23))) (C := RX3) (T := TX3) (N := 4) hx hb ht inTB_X3 hown hK hPl 0 rfl rfl 3 (by decide) (ht _ tb_187) (fun _ h9 => h9) rfl dX3_withPanel_39 ?_
  have hFc := va_free (wc := [(q25, .inr (2, [.null, .int (iI 0), .int (iI 0), .int (iI 0)]))]) hD hS hA [1] rfl
  have hPc := hP.sub (ws' := [(q25, .inr (2, [.null, .int (iI 0), .int (iI 0), .int (iI 0)]))]) [1] rfl
  have hDc := hD.sub (ws' := [(q25, .inr (2, [.null, .int (iI 0), .int (iI 0), .int (iI 0)]))]) [1] (by decide) rfl
  refine va_callv (va_runI (As := [.ref q4, .int (iI (v 21)), .int (iI (v 22)), .int (iI (v 23))]) (rest := [.ref q25]) ⟨hx, hb, hml, hown, hts⟩ (c_X3_init l D cs H.size q25 q4 (v 21) (v 22) (v 23)) (cwI 4 hts (gTB tb_176) rfl rfl rfl (ht _ tb_7) (ht _ tb_347) (ht _ tb_175) rfl (by decide +kernel) ⟨Nat.le_of_ble_eq_true rfl, Nat.le_of_ble_eq_true rfl⟩) (preS_M (X := fun _ _ => True) Stb_T hK hPc hDc trivial) rfl rfl hl.1 rfl (lv_room (Nat.le_of_ble_eq_true rfl)) dX3_withPanel_42 ⟨Nat.le_of_ble_eq_true rfl, Nat.le_of_ble_eq_true rfl⟩) hS (fun q _ h => hFc q h) hFc (fun u9 t9 H9 locs ht9 hvm9 hw9 hB9 hz9 hk9 hS => ?_)
  obtain ⟨hP1, hD1⟩ := hB9
  rw [ht9] at hP1
  obtain ⟨hPj, hDj⟩ := va_join (wr := [_]) hP hD [1] [0] rfl rfl (by decide) (by decide) hk9 hFc hP1 hD1
  generalize H9 = H at *
  have hP : va_P D classes ([(q4, raC (cs 2) ((v 20).toNat) (va_up g p.toNat (some y))), (q25, .inr (2, [.ref q4, .int (iI (v 21)), .int (iI (v 22)), .int (iI (v 23))]))]) H := hPj
  have hD : va_D A ([(q4, raC (cs 2) ((v 20).toNat) (va_up g p.toNat (some y))), (q25, .inr (2, [.ref q4, .int (iI (v 21)), .int (iI (v 22)), .int (iI (v 23))]))]) := hDj
  obtain ⟨hvL, hPl, hna, hnr, hgy⟩ := hG0.inS Mw_nil hAe hS
  obtain ⟨hv20, hv21, hv22, hv23, hvp⟩ := id hvL
  subst hQ
  exact W.aret (v := .ref q25) hx hb hr (Or.inl ⟨_, rfl⟩) (Or.inr ⟨_, rfl⟩) (fun t9 ht9 hW9 => ⟨⟨(), _, rfl, trivial, ⟨by rw [ht9]; have hpy := PanelAt.inS hX0.1.2.2 Mw_nil hAe hS; refine ⟨hv2, q4, va_up g p.toNat (some y), ?_, newM hAe hX0.1.1 (hD.2 1 _ rfl), newM hAe hX0.1.1 (hD.2 0 _ rfl), fun q hq => ?_⟩; (rw [hhi 20 (by decide) (by decide), hhi 21 (by decide) (by decide), hhi 22 (by decide) (by decide), hhi 23 (by decide) (by decide)]; exact va_P.of2 (hP 1 _ rfl) (hP 0 _ rfl)); (rw [hhi 20 (by decide) (by decide)] at hq; by_cases z : q = p.toNat; (subst z; exact ⟨y, va_up_s, hpy⟩); (rw [va_up_n z]; have hl0 := hlo q 0 hq z (by decide); rw [Nat.add_zero] at hl0; rw [hl0, hlo q 1 hq z (by decide), hlo q 2 hq z (by decide), hlo q 3 hq z (by decide), hlo q 4 hq z (by decide)]; exact hgy q hq)), by rw [ht9]; exact hP.sub [] rfl, by rw [hAe]; exact hD.sub [] (by decide) rfl⟩⟩, by rw [hAe]; exact hS.F ht9⟩) (by rw [hAe]; exact hS.2.2) dX3_withPanel_45

abbrev rm_X3_withoutPanel : Room := { frames := 2, cells := 2, slots := 8, locals := 36 }
set_option maxHeartbeats 8000000 in
set_option maxRecDepth 100000 in
/-- withoutPanel -/
theorem c_X3_withoutPanel (l : Launch) (D : va_G) (cs : Nat → ClassId) (sz : Nat) (M : Nat → Prop) (a : Nat) (v : Nat → Int) (p : Int) (hp : 0 ≤ p ∧ p < v 20) : Met l yX3_withoutPanel (Cond.code yX3_withoutPanel cX3_withoutPanel 4 (some (.object "SoundWells$Plan")) :: TB) rm_X3_withoutPanel (va_Pc [.ref a, .int (iI p)] (MPre D cs sz ([] : va_W) (fun U H => ((∀ q, M q → q < H.size) ∧ PlanAt D cs M H a v) ∧ ST U))) (va_Qr (fun _ : Unit => True) (fun _ r t => (PlanAt D cs M t.heap r (tkV v p.toNat)) ∧ va_P D classes ([] : va_W) t.heap ∧ va_D (va_A ([] : va_W) sz) ([] : va_W)) (va_A ([] : va_W) sz)) 2 8 (va_A ([] : va_W) sz) := by
  refine enter (cc := cX3_withoutPanel) (maxL := 4) (ret := (some (.object "SoundWells$Plan"))) (by decide) (Nat.le_of_ble_eq_true rfl) ?_
  intro pg ev s m below meth c Q ls hx hb hml hown hts hr hlocks hnm ⟨hsz, hP, hD0, hK, hX0⟩ hl hQ
  have ht : ∀ w ∈ TB, w.before _ s = true := fun w h => hts w (List.mem_cons_of_mem _ h)
  subst hsz
  have hD := hD0.self (sz := s.heap.size)
  obtain ⟨A, hAe⟩ : ∃ A, va_A ([] : va_W) s.heap.size = A := ⟨_, rfl⟩
  rw [hAe] at hD
  have hA : ∀ q : Nat, s.heap.size ≤ q → A q := fun q h => by rw [← hAe]; exact Or.inr h
  obtain ⟨H, hH⟩ : ∃ H, H = s.heap := ⟨_, rfl⟩
  obtain ⟨locs, hlocs⟩ : ∃ locs : List Loc, locs = [] := ⟨_, rfl⟩
  have hS : va_S A s.heap H locs := by rw [hH, hlocs]; exact va_S.rf
  rw [← hH] at hP
  suffices hgo : W pg l ev rm_X3_withoutPanel s m [.ref a, .int (iI p)].toArray below meth c H locs 0 0 Q (F0 m 0 ls []) by rw [hH, hlocs] at hgo; exact hgo
  have hl : lv_has ls 4 [(0, .ref a), (1, .int (iI p))] := hl
  obtain ⟨arr, g, hG0⟩ := hX0.1.2.g
  have hAO2 := hX0.2.1
  obtain ⟨hvL, hPl, hna, hnr, hgy⟩ := hG0.inS Mw_nil hAe hS
  obtain ⟨hv20, hv21, hv22, hv23, hvp⟩ := id hvL
  refine lv_iload_n hx hb dX3_withoutPanel_0 rfl (lv_at hl 1 rfl) ?_
  refine rv_if_lt (tgt := 13) hx hb dX3_withoutPanel_1 (by decide) (by omega) (fun h1 => False.elim (by omega)) (fun h1 => ?_)
  refine lv_iload_n hx hb dX3_withoutPanel_4 rfl (lv_at hl 1 rfl) ?_
  refine lv_aload_n hx hb dX3_withoutPanel_5 rfl (lv_at hl 0 rfl) ?_
  refine va_get (D := D) (ci := 2) (v := .ref arr) (C := RX3) (T := TX3) (N := 4) hx hb ht inTB_X3 hown hK hPl 0 rfl rfl 0 (by decide) (ht _ tb_178) (fun _ h9 => h9) rfl dX3_withoutPanel_6 ?_
  refine rv_alen hx hb hK hPl 1 2 rfl rfl dX3_withoutPanel_9 ?_
  refine rv_icmp_lt (tgt := 15) hx hb dX3_withoutPanel_10 (by decide) (by omega) (fun h10 => ?_) (fun h10 => False.elim (by omega))
  refine lv_aload_n hx hb dX3_withoutPanel_15 rfl (lv_at hl 0 rfl) ?_
  refine va_get (D := D) (ci := 2) (v := .ref arr) (C := RX3) (T := TX3) (N := 4) hx hb ht inTB_X3 hown hK hPl 0 rfl rfl 0 (by decide) (ht _ tb_178) (fun _ h9 => h9) rfl dX3_withoutPanel_16 ?_
  refine rv_alen hx hb hK hPl 1 2 rfl rfl dX3_withoutPanel_19 ?_
  refine rv_iconst hx hb dX3_withoutPanel_20 ?_
  refine rv_isub hx hb dX3_withoutPanel_21 ?_
  refine rv_newq (C := "SoundWells$Panel") (t0 := 2) (cT := cs 2) hx hb hown (ht _ tb_377) hAO2 hK rfl hP hD hS hA ((v 20).toNat - 1) (by omega) (by omega) (Nat.le_of_ble_eq_true rfl) (by simp only [rm_X3_withoutPanel]; omega) dX3_withoutPanel_22 (fun q22 H hP hD hS => ?_)
  have hP : va_P D classes ([(q22, raC (cs 2) ((v 20).toNat - 1) (fun _ => none))]) H := hP
  have hD : va_D A ([(q22, raC (cs 2) ((v 20).toNat - 1) (fun _ => none))]) := hD
  refine W.widen (k := 1) (n := 4) (by omega) (by omega) ?_
  refine lv_astore_n (lv' := [(2, .ref q22), (0, .ref a), (1, .int (iI p))]) hx hb dX3_withoutPanel_25 rfl hl (by decide) rfl (fun ls hl => ?_)
  refine rv_iconst hx hb dX3_withoutPanel_26 ?_
  refine lv_istore_n (lv' := [(3, .int (iI 0)), (2, .ref q22), (0, .ref a), (1, .int (iI p))]) hx hb dX3_withoutPanel_27 rfl hl (by decide) rfl (fun ls hl => ?_)
  have loop28 : ∀ (fuel28 : Nat) (i : Nat) (G : Nat → Option Nat), ((i : Int) + 1 ≤ v 20) → (∀ j : Nat, j < i → G j = g (if (j : Int) < p then j else j + 1)) → (v 20 - (i : Int)).toNat < fuel28 → ∀ (x3 : Int), x3 = (i : Int) → ∀ (H : Heap) (locs : List Loc), va_P D classes ([(q22, raC (cs 2) ((v 20).toNat - 1) G)]) H → va_D A ([(q22, raC (cs 2) ((v 20).toNat - 1) G)]) → va_S A s.heap H locs → ∀ ls : Array Slot, lv_has ls 4 [(0, .ref a), (1, .int (iI p)), (2, .ref q22), (3, .int (iI x3))] → W pg l ev rm_X3_withoutPanel s m [.ref a, .int (iI p)].toArray below meth c H locs 1 4 Q (F0 m 28 ls []) := by
    intro fuel28
    induction fuel28 with
    | zero => intro i G hi hG hfuel28; exact absurd hfuel28 (Nat.not_lt_zero _)
    | succ fuel28 ih28 =>
      intro i G hi hG hfuel28 x3 ex3 H locs hP hD hS ls hl
      subst ex3
      refine lv_iload_n hx hb dX3_withoutPanel_28 rfl (lv_at hl 3 rfl) ?_
      refine lv_aload_n hx hb dX3_withoutPanel_29 rfl (lv_at hl 2 rfl) ?_
      refine rv_alen hx hb hK hP 0 2 rfl rfl dX3_withoutPanel_30 ?_
      refine rv_icmp_ge (tgt := 60) hx hb dX3_withoutPanel_31 (by decide) (by omega) (fun h31 => ?_) (fun h31 => ?_)
      · refine va_new (ci := 2) (fs := [.null, .int (iI 0), .int (iI 0), .int (iI 0)]) (C := RX3) (T := TX3) (N := 4) hx hb ht inTB_X3 tyX3 tyX3_ok hown (ht _ tb_346) (ht _ tb_173) (ht _ tb_7) hK hP hD hS hA rfl (fun j hj => by rcases (show j = 0 ∨ j = 1 ∨ j = 2 ∨ j = 3 by omega) with rfl | rfl | rfl | rfl <;> rfl) (Nat.le_of_ble_eq_true rfl) (Nat.le_of_ble_eq_true rfl) dX3_withoutPanel_60 (fun q60 H hP hD hS => ?_)
        have hP : va_P D classes ([(q22, raC (cs 2) ((v 20).toNat - 1) G), (q60, .inr (2, [.null, .int (iI 0), .int (iI 0), .int (iI 0)]))]) H := hP
        have hD : va_D A ([(q22, raC (cs 2) ((v 20).toNat - 1) G), (q60, .inr (2, [.null, .int (iI 0), .int (iI 0), .int (iI 0)]))]) := hD
        refine lv_dup hx hb dX3_withoutPanel_63 rfl ?_
        refine lv_aload_n hx hb dX3_withoutPanel_64 rfl (lv_at hl 2 rfl) ?_
        obtain ⟨hvL, hPl, hna, hnr, hgy⟩ := hG0.inS Mw_nil hAe hS
        obtain ⟨hv20, hv21, hv22, hv23, hvp⟩ := id hvL
        refine lv_aload_n hx hb dX3_withoutPanel_65 rfl (lv_at hl 0 rfl) ?_
        refine va_get (D := D) (ci := 2) (v := .int (iI (v 21))) (C := RX3) (T := TX3) (N := 4) hx hb ht inTB_X3 hown hK hPl 0 rfl rfl 1 (by decide) (ht _ tb_181) (fun _ h9 => h9) rfl dX3_withoutPanel_66 ?_
        refine lv_aload_n hx hb dX3_withoutPanel_69 rfl (lv_at hl 0 rfl) ?_
        refine va_get (D := D) (ci := 2) (v := .int (iI (v 22))) (C := RX3) (T := TX3) (N := 4) hx hb ht inTB_X3 hown hK hPl 0 rfl rfl 2 (by decide) (ht _ tb_184) (fun _ h9 => h9) rfl dX3_withoutPanel_70 ?_
        refine lv_aload_n hx hb dX3_withoutPanel_73 rfl (lv_at hl 0 rfl) ?_
        refine va_get (D := D) (ci := 2) (v := .int (iI (v 23))) (C := RX3) (T := TX3) (N := 4) hx hb ht inTB_X3 hown hK hPl 0 rfl rfl 3 (by decide) (ht _ tb_187) (fun _ h9 => h9) rfl dX3_withoutPanel_74 ?_
        have hFc := va_free (wc := [(q60, .inr (2, [.null, .int (iI 0), .int (iI 0), .int (iI 0)]))]) hD hS hA [1] rfl
        have hPc := hP.sub (ws' := [(q60, .inr (2, [.null, .int (iI 0), .int (iI 0), .int (iI 0)]))]) [1] rfl
        have hDc := hD.sub (ws' := [(q60, .inr (2, [.null, .int (iI 0), .int (iI 0), .int (iI 0)]))]) [1] (by decide) rfl
        refine va_callv (va_runI (As := [.ref q22, .int (iI (v 21)), .int (iI (v 22)), .int (iI (v 23))]) (rest := [.ref q60]) ⟨hx, hb, hml, hown, hts⟩ (c_X3_init l D cs H.size q60 q22 (v 21) (v 22) (v 23)) (cwI 4 hts (gTB tb_176) rfl rfl rfl (ht _ tb_7) (ht _ tb_347) (ht _ tb_175) rfl (by decide +kernel) ⟨Nat.le_of_ble_eq_true rfl, Nat.le_of_ble_eq_true rfl⟩) (preS_M (X := fun _ _ => True) Stb_T hK hPc hDc trivial) rfl rfl hl.1 rfl (lv_room (Nat.le_of_ble_eq_true rfl)) dX3_withoutPanel_77 ⟨Nat.le_of_ble_eq_true rfl, Nat.le_of_ble_eq_true rfl⟩) hS (fun q _ h => hFc q h) hFc (fun u9 t9 H9 locs ht9 hvm9 hw9 hB9 hz9 hk9 hS => ?_)
        obtain ⟨hP1, hD1⟩ := hB9
        rw [ht9] at hP1
        obtain ⟨hPj, hDj⟩ := va_join (wr := [_]) hP hD [1] [0] rfl rfl (by decide) (by decide) hk9 hFc hP1 hD1
        generalize H9 = H at *
        have hP : va_P D classes ([(q22, raC (cs 2) ((v 20).toNat - 1) G), (q60, .inr (2, [.ref q22, .int (iI (v 21)), .int (iI (v 22)), .int (iI (v 23))]))]) H := hPj
        have hD : va_D A ([(q22, raC (cs 2) ((v 20).toNat - 1) G), (q60, .inr (2, [.ref q22, .int (iI (v 21)), .int (iI (v 22)), .int (iI (v 23))]))]) := hDj
        obtain ⟨hvL, hPl, hna, hnr, hgy⟩ := hG0.inS Mw_nil hAe hS
        obtain ⟨hv20, hv21, hv22, hv23, hvp⟩ := id hvL
        subst hQ
        exact W.aret (v := .ref q60) hx hb hr (Or.inl ⟨_, rfl⟩) (Or.inr ⟨_, rfl⟩) (fun t9 ht9 hW9 => ⟨⟨(), _, rfl, trivial, ⟨by rw [ht9]; have e20 : tkV v p.toNat 20 = v 20 - 1 := (by unfold tkV; rw [if_pos rfl]); refine ⟨vL_take hvL hp, q22, G, ?_, newM hAe hX0.1.1 (hD.2 1 _ rfl), newM hAe hX0.1.1 (hD.2 0 _ rfl), fun q hq => ?_⟩; (rw [e20, tkV_hi (by decide), tkV_hi (by decide), tkV_hi (by decide), show (v 20 - 1).toNat = (v 20).toNat - 1 by omega]; exact va_P.of2 (hP 1 _ rfl) (hP 0 _ rfl)); (rw [e20] at hq; rw [hG q (by omega)]; by_cases z : (q : Int) < p; (have e0 := tkV_lo (v := v) (j := 0) z (by decide); rw [Nat.add_zero] at e0; rw [if_pos z, e0, tkV_lo (j := 1) z (by decide), tkV_lo (j := 2) z (by decide), tkV_lo (j := 3) z (by decide), tkV_lo (j := 4) z (by decide)]; exact hgy q (by omega)); (have e0 := tkV_mv (v := v) (j := 0) z (by omega) (by decide); rw [Nat.add_zero, Nat.add_zero] at e0; rw [if_neg z]; have hn := hgy (q + 1) (by omega); rw [e0, tkV_mv (j := 1) z (by omega) (by decide), tkV_mv (j := 2) z (by omega) (by decide), tkV_mv (j := 3) z (by omega) (by decide), tkV_mv (j := 4) z (by omega) (by decide)]; exact hn)), by rw [ht9]; exact hP.sub [] rfl, by rw [hAe]; exact hD.sub [] (by decide) rfl⟩⟩, by rw [hAe]; exact hS.F ht9⟩) (by rw [hAe]; exact hS.2.2) dX3_withoutPanel_80
      · refine lv_aload_n hx hb dX3_withoutPanel_34 rfl (lv_at hl 2 rfl) ?_
        refine lv_iload_n hx hb dX3_withoutPanel_35 rfl (lv_at hl 3 rfl) ?_
        obtain ⟨hvL, hPl, hna, hnr, hgy⟩ := hG0.inS Mw_nil hAe hS
        obtain ⟨hv20, hv21, hv22, hv23, hvp⟩ := id hvL
        refine lv_aload_n hx hb dX3_withoutPanel_36 rfl (lv_at hl 0 rfl) ?_
        refine va_get (D := D) (ci := 2) (v := .ref arr) (C := RX3) (T := TX3) (N := 4) hx hb ht inTB_X3 hown hK hPl 0 rfl rfl 0 (by decide) (ht _ tb_178) (fun _ h9 => h9) rfl dX3_withoutPanel_37 ?_
        refine lv_iload_n hx hb dX3_withoutPanel_40 rfl (lv_at hl 3 rfl) ?_
        refine lv_iload_n hx hb dX3_withoutPanel_41 rfl (lv_at hl 1 rfl) ?_
        refine rv_icmp_ge (tgt := 49) hx hb dX3_withoutPanel_42 (by decide) (by omega) (fun h42 => ?_) (fun h42 => ?_)
        · refine lv_iload_n hx hb dX3_withoutPanel_49 rfl (lv_at hl 3 rfl) ?_
          refine rv_iconst hx hb dX3_withoutPanel_50 ?_
          refine rv_iadd hx hb dX3_withoutPanel_51 ?_
          obtain ⟨y, hy, hpy⟩ := hgy (i + 1) (by omega)
          refine rv_aald (y := y) hx hb hK hPl 1 2 rfl rfl (i + 1) (by omega) (by omega) hy dX3_withoutPanel_52 ?_
          refine rv_aast hx hb hK hP hD hS 0 2 rfl rfl (by obtain ⟨hz, rz, rowz, hz1, -⟩ := hpy; exact any_of (r := (RX1, TX1, 7)) hK rfl hz1.two.1) i rfl (by omega) dX3_withoutPanel_53 (fun H locs hP hD hS => ?_)
          have hP : va_P D classes ([(q22, raC (cs 2) ((v 20).toNat - 1) (va_up G i (some y)))]) H := hP
          have hD : va_D A ([(q22, raC (cs 2) ((v 20).toNat - 1) (va_up G i (some y)))]) := hD
          refine rv_iinc (k := 3) (lv' := [(3, .int (iI ((i : Int) + 1))), (0, .ref a), (1, .int (iI p)), (2, .ref q22)]) hx hb dX3_withoutPanel_54 hl rfl (by decide) rfl (fun ls hl => ?_)
          refine lv_goto (tgt := 28) hx hb dX3_withoutPanel_57 (by decide) ?_
          exact ih28 (i + 1) (va_up G i (some y)) (by omega) (fun j h => by by_cases z : j = i; (subst z; rw [va_up_s]; first | rw [if_pos (by omega), hy] | rw [if_neg (by omega), hy]); (rw [va_up_n z]; exact hG j (by omega))) (by omega) _ (by omega) H locs hP hD hS ls (lv_sub hl [1, 2, 3, 0] rfl)
        · refine lv_iload_n hx hb dX3_withoutPanel_45 rfl (lv_at hl 3 rfl) ?_
          refine lv_goto (tgt := 52) hx hb dX3_withoutPanel_46 (by decide) ?_
          obtain ⟨y, hy, hpy⟩ := hgy i (by omega)
          refine rv_aald (y := y) hx hb hK hPl 1 2 rfl rfl i rfl (by omega) hy dX3_withoutPanel_52 ?_
          refine rv_aast hx hb hK hP hD hS 0 2 rfl rfl (by obtain ⟨hz, rz, rowz, hz1, -⟩ := hpy; exact any_of (r := (RX1, TX1, 7)) hK rfl hz1.two.1) i rfl (by omega) dX3_withoutPanel_53 (fun H locs hP hD hS => ?_)
          have hP : va_P D classes ([(q22, raC (cs 2) ((v 20).toNat - 1) (va_up G i (some y)))]) H := hP
          have hD : va_D A ([(q22, raC (cs 2) ((v 20).toNat - 1) (va_up G i (some y)))]) := hD
          refine rv_iinc (k := 3) (lv' := [(3, .int (iI ((i : Int) + 1))), (0, .ref a), (1, .int (iI p)), (2, .ref q22)]) hx hb dX3_withoutPanel_54 hl rfl (by decide) rfl (fun ls hl => ?_)
          refine lv_goto (tgt := 28) hx hb dX3_withoutPanel_57 (by decide) ?_
          exact ih28 (i + 1) (va_up G i (some y)) (by omega) (fun j h => by by_cases z : j = i; (subst z; rw [va_up_s]; first | rw [if_pos (by omega), hy] | rw [if_neg (by omega), hy]); (rw [va_up_n z]; exact hG j (by omega))) (by omega) _ (by omega) H locs hP hD hS ls (lv_sub hl [1, 2, 3, 0] rfl)
  exact loop28 (_ + 1) 0 (fun _ => none) (by omega) (fun j h => absurd h (Nat.not_lt_zero _)) (Nat.lt_succ_self _) _ rfl H locs hP hD hS ls (lv_sub hl [2, 3, 1, 0] rfl)

