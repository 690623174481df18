/-! what the heap holds: panels, plans -/
abbrev classes : List vw_C := [(RX1, TX1, 7), (RX2, TX2, 2), (RX3, TX3, 4), (RX4, TX4, 8), (RX5, TX5, 14), (RX6, TX6, 6), (RX7, TX7, 16)]
abbrev KT (cs : Nat → ClassId) : List (ClassId × FieldType) := [(cs 0, .int), (cs 1, .char), (cs 2, .object "SoundWells$Panel"), (cs 3, .object "SoundWells$Plan")]
abbrev KA (D : va_G) (cs : Nat → ClassId) (U : State) : Prop := va_K D classes (KT cs) U
theorem KA_stb (D : va_G) (cs : Nat → ClassId) : Stb (fun U _ => KA D cs U) := ⟨fun u U H e h => va_K.moved (e ▸ Vm.Alike.refl u.vm) h, fun s U H w h => va_K.moved w.alike h⟩
def mxI (a b : Int) : Int := if a < b then b else a
def mnI (a b : Int) : Int := if b < a then b else a
section RM
variable {p : Program} {l : Launch} {e : Env} {R : Room} {s : State} {m : MethodId} {args : Array Value} {below : List Frame} {meth : Method} {c : Code} {H : Heap} {locs : List Loc} {cells slots : Nat} {Q : State → Prop}
variable {cc : ByteArray} {pc : Nat} {ls : Array Slot} {rest : List Value}
theorem rv_mmax (hx : p.tables.exec = Jvm.exec) (hb : c.code = cc) (hml : c.maxLocals = ls.size) {own : String} {index : Nat} (hown : s.vm.findClass own = some m.cls) (hlink : (Cond.methodLink own index Lib.Math.max.name).before args s = true) (hstat : (Cond.static Lib.Math.max.name).before args s = true) (hini : (Cond.initialized "java/lang/Math").before args s = true) (hcode : (Cond.code Lib.Math.max.name Lib.Math.max.code 2 (some .int)).before args s = true)
    (hframes : 1 ≤ R.frames) (hlocals : (rest.map fun v => v.category).sum + 13 ≤ R.locals) (hc : cells ≤ R.cells) (hs : slots ≤ R.slots) {x y : Int} (h : (-2147483648 ≤ x ∧ x < 2147483648) ∧ (-2147483648 ≤ y ∧ y < 2147483648)) (hdg : decode cc pc = .ok (.invokestatic index, 3))
    (kk : W p l e R s m args below meth c H locs cells slots Q (F0 m (pc + 3) ls (.int (iI (mxI x y)) :: rest))) : W p l e R s m args below meth c H locs cells slots Q (F0 m pc ls (.int (iI y) :: .int (iI x) :: rest)) :=
  va_mmax hx hb hml hown hlink hstat hini hcode hframes hlocals hc hs hdg (by
    rw [show (if iI x < iI y then iI y else iI x) = iI (mxI x y) by unfold mxI; by_cases q : x < y; rw [if_pos q, if_pos ((iI_lt h.1 h.2).mpr q)]; rw [if_neg q, if_neg (fun z => q ((iI_lt h.1 h.2).mp z))]]
    exact kk)
theorem rv_mmin (hx : p.tables.exec = Jvm.exec) (hb : c.code = cc) (hml : c.maxLocals = ls.size) {own : String} {index : Nat} (hown : s.vm.findClass own = some m.cls) (hlink : (Cond.methodLink own index Lib.Math.min.name).before args s = true) (hstat : (Cond.static Lib.Math.min.name).before args s = true) (hini : (Cond.initialized "java/lang/Math").before args s = true) (hcode : (Cond.code Lib.Math.min.name Lib.Math.min.code 2 (some .int)).before args s = true)
    (hframes : 1 ≤ R.frames) (hlocals : (rest.map fun v => v.category).sum + 13 ≤ R.locals) (hc : cells ≤ R.cells) (hs : slots ≤ R.slots) {x y : Int} (h : (-2147483648 ≤ x ∧ x < 2147483648) ∧ (-2147483648 ≤ y ∧ y < 2147483648)) (hdg : decode cc pc = .ok (.invokestatic index, 3))
    (kk : W p l e R s m args below meth c H locs cells slots Q (F0 m (pc + 3) ls (.int (iI (mnI x y)) :: rest))) : W p l e R s m args below meth c H locs cells slots Q (F0 m pc ls (.int (iI y) :: .int (iI x) :: rest)) :=
  va_mmin hx hb hml hown hlink hstat hini hcode hframes hlocals hc hs hdg (by
    rw [show (if iI y < iI x then iI y else iI x) = iI (mnI x y) by unfold mnI; by_cases q : y < x; rw [if_pos q, if_pos ((iI_lt h.2 h.1).mpr q)]; rw [if_neg q, if_neg (fun z => q ((iI_lt h.2 h.1).mp z))]]
    exact kk)
end RM
/-- PERIOD -/
def per (k n : Int) : Int := if k = 1 then n - 1 else n
/-- depth of place i of the ROW (0 to PERIOD less 1) -/
def dep (k n f : Int) (i : Nat) : Int := if k = 0 then f * (i : Int) * (i : Int) % n else if k = 1 then pwI f n (i + 1) else if sg (i : Int) n = 1 then f else 0
/-- depth of any place -/
def dpt (k n f place : Int) : Int := dep k n f (place % per k n).toNat
def fOK (k n f : Int) : Prop := (k = 0 → 1 ≤ f ∧ f < n) ∧ (k = 1 → isRt f n) ∧ (k = 2 → 1 ≤ f ∧ f ≤ 9)
/-- a panel as it may be -/
def vP (k n f o w : Int) : Prop := (0 ≤ k ∧ k ≤ 2) ∧ isPr n ∧ fOK k n f ∧ (0 ≤ o ∧ o < n) ∧ (1 ≤ w ∧ w ≤ 40)
theorem per_bd {k n : Int} (hn : isPr n) : 2 ≤ per k n ∧ per k n ≤ 31 ∧ per k n ≤ n := by
  have := isPr_bd hn
  unfold per
  split <;> omega
theorem fOK_bd {k n f : Int} (hk : 0 ≤ k ∧ k ≤ 2) (hn : isPr n) (h : fOK k n f) : 1 ≤ f ∧ f ≤ 30 := by
  have hb := isPr_bd hn
  obtain ⟨h0, h1, h2⟩ := h
  rcases (show k = 0 ∨ k = 1 ∨ k = 2 by omega) with e | e | e
  · have := h0 e; omega
  · have h3 := h1 e; unfold isRt at h3; omega
  · have := h2 e; omega
theorem dep_bd {k n f : Int} (hk : 0 ≤ k ∧ k ≤ 2) (hn : isPr n) (h : fOK k n f) (i : Nat) : 0 ≤ dep k n f i ∧ dep k n f i ≤ 30 := by
  have hb := isPr_bd hn
  have hf := fOK_bd hk hn h
  unfold dep
  split
  · have := md_bd (x := f * (i : Int) * (i : Int)) (y := n) (by omega); omega
  · split
    · have := pwI_bd (f := f) (n := n) (by omega) (i + 1); omega
    · split <;> omega
theorem dpt_bd {k n f : Int} (hk : 0 ≤ k ∧ k ≤ 2) (hn : isPr n) (h : fOK k n f) (i : Int) : 0 ≤ dpt k n f i ∧ dpt k n f i ≤ 30 := dep_bd hk hn h _
abbrev pnC (k n f o w : Int) (r : Nat) : va_E := .inr (0, [.int (iI k), .int (iI n), .int (iI f), .int (iI o), .int (iI w), .int (iI (per k n)), .ref r])
abbrev iaC (cs : Nat → ClassId) (n : Nat) (F : Nat → Int) : va_E := .inl (cs 0, n, .inl (iA F))
abbrev caC (cs : Nat → ClassId) (n : Nat) (F : Nat → Int) : va_E := .inl (cs 1, n, .inl (iA F))
abbrev raC (c : ClassId) (n : Nat) (g : Nat → Option Nat) : va_E := .inl (c, n, .inr (.inr (.inr (.inr g))))
abbrev plC (arr : Nat) (u b c : Int) : va_E := .inr (2, [.ref arr, .int (iI u), .int (iI b), .int (iI c)])
/-- a panel in the heap; none of its cells is in A -/
def PanelAt (D : va_G) (cs : Nat → ClassId) (A : Nat → Prop) (H : Heap) (a : Nat) (k n f o w : Int) : Prop :=
  vP k n f o w ∧ ∃ (r : Nat) (row : Nat → Int), va_P D classes [(a, pnC k n f o w r), (r, iaC cs 31 row)] H ∧ ¬ A a ∧ ¬ A r ∧ ∀ i : Nat, (i : Int) < n → row i = dep k n f i
theorem PanelAt.narrow {D : va_G} {cs : Nat → ClassId} {A B : Nat → Prop} {H : Heap} {a : Nat} {k n f o w : Int} (h : PanelAt D cs A H a k n f o w) (hAB : ∀ q, B q → A q) : PanelAt D cs B H a k n f o w := by
  obtain ⟨hv, r, row, h1, h2, h3, h4⟩ := h
  exact ⟨hv, r, row, h1, fun z => h2 (hAB _ z), fun z => h3 (hAB _ z), h4⟩
theorem PanelAt.any {D : va_G} {cs : Nat → ClassId} {A : Nat → Prop} {H : Heap} {a : Nat} {k n f o w : Int} (h : PanelAt D cs A H a k n f o w) : PanelAt D cs (fun _ => False) H a k n f o w := h.narrow (fun _ q => q.elim)
theorem va_P.two {D : va_G} {cl : List vw_C} {x y : Nat × va_E} {H : Heap} (h : va_P D cl [x, y] H) : va_at D cl x H ∧ va_at D cl y H := ⟨h 0 x rfl, h 1 y rfl⟩
theorem va_P.of2 {D : va_G} {cl : List vw_C} {x y : Nat × va_E} {H : Heap} (h1 : va_at D cl x H) (h2 : va_at D cl y H) : va_P D cl [x, y] H := by
  intro k q hk
  match k, hk with
  | 0, hk => cases hk; exact h1
  | 1, hk => cases hk; exact h2
  | k + 2, hk => simp at hk
theorem PanelAt.kept {D : va_G} {cs : Nat → ClassId} {A : Nat → Prop} {H H1 : Heap} {a : Nat} {k n f o w : Int} (h : PanelAt D cs A H a k n f o w) (hq : ∀ q : Nat, q < H.size → ¬ A q → H1[q]? = H[q]?) : PanelAt D cs A H1 a k n f o w := by
  obtain ⟨hv, r, row, h1, h2, h3, h4⟩ := h
  obtain ⟨g1, g2⟩ := h1.two
  exact ⟨hv, r, row, va_P.of2 (g1.kept (hq _ g1.lt h2)) (g2.kept (hq _ g2.lt h3)), h2, h3, h4⟩
theorem PanelAt.recv {D : va_G} {cs : Nat → ClassId} {A : Nat → Prop} {H : Heap} {a : Nat} {k n f o w : Int} {s : State} (hK : KA D cs s) (h : PanelAt D cs A H a k n f o w) : ∃ cell : Cell, H[a]? = some cell ∧ cell.vm.isStatics = false ∧ s.vm.findClass RX1 = some cell.cls := by
  obtain ⟨hv, r, row, h1, h2, h3, h4⟩ := h
  exact va_recv hK h1 (ci := 0) (q0 := 0) rfl rfl
/-- a state that is laid: 24 numbers, five of each panel, then how many, unit, board, cut -/
def vL (v : Nat → Int) : Prop := (0 ≤ v 20 ∧ v 20 ≤ 4) ∧ (1 ≤ v 21 ∧ v 21 ≤ 20) ∧ (20 ≤ v 22 ∧ v 22 ≤ 400) ∧ (0 ≤ v 23 ∧ v 23 ≤ 5) ∧ ∀ q : Nat, (q : Int) < v 20 → vP (v (5 * q)) (v (5 * q + 1)) (v (5 * q + 2)) (v (5 * q + 3)) (v (5 * q + 4))
/-- a plan in the heap -/
def PlanAt (D : va_G) (cs : Nat → ClassId) (A : Nat → Prop) (H : Heap) (a : Nat) (v : Nat → Int) : Prop :=
  vL v ∧ ∃ (arr : Nat) (g : Nat → Option Nat), va_P D classes [(a, plC arr (v 21) (v 22) (v 23)), (arr, raC (cs 2) (v 20).toNat g)] H ∧ ¬ A a ∧ ¬ A arr ∧ ∀ q : Nat, (q : Int) < v 20 → ∃ y : Nat, g q = some y ∧ PanelAt D cs A H y (v (5 * q)) (v (5 * q + 1)) (v (5 * q + 2)) (v (5 * q + 3)) (v (5 * q + 4))
theorem PlanAt.narrow {D : va_G} {cs : Nat → ClassId} {A B : Nat → Prop} {H : Heap} {a : Nat} {v : Nat → Int} (h : PlanAt D cs A H a v) (hAB : ∀ q, B q → A q) : PlanAt D cs B H a v := by
  obtain ⟨hv, arr, g, h1, h2, h3, h4⟩ := h
  exact ⟨hv, arr, g, h1, fun z => h2 (hAB _ z), fun z => h3 (hAB _ z), fun q hq => by obtain ⟨y, e, hy⟩ := h4 q hq; exact ⟨y, e, hy.narrow hAB⟩⟩
theorem PlanAt.any {D : va_G} {cs : Nat → ClassId} {A : Nat → Prop} {H : Heap} {a : Nat} {v : Nat → Int} (h : PlanAt D cs A H a v) : PlanAt D cs (fun _ => False) H a v := h.narrow (fun _ q => q.elim)
theorem PlanAt.kept {D : va_G} {cs : Nat → ClassId} {A : Nat → Prop} {H H1 : Heap} {a : Nat} {v : Nat → Int} (h : PlanAt D cs A H a v) (hq : ∀ q : Nat, q < H.size → ¬ A q → H1[q]? = H[q]?) : PlanAt D cs A H1 a v := by
  obtain ⟨hv, arr, g, h1, h2, h3, h4⟩ := h
  obtain ⟨g1, g2⟩ := h1.two
  exact ⟨hv, arr, g, va_P.of2 (g1.kept (hq _ g1.lt h2)) (g2.kept (hq _ g2.lt h3)), h2, h3, fun q hq1 => by obtain ⟨y, e, hy⟩ := h4 q hq1; exact ⟨y, e, hy.kept hq⟩⟩
theorem PlanAt.recv {D : va_G} {cs : Nat → ClassId} {A : Nat → Prop} {H : Heap} {a : Nat} {v : Nat → Int} {s : State} (hK : KA D cs s) (h : PlanAt D cs A H a v) : ∃ cell : Cell, H[a]? = some cell ∧ cell.vm.isStatics = false ∧ s.vm.findClass RX3 = some cell.cls := by
  obtain ⟨hv, arr, g, h1, h2, h3, h4⟩ := h
  exact va_recv hK h1 (ci := 2) (q0 := 0) rfl rfl
/-! folds over the wells and the places of a panel -/
def mxW (k n f o : Int) : Nat → Int
  | 0 => 0
  | i + 1 => mxI (mxW k n f o i) (dpt k n f ((i : Int) + o))
def smW (k n f o : Int) : Nat → Int
  | 0 => 0
  | i + 1 => smW k n f o i + dpt k n f ((i : Int) + o)
def bsW (k n f o : Int) : Nat → Int
  | 0 => 0
  | i + 1 => orI (bsW k n f o i) (shlI 1 (dpt k n f ((i : Int) + o)))
def mirP (k n f o w : Int) : Prop := ∀ i : Nat, (i : Int) < w → dpt k n f ((i : Int) + o) = dpt k n f (w - 1 - (i : Int) + o)
def cnC (k n f sh d : Int) : Nat → Int
  | 0 => 0
  | i + 1 => cnC k n f sh d i + (if (dpt k n f ((i : Int) + sh) - dpt k n f (i : Int)) % n = d then 1 else 0)
def plD (k n f x y : Int) : Int := (dpt k n f x + dpt k n f y) % n
def ppI (k n f d x : Int) : Nat → Int
  | 0 => 0
  | y + 1 => ppI k n f d x y + (if plD k n f x (y : Int) = d then 1 else 0)
def ppO (k n f d : Int) (N : Nat) : Nat → Int
  | 0 => 0
  | x + 1 => ppO k n f d N x + ppI k n f d (x : Int) N
theorem mxW_bd {k n f o : Int} (hk : 0 ≤ k ∧ k ≤ 2) (hn : isPr n) (h : fOK k n f) (i : Nat) : 0 ≤ mxW k n f o i ∧ mxW k n f o i ≤ 30 := by
  induction i with
  | zero => exact ⟨by simp [mxW], by simp [mxW]⟩
  | succ i ih =>
    have := dpt_bd hk hn h ((i : Int) + o)
    simp only [mxW, mxI]
    split <;> omega
theorem smW_bd {k n f o : Int} (hk : 0 ≤ k ∧ k ≤ 2) (hn : isPr n) (h : fOK k n f) (i : Nat) : 0 ≤ smW k n f o i ∧ smW k n f o i ≤ 30 * (i : Int) := by
  induction i with
  | zero => exact ⟨by simp [smW], by simp [smW]⟩
  | succ i ih =>
    have := dpt_bd hk hn h ((i : Int) + o)
    simp only [smW]
    omega
theorem bsW_bd (k n f o : Int) (i : Nat) : -2147483648 ≤ bsW k n f o i ∧ bsW k n f o i < 2147483648 := by
  cases i with
  | zero => exact (show (-2147483648 : Int) ≤ 0 ∧ (0 : Int) < 2147483648 by decide)
  | succ k => exact orI_bd _ _
theorem cnC_bd (k n f sh d : Int) (i : Nat) : 0 ≤ cnC k n f sh d i ∧ cnC k n f sh d i ≤ (i : Int) := by
  induction i with
  | zero => exact ⟨by simp [cnC], by simp [cnC]⟩
  | succ i ih =>
    simp only [cnC]
    split <;> omega
theorem ppI_bd (k n f d x : Int) (i : Nat) : 0 ≤ ppI k n f d x i ∧ ppI k n f d x i ≤ (i : Int) := by
  induction i with
  | zero => exact ⟨by simp [ppI], by simp [ppI]⟩
  | succ i ih =>
    simp only [ppI]
    split <;> omega
theorem ppO_bd (k n f d : Int) (N i : Nat) (hN : N ≤ 31) : 0 ≤ ppO k n f d N i ∧ ppO k n f d N i ≤ 31 * (i : Int) := by
  induction i with
  | zero => exact ⟨by simp [ppO], by simp [ppO]⟩
  | succ i ih =>
    have := ppI_bd k n f d (i : Int) N
    simp only [ppO]
    omega
