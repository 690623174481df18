/-! methods that change cells: the shape of their starts -/
def MPre (D : va_G) (cs : Nat → ClassId) (sz : Nat) (WS : va_W) (X : State → Heap → Prop) : State → Prop := fun U => U.heap.size = sz ∧ va_P D classes WS U.heap ∧ va_D (fun _ => True) WS ∧ KA D cs U ∧ X U U.heap
theorem MPre_stb {D : va_G} {cs : Nat → ClassId} {sz : Nat} {WS : va_W} {X : State → Heap → Prop} (hX : Stb X) : Stb (fun U H => H.size = sz ∧ va_P D classes WS H ∧ va_D (fun _ => True) WS ∧ KA D cs U ∧ X U H) :=
  ⟨fun u U H e h => ⟨h.1, h.2.1, h.2.2.1, (KA_stb D cs).1 u U H e h.2.2.2.1, hX.1 u U H e h.2.2.2.2⟩, fun s U H w h => ⟨h.1, h.2.1, h.2.2.1, (KA_stb D cs).2 s U H w h.2.2.2.1, hX.2 s U H w h.2.2.2.2⟩⟩
theorem Stb_T : Stb (fun _ _ => True) := Stb_H
theorem preV_M {D : va_G} {cs : Nat → ClassId} {A : Nat → Prop} {s : State} {H : Heap} {C : String} {b : Nat} {vs : List Value} {WS : va_W} {X : State → Heap → Prop} (hX : Stb X) (hK : KA D cs s) (hr : ∃ cell : Cell, H[b]? = some cell ∧ cell.vm.isStatics = false ∧ s.vm.findClass C = some cell.cls) (hP : va_P D classes WS H) (hD : va_D A WS) (h : X s H) : PreV s H C b (va_Pc (.ref b :: vs) (MPre D cs H.size WS X)) vs :=
  preV_of (Bf := fun U H2 => H2.size = H.size ∧ va_P D classes WS H2 ∧ va_D (fun _ => True) WS ∧ KA D cs U ∧ X U H2) (MPre_stb hX) hr ⟨rfl, hP, hD.weaken (fun _ _ _ _ => trivial), hK, h⟩
theorem preS_M {D : va_G} {cs : Nat → ClassId} {A : Nat → Prop} {s : State} {H : Heap} {vs : List Value} {WS : va_W} {X : State → Heap → Prop} (hX : Stb X) (hK : KA D cs s) (hP : va_P D classes WS H) (hD : va_D A WS) (h : X s H) : PreS s H (va_Pc vs (MPre D cs H.size WS X)) vs :=
  preS_of (Bf := fun U H2 => H2.size = H.size ∧ va_P D classes WS H2 ∧ va_D (fun _ => True) WS ∧ KA D cs U ∧ X U H2) (MPre_stb hX) ⟨rfl, hP, hD.weaken (fun _ _ _ _ => trivial), hK, h⟩
noncomputable def cF {α : Type} (P : Prop) (a b : α) : α := @ite α P (Classical.propDecidable P) a b
theorem cF_pos {α : Type} {P : Prop} (h : P) {a b : α} : cF P a b = a := by unfold cF; exact if_pos h
theorem cF_neg {α : Type} {P : Prop} (h : ¬ P) {a b : α} : cF P a b = b := by unfold cF; exact if_neg h
/-- the model's cells -/
abbrev mFs (ad : Nat → Nat) (len spot un bo cu lo wh : Int) : List Value := [.int (iI len), .ref (ad 1), .int (iI spot), .ref (ad 2), .ref (ad 3), .ref (ad 4), .int (iI un), .ref (ad 5), .ref (ad 6), .ref (ad 7), .ref (ad 8), .ref (ad 9), .int (iI bo), .int (iI cu), .int (iI lo), .int (iI wh)]
abbrev mW (cs : Nat → ClassId) (ad : Nat → Nat) (len spot un bo cu lo wh : Int) (tx now rd bf bl us lg bd dp : Nat → Int) : va_W :=
  [(ad 0, .inr (6, mFs ad len spot un bo cu lo wh)), (ad 1, iaC cs 200 tx), (ad 2, iaC cs 24 now), (ad 3, iaC cs 24 rd), (ad 4, iaC cs 144 bf), (ad 5, iaC cs 160 bl), (ad 6, iaC cs 160 us), (ad 7, iaC cs 160 lg), (ad 8, iaC cs 160 bd), (ad 9, iaC cs 160 dp)]
/-- the changes noted: at most six, the oldest forgotten -/
def Noted (un : Int) (bf v : Nat → Int) (un2 : Int) (bf2 : Nat → Int) : Prop :=
  (un < 6 → un2 = un + 1 ∧ ∀ k : Nat, (k : Int) < 24 * un → bf2 k = bf k) ∧ (un = 6 → un2 = 6 ∧ ∀ k : Nat, k < 120 → bf2 k = bf (24 + k)) ∧ ∀ j : Nat, j < 24 → bf2 (24 * (un2 - 1).toNat + j) = v j
noncomputable def aWrite (len x : Int) : Int := cif (32 ≤ x ∧ x ≤ 126) (cif (len = 200) (-3) (len + 1)) (-1)
noncomputable def nLen (len x : Int) : Int := cif ((32 ≤ x ∧ x ≤ 126) ∧ ¬ len = 200) (len + 1) len
noncomputable def nTx (len x : Int) (tx : Nat → Int) : Nat → Int := cF ((32 ≤ x ∧ x ≤ 126) ∧ ¬ len = 200) (upI tx len.toNat x) tx
/-- one number told anew -/
def okSet (v : Nat → Int) (p what x : Int) : Prop := (0 ≤ p ∧ p < v 20) ∧ ((what = 0 ∧ fOK (pv v p 0) (pv v p 1) x) ∨ (what = 1 ∧ 0 ≤ x ∧ x < pv v p 1) ∨ (what = 2 ∧ 1 ≤ x ∧ x ≤ 40))
def okTell (what x : Int) : Prop := (what = 0 ∧ 1 ≤ x ∧ x ≤ 20) ∨ (what = 1 ∧ 20 ≤ x ∧ x ≤ 400) ∨ (what = 2 ∧ 0 ≤ x ∧ x ≤ 5)
noncomputable def aBec (v : Nat → Int) (at_ : Nat) (x : Int) : Int := cif (v at_ = x) (-2) (v at_)
noncomputable def aSet (v : Nat → Int) (p what x : Int) : Int := cif (okSet v p what x) (aBec v (5 * p.toNat + 2 + what.toNat) x) (-1)
noncomputable def aTell (v : Nat → Int) (what x : Int) : Int := cif (okTell what x) (aBec v (21 + what.toNat) x) (-1)
/-- behind a change of number a_ to x -/
def Beca (v : Nat → Int) (un : Int) (bf : Nat → Int) (a_ : Nat) (x : Int) (v2 : Nat → Int) (un2 : Int) (bf2 : Nat → Int) : Prop :=
  (v a_ = x → v2 = v ∧ un2 = un ∧ bf2 = bf) ∧ (¬ v a_ = x → v2 = upI v a_ x ∧ Noted un bf v un2 bf2)
/-- the numbers behind panel p taken away -/
def tkV (v : Nat → Int) (p : Nat) : Nat → Int := fun j => if j = 20 then v 20 - 1 else if 5 * p ≤ j ∧ j < 15 then v (j + 5) else v j
