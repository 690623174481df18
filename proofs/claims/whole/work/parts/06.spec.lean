/-! rests, bits, and what the numbers of SoundWells are -/
theorem md_bd {x y : Int} (h : 0 < y) : 0 ≤ x % y ∧ x % y < y := ⟨Int.emod_nonneg _ (by omega), Int.emod_lt_of_pos _ h⟩
theorem tm_bd {a n : Int} (h : 0 < n) : (-n < a.tmod n ∧ a.tmod n < n) ∧ (0 ≤ a.tmod n → a.tmod n = a % n) ∧ (a.tmod n < 0 → a.tmod n + n = a % n) := by
  rcases Int.le_total 0 a with h0 | h0
  · have h1 := md_bd (x := a) h
    rw [Int.tmod_eq_emod_of_nonneg h0]
    omega
  · have e1 : a.tmod n = -((-a) % n) := by
      rw [← Int.tmod_eq_emod_of_nonneg (show 0 ≤ -a by omega), Int.neg_tmod, Int.neg_neg]
    have h1 := md_bd (x := -a) h
    have h2 : -a = (-a) % n + n * ((-a) / n) := (Int.emod_add_mul_ediv (-a) n).symm
    generalize hr : (-a) % n = r at *
    generalize (-a) / n = q at *
    have h3 : a % n = (-r) % n := by
      rw [show a = -r + n * (-q) by rw [Int.mul_neg]; omega, Int.add_mul_emod_self_left]
    rw [e1, h3]
    by_cases hz : r = 0
    · subst hz
      refine ⟨by omega, fun _ => by simp, fun h => by omega⟩
    · have h4 : (-r) % n = n - r := by
        rw [show (-r) % n = (n - r + n * (-1)) % n by rw [Int.mul_neg, Int.mul_one]; congr 1; omega, Int.add_mul_emod_self_left, Int.emod_eq_of_lt (by omega) (by omega)]
      rw [h4]
      omega
def orI (a b : Int) : Int := (iI a ||| iI b).toInt
def andI (a b : Int) : Int := (iI a &&& iI b).toInt
def shlI (a b : Int) : Int := (iI a <<< (iI b &&& 31)).toInt
def shrI (a b : Int) : Int := (iI a >>> (iI b &&& 31)).toInt
theorem iI_back (x : Int32) : iI x.toInt = x := Int32.ofInt_toInt x
theorem i32_bd (x : Int32) : -2147483648 ≤ x.toInt ∧ x.toInt < 2147483648 := ⟨by have := x.le_toInt; omega, by have := x.toInt_lt; omega⟩
theorem orI_bd (a b : Int) : -2147483648 ≤ orI a b ∧ orI a b < 2147483648 := i32_bd _
theorem andI_bd (a b : Int) : -2147483648 ≤ andI a b ∧ andI a b < 2147483648 := i32_bd _
theorem shlI_bd (a b : Int) : -2147483648 ≤ shlI a b ∧ shlI a b < 2147483648 := i32_bd _
theorem shrI_bd (a b : Int) : -2147483648 ≤ shrI a b ∧ shrI a b < 2147483648 := i32_bd _
section RB
variable {p : Program} {l : Launch} {e : Env} {R : Room} {s : State} {m : MethodId} {args : Array Value} {below : List Frame} {meth : Method} {c : Code} {H : Heap} {locs : List Loc} {cells slots : Nat} {Q : State → Prop}
variable {cc : ByteArray} {pc : Nat} {ls : Array Slot} {rest : List Value}
theorem rv_ior (hx : p.tables.exec = Jvm.exec) (hb : c.code = cc) {x y : Int} (hdg : decode cc pc = .ok (.ior, 1))
    (k : W p l e R s m args below meth c H locs cells slots Q (F0 m (pc + 1) ls (.int (iI (orI x y)) :: rest))) : W p l e R s m args below meth c H locs cells slots Q (F0 m pc ls (.int (iI y) :: .int (iI x) :: rest)) := lv_ior hx hb hdg (by rw [← iI_back (iI x ||| iI y)]; exact k)
theorem rv_iand (hx : p.tables.exec = Jvm.exec) (hb : c.code = cc) {x y : Int} (hdg : decode cc pc = .ok (.iand, 1))
    (k : W p l e R s m args below meth c H locs cells slots Q (F0 m (pc + 1) ls (.int (iI (andI x y)) :: rest))) : W p l e R s m args below meth c H locs cells slots Q (F0 m pc ls (.int (iI y) :: .int (iI x) :: rest)) := lv_iand hx hb hdg (by rw [← iI_back (iI x &&& iI y)]; exact k)
theorem rv_ishl (hx : p.tables.exec = Jvm.exec) (hb : c.code = cc) {x y : Int} (hdg : decode cc pc = .ok (.ishl, 1))
    (k : W p l e R s m args below meth c H locs cells slots Q (F0 m (pc + 1) ls (.int (iI (shlI x y)) :: rest))) : W p l e R s m args below meth c H locs cells slots Q (F0 m pc ls (.int (iI y) :: .int (iI x) :: rest)) := lv_ishl hx hb hdg (by rw [← iI_back (iI x <<< (iI y &&& 31))]; exact k)
theorem rv_ishr (hx : p.tables.exec = Jvm.exec) (hb : c.code = cc) {x y : Int} (hdg : decode cc pc = .ok (.ishr, 1))
    (k : W p l e R s m args below meth c H locs cells slots Q (F0 m (pc + 1) ls (.int (iI (shrI x y)) :: rest))) : W p l e R s m args below meth c H locs cells slots Q (F0 m pc ls (.int (iI y) :: .int (iI x) :: rest)) := lv_ishr hx hb hdg (by rw [← iI_back (iI x >>> (iI y &&& 31))]; exact k)
end RB
theorem preS0 {s : State} {H : Heap} {vs : List Value} : PreS s H (va_Pc vs (fun _ => True)) vs := ⟨fun _ _ _ _ q => q, fun _ _ _ => ⟨rfl, trivial⟩⟩
/-- the ten primes -/
def isPr (n : Int) : Prop := n = 3 ∨ n = 5 ∨ n = 7 ∨ n = 11 ∨ n = 13 ∨ n = 17 ∨ n = 19 ∨ n = 23 ∨ n = 29 ∨ n = 31
theorem isPr_bd {n : Int} (h : isPr n) : 3 ≤ n ∧ n ≤ 31 := by unfold isPr at h; omega
def prN : List Nat := [3, 5, 7, 11, 13, 17, 19, 23, 29, 31]
theorem isPr_mem {n : Int} (h : isPr n) : ∃ k ∈ prN, n = (k : Int) := by
  rcases h with h | h | h | h | h | h | h | h | h | h <;> subst h
  · exact ⟨3, by decide, rfl⟩
  · exact ⟨5, by decide, rfl⟩
  · exact ⟨7, by decide, rfl⟩
  · exact ⟨11, by decide, rfl⟩
  · exact ⟨13, by decide, rfl⟩
  · exact ⟨17, by decide, rfl⟩
  · exact ⟨19, by decide, rfl⟩
  · exact ⟨23, by decide, rfl⟩
  · exact ⟨29, by decide, rfl⟩
  · exact ⟨31, by decide, rfl⟩
/-- the squares of n as bits: of 1 to k -/
def sqBn (n : Int) : Nat → Int
  | 0 => 0
  | k + 1 => orI (sqBn n k) (shlI 1 (((k + 1 : Nat) : Int) * ((k + 1 : Nat) : Int) % n))
def sqB (n : Int) : Int := sqBn n (n - 1).toNat
theorem sqBn_bd (n : Int) (k : Nat) : -2147483648 ≤ sqBn n k ∧ sqBn n k < 2147483648 := by
  cases k with
  | zero => exact (show (-2147483648 : Int) ≤ 0 ∧ (0 : Int) < 2147483648 by decide)
  | succ k => exact orI_bd _ _
/-- is r (0 to n - 1) a square's rest: as the model asks it -/
def sqM (r n : Nat) : Bool := (List.range n).any (fun v => decide (1 ≤ v ∧ v * v % n = r))
/-- SIGN of r by n -/
def sgN (r n : Nat) : Int := if r = 0 then 0 else if sqM r n = true then 1 else -1
def sg (a n : Int) : Int := sgN (a % n).toNat n.toNat
theorem sg_bd (a n : Int) : -1 ≤ sg a n ∧ sg a n ≤ 1 := by
  unfold sg sgN
  split
  · decide
  · split <;> decide
theorem sg_tab : ∀ n ∈ prN, ∀ r, r < n → (andI (shrI (sqB (n : Int)) (r : Int)) 1 = 1 ↔ sqM r n = true) := by decide +kernel
def pwI (f n : Int) : Nat → Int
  | 0 => 1
  | k + 1 => pwI f n k * f % n
def snI (f n : Int) : Nat → Int
  | 0 => 0
  | k + 1 => orI (snI f n k) (shlI 1 (pwI f n (k + 1)))
def rootP (f n : Int) : Bool := (List.range (n - 1).toNat).all (fun k => decide (k = 0) || decide (¬ pwI f n k = 1))
/-- f is a ROOT of n -/
def isRt (f n : Int) : Prop := 2 ≤ f ∧ f < n ∧ rootP f n = true
theorem pwI_bd {f n : Int} (h : 1 < n) (k : Nat) : 0 ≤ pwI f n k ∧ pwI f n k < n := by
  cases k with
  | zero => exact ⟨by simp [pwI], by simpa [pwI] using h⟩
  | succ k => exact md_bd (by omega)
theorem snI_bd (f n : Int) (k : Nat) : -2147483648 ≤ snI f n k ∧ snI f n k < 2147483648 := by
  cases k with
  | zero => exact (show (-2147483648 : Int) ≤ 0 ∧ (0 : Int) < 2147483648 by decide)
  | succ k => exact orI_bd _ _
theorem rt_tab : ∀ n ∈ prN, ∀ f, f < n → 2 ≤ f → ((∀ e, e < n - 1 → ¬ andI (shrI (snI (f : Int) (n : Int) e) (pwI (f : Int) (n : Int) (e + 1))) 1 = 1) ↔ rootP (f : Int) (n : Int) = true) ∧ pwI (f : Int) (n : Int) (n - 1) = 1 := by decide +kernel
theorem rt_cls {f n : Int} (hn : isPr n) (h2 : 2 ≤ f) (hf : f < n) : (∀ e : Nat, (e : Int) < n - 1 → ¬ andI (shrI (snI f n e) (pwI f n (e + 1))) 1 = 1) ↔ rootP f n = true := by
  obtain ⟨k, hk, rfl⟩ := isPr_mem hn
  obtain ⟨g, rfl⟩ : ∃ g : Nat, f = (g : Int) := ⟨f.toNat, by omega⟩
  have h := (rt_tab k hk g (by omega) (by omega)).1
  refine Iff.trans ⟨fun q e he => q e (by omega), fun q e he => q e (by omega)⟩ h
theorem rt_one {f n : Int} (hn : isPr n) (h2 : 2 ≤ f) (hf : f < n) : pwI f n (n - 1).toNat = 1 := by
  obtain ⟨k, hk, rfl⟩ := isPr_mem hn
  obtain ⟨g, rfl⟩ : ∃ g : Nat, f = (g : Int) := ⟨f.toNat, by omega⟩
  have h := (rt_tab k hk g (by omega) (by omega)).2
  rw [show ((k : Int) - 1).toNat = k - 1 by omega]
  exact h
/-- the lowest root as a walk upwards -/
def lowC (n : Int) : Nat → Int → Int
  | 0, _ => -1
  | k + 1, f => if 2 ≤ f ∧ f < n ∧ rootP f n = true then f else lowC n k (f + 1)
def cntC (n : Int) : Nat → Int → Int → Int
  | 0, _, r => r
  | k + 1, f, r => cntC n k (f + 1) (if 2 ≤ f ∧ f < n ∧ rootP f n = true then r + 1 else r)
def lowR (n : Int) : Int := lowC n (n - 2).toNat 2
def cntR (n : Int) : Int := cntC n (n - 2).toNat 2 0
def prI (j : Nat) : Int := ((prN.getD j 0 : Nat) : Int)
theorem prI_bd (j : Nat) : -2147483648 ≤ prI j ∧ prI j < 2147483648 := by
  unfold prI
  rcases Nat.lt_or_ge j 10 with h | h
  · have h2 : ∀ j, j < 10 → prN.getD j 0 < 32 := by decide
    have := h2 j h
    omega
  · rw [List.getD_eq_getElem?_getD, List.getElem?_eq_none (by simpa [prN] using h)]
    decide
theorem pr_in {j : Nat} {n : Int} (h : j < 10) (e : prI j = n) : isPr n := by
  subst e
  have h2 : ∀ j, j < 10 → prN.getD j 0 = 3 ∨ prN.getD j 0 = 5 ∨ prN.getD j 0 = 7 ∨ prN.getD j 0 = 11 ∨ prN.getD j 0 = 13 ∨ prN.getD j 0 = 17 ∨ prN.getD j 0 = 19 ∨ prN.getD j 0 = 23 ∨ prN.getD j 0 = 29 ∨ prN.getD j 0 = 31 := by decide
  have := h2 j h
  unfold isPr prI
  omega
theorem pr_out {n : Int} (h : ∀ j : Nat, j < 10 → ¬ prI j = n) : ¬ isPr n := by
  have h0 : ¬ (3 : Int) = n := h 0 (by decide)
  have h1 : ¬ (5 : Int) = n := h 1 (by decide)
  have h2 : ¬ (7 : Int) = n := h 2 (by decide)
  have h3 : ¬ (11 : Int) = n := h 3 (by decide)
  have h4 : ¬ (13 : Int) = n := h 4 (by decide)
  have h5 : ¬ (17 : Int) = n := h 5 (by decide)
  have h6 : ¬ (19 : Int) = n := h 6 (by decide)
  have h7 : ¬ (23 : Int) = n := h 7 (by decide)
  have h8 : ¬ (29 : Int) = n := h 8 (by decide)
  have h9 : ¬ (31 : Int) = n := h 9 (by decide)
  unfold isPr
  omega
/-- the static row of primes, read off the tables -/
def PZ (U : State) (H : Heap) (A : Nat → Prop) : Prop := (∃ t : Nat, va_Z "SoundWells" "PRIMES" "[I" (.ref t) A U H ∧ va_T .int t 10 (fun j => .int (iI (prI j))) A U H) ∧ va_Nw (.fieldLinkNest "SoundWells$Numbers" 9 "SoundWells" "PRIMES" "[I" "SoundWells") U
theorem PZ.narrow {U : State} {H : Heap} {A B : Nat → Prop} (h : PZ U H A) (hAB : ∀ q, B q → A q) : PZ U H B := by
  obtain ⟨⟨t, h1, h2⟩, h3⟩ := h
  exact ⟨⟨t, h1.narrow hAB, h2.narrow hAB⟩, h3⟩
theorem PZ.kept {U : State} {H H1 : Heap} {A : Nat → Prop} (h : PZ U H A) (hq : ∀ a : Nat, a < H.size → ¬ A a → H1[a]? = H[a]?) : PZ U H1 A := by
  obtain ⟨⟨t, h1, h2⟩, h3⟩ := h
  exact ⟨⟨t, h1.kept hq, h2.kept hq⟩, h3⟩
