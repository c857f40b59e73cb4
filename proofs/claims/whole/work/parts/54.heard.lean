/-! HEARD: sums over the sets of whole edges -/
def smN (f : Nat → Nat) : Nat → Nat
  | 0 => 0
  | m + 1 => smN f m + f m
theorem smN_congr {f h : Nat → Nat} : ∀ m, (∀ i, i < m → f i = h i) → smN f m = smN h m := by
  intro m
  induction m with
  | zero => intro _; rfl
  | succ m ih => intro he; unfold smN; rw [ih (fun i hi => he i (by omega)), he m (by omega)]
theorem smN_add {f h : Nat → Nat} : ∀ m, smN (fun i => f i + h i) m = smN f m + smN h m := by
  intro m
  induction m with
  | zero => rfl
  | succ m ih => unfold smN; rw [ih]; omega
theorem smN_mul {f : Nat → Nat} (c : Nat) : ∀ m, smN (fun i => f i * c) m = smN f m * c := by
  intro m
  induction m with
  | zero => unfold smN; rw [Nat.zero_mul]
  | succ m ih => unfold smN; rw [ih, Nat.add_mul]
theorem smN_0 : ∀ m, smN (fun _ => 0) m = 0 := by
  intro m
  induction m with
  | zero => rfl
  | succ m ih => unfold smN; rw [ih]
theorem smN_split {f : Nat → Nat} (a : Nat) : ∀ b, smN f (a + b) = smN f a + smN (fun i => f (a + i)) b := by
  intro b
  induction b with
  | zero => rfl
  | succ b ih =>
    show smN f (a + b) + f (a + b) = smN f a + (smN (fun i => f (a + i)) b + f (a + b))
    rw [ih, Nat.add_assoc]
theorem smN_swap {f : Nat → Nat → Nat} (a : Nat) : ∀ b, smN (fun i => smN (fun j => f i j) b) a = smN (fun j => smN (fun i => f i j) a) b := by
  intro b
  induction b with
  | zero => exact smN_0 a
  | succ b ih =>
    have e : smN (fun i => smN (fun j => f i j) (b + 1)) a = smN (fun i => smN (fun j => f i j) b + f i b) a := rfl
    rw [e, smN_add, ih]
    rfl
theorem smN_le {f : Nat → Nat} {c : Nat} : ∀ m, (∀ i, i < m → f i ≤ c) → smN f m ≤ m * c := by
  intro m
  induction m with
  | zero => intro _; exact Nat.zero_le _
  | succ m ih =>
    intro h
    unfold smN
    have h1 := ih (fun i hi => h i (by omega))
    have h2 := h m (by omega)
    rw [Nat.add_mul]; omega
def wt (y x g e : Nat) (s : Bool) : Nat := if g.testBit e then (if s then 0 else 1) else (if s then y else x)
def prW (y x g S : Nat) : Nat → Nat
  | 0 => 1
  | e + 1 => prW y x g S e * wt y x g e (S.testBit e)
def subB (R S : Nat) : Nat → Bool
  | 0 => true
  | e + 1 => subB R S e && (!R.testBit e || S.testBit e)
def prR (y x g R : Nat) : Nat → Nat
  | 0 => 1
  | e + 1 => prR y x g R e * (if R.testBit e then wt y x g e true else wt y x g e true + wt y x g e false)
theorem subB_s {R S e : Nat} : subB R S (e + 1) = (subB R S e && (!R.testBit e || S.testBit e)) := rfl
theorem prW_s {y x g S e : Nat} : prW y x g S (e + 1) = prW y x g S e * wt y x g e (S.testBit e) := rfl
theorem prW_congr {y x g S S2 : Nat} : ∀ E, (∀ e, e < E → S.testBit e = S2.testBit e) → prW y x g S E = prW y x g S2 E := by
  intro E
  induction E with
  | zero => intro _; rfl
  | succ E ih => intro h; unfold prW; rw [ih (fun e he => h e (by omega)), h E (by omega)]
theorem prW_congr2 {y x g g2 S : Nat} : ∀ E, (∀ e, e < E → g.testBit e = g2.testBit e) → prW y x g S E = prW y x g2 S E := by
  intro E
  induction E with
  | zero => intro _; rfl
  | succ E ih => intro h; unfold prW wt; rw [ih (fun e he => h e (by omega)), h E (by omega)]
theorem subB_congr {R S S2 : Nat} : ∀ E, (∀ e, e < E → S.testBit e = S2.testBit e) → subB R S E = subB R S2 E := by
  intro E
  induction E with
  | zero => intro _; rfl
  | succ E ih => intro h; unfold subB; rw [ih (fun e he => h e (by omega)), h E (by omega)]
theorem subB_or {R L S : Nat} : ∀ E, subB (R ||| L) S E = (subB R S E && subB L S E) := by
  intro E
  induction E with
  | zero => rfl
  | succ E ih =>
    unfold subB
    rw [ih, Nat.testBit_or]
    cases subB R S E <;> cases subB L S E <;> cases R.testBit E <;> cases L.testBit E <;> cases S.testBit E <;> rfl
theorem hi_bit {E S : Nat} (h : S < 2 ^ E) : (2 ^ E + S).testBit E = true := by
  rw [Nat.testBit_two_pow_add_eq, Nat.testBit_lt_two_pow h]; rfl
theorem lo_bit {E S e : Nat} (h : e < E) : (2 ^ E + S).testBit e = S.testBit e := Nat.testBit_two_pow_add_gt h S
theorem wsum {y x g R : Nat} : ∀ E, smN (fun S => if subB R S E = true then prW y x g S E else 0) (2 ^ E) = prR y x g R E := by
  intro E
  induction E with
  | zero => rfl
  | succ E ih =>
    rw [show 2 ^ (E + 1) = 2 ^ E + 2 ^ E by rw [Nat.pow_succ]; omega, smN_split]
    have e1 : smN (fun S => if subB R S (E + 1) = true then prW y x g S (E + 1) else 0) (2 ^ E) = (if R.testBit E then 0 else prR y x g R E * wt y x g E false) := by
      cases hR : R.testBit E with
      | true =>
        rw [smN_congr (h := fun _ => 0), smN_0]
        · rfl
        · intro S hS
          rw [if_neg]
          rw [subB_s, hR, Nat.testBit_lt_two_pow hS]
          simp
      | false =>
        rw [smN_congr (h := fun S => (if subB R S E = true then prW y x g S E else 0) * wt y x g E false), smN_mul, ih]
        · rfl
        · intro S hS
          rw [subB_s, prW_s, hR, Nat.testBit_lt_two_pow hS]
          cases subB R S E <;> simp
    have e2 : smN (fun S => if subB R (2 ^ E + S) (E + 1) = true then prW y x g (2 ^ E + S) (E + 1) else 0) (2 ^ E) = prR y x g R E * wt y x g E true := by
      rw [smN_congr (h := fun S => (if subB R S E = true then prW y x g S E else 0) * wt y x g E true), smN_mul, ih]
      intro S hS
      rw [subB_s, prW_s, hi_bit hS, subB_congr (S := 2 ^ E + S) (S2 := S) E (fun e he => lo_bit he), prW_congr (S := 2 ^ E + S) (S2 := S) E (fun e he => lo_bit he)]
      cases subB R S E <;> simp
    rw [e1, e2]
    have e3 : prR y x g R (E + 1) = prR y x g R E * (if R.testBit E then wt y x g E true else wt y x g E true + wt y x g E false) := rfl
    rw [e3]
    cases hR : R.testBit E with
    | true => simp
    | false =>
      simp only [Bool.false_eq_true, reduceIte]
      rw [Nat.mul_add]; omega
theorem un_sum {a b : Bool} {w : Nat} : (if a = true then w else 0) + (if b = true then w else 0) = w * (if (a || b) = true then 1 else 0) + (if (a && b) = true then w else 0) := by
  cases a <;> cases b <;> simp
/-- one who may hear, over R or over L -/
theorem one_sum {y x g R L E : Nat} : smN (fun S => prW y x g S E * (if (subB R S E || subB L S E) = true then 1 else 0)) (2 ^ E) = prR y x g R E + prR y x g L E - prR y x g (R ||| L) E ∧ prR y x g (R ||| L) E ≤ prR y x g R E + prR y x g L E := by
  have h1 := wsum (y := y) (x := x) (g := g) (R := R) E
  have h2 := wsum (y := y) (x := x) (g := g) (R := L) E
  have h3 := wsum (y := y) (x := x) (g := g) (R := R ||| L) E
  have h4 : prR y x g R E + prR y x g L E = smN (fun S => prW y x g S E * (if (subB R S E || subB L S E) = true then 1 else 0)) (2 ^ E) + prR y x g (R ||| L) E := by
    rw [← h1, ← h2, ← h3, ← smN_add, ← smN_add]
    apply smN_congr
    intro S _
    rw [subB_or]
    exact un_sum
  omega
def djB (R g : Nat) : Nat → Bool
  | 0 => true
  | e + 1 => djB R g e && !(R.testBit e && g.testBit e)
def cnB (f : Nat → Bool) : Nat → Nat
  | 0 => 0
  | e + 1 => cnB f e + if f e then 1 else 0
theorem cnB_le {f : Nat → Bool} : ∀ E, cnB f E ≤ E := by
  intro E
  induction E with
  | zero => exact Nat.le_refl _
  | succ E ih => unfold cnB; split <;> omega
theorem cnB_congr {f h : Nat → Bool} : ∀ E, (∀ e, e < E → f e = h e) → cnB f E = cnB h E := by
  intro E
  induction E with
  | zero => intro _; rfl
  | succ E ih => intro he; unfold cnB; rw [ih (fun e h => he e (by omega)), he E (by omega)]
theorem prR_val {y x g R : Nat} (hxy : x + y = 10) : ∀ E, prR y x g R E = (if djB R g E = true then y ^ cnB (fun e => R.testBit e) E * 10 ^ (cnB (fun e => !g.testBit e) E - cnB (fun e => R.testBit e) E) else 0) ∧ (djB R g E = true → cnB (fun e => R.testBit e) E ≤ cnB (fun e => !g.testBit e) E) := by
  intro E
  induction E with
  | zero => exact ⟨rfl, fun _ => Nat.le_refl _⟩
  | succ E ih =>
    obtain ⟨ih1, ih2⟩ := ih
    unfold prR djB cnB wt
    rw [ih1]
    cases hd : djB R g E with
    | false => simp
    | true =>
      have ih3 := ih2 hd
      cases hR : R.testBit E <;> cases hg : g.testBit E
      · simp only [Bool.and_self, Bool.not_false, Bool.and_true, reduceIte, Bool.false_eq_true, Nat.add_zero]
        refine ⟨?_, fun _ => by omega⟩
        rw [show y + x = 10 by omega, show cnB (fun e => !g.testBit e) E + 1 - cnB (fun e => R.testBit e) E = (cnB (fun e => !g.testBit e) E - cnB (fun e => R.testBit e) E) + 1 by omega, Nat.pow_succ 10, Nat.mul_assoc]
      · simp only [Bool.and_self, Bool.and_true, Bool.false_and, Bool.not_false, Bool.not_true, reduceIte, Bool.false_eq_true, Nat.add_zero, Nat.zero_add, Nat.mul_one]
        exact ⟨trivial, fun _ => by omega⟩
      · simp only [Bool.and_false, Bool.not_false, Bool.and_true, reduceIte, Bool.false_eq_true]
        refine ⟨?_, fun _ => by omega⟩
        rw [show cnB (fun e => !g.testBit e) E + 1 - (cnB (fun e => R.testBit e) E + 1) = cnB (fun e => !g.testBit e) E - cnB (fun e => R.testBit e) E by omega, Nat.pow_succ y, Nat.mul_assoc, Nat.mul_comm (10 ^ _) y, ← Nat.mul_assoc]
      · simp
