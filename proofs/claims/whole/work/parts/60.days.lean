/-! TRADE: the sets of EDGES that one DAY bears -/
def odf (n g s : Nat) : Nat → Nat → Nat → Bool
  | 0, _, _ => true
  | m + 1, busy, e => if s.testBit e then (if g.testBit e then false else if busy.testBit e || busy.testBit (ore n e) then false else odf n g s m (busy ||| (2 ^ e ||| 2 ^ ore n e)) (e + 1)) else odf n g s m busy (e + 1)
def tq (n x e : Nat) : Nat := (uq x e (ore n e) * 2 ^ (2 * e)) ^^^ (uq x e (ore n e) * 2 ^ (2 * ore n e))
def Tt (n x s : Nat) : Nat → Nat → Nat
  | 0, _ => 0
  | m + 1, e => (if s.testBit e then tq n x e else 0) ^^^ Tt n x s m (e + 1)
def aft (n s : Nat) : Nat → Nat → Nat → Nat
  | 0, _, x => x
  | m + 1, e, x => aft n s m (e + 1) (if s.testBit e then sw x e (ore n e) else x)
theorem ore_ne {n e : Nat} (h2 : 2 ≤ n) : e ≠ ore n e := by
  unfold ore; split <;> omega
theorem aft_T {n g s x : Nat} (h2 : 2 ≤ n) : ∀ (m e busy cur : Nat), odf n g s m busy e = true → (∀ i b, b < 2 → busy.testBit i = false → cur.testBit (2 * i + b) = x.testBit (2 * i + b)) → aft n s m e cur = cur ^^^ Tt n x s m e := by
  intro m
  induction m with
  | zero => intro e busy cur _ _; exact (Nat.xor_zero _).symm
  | succ m ih =>
    intro e busy cur ho hb
    have e1 : odf n g s (m + 1) busy e = if s.testBit e then (if g.testBit e then false else if busy.testBit e || busy.testBit (ore n e) then false else odf n g s m (busy ||| (2 ^ e ||| 2 ^ ore n e)) (e + 1)) else odf n g s m busy (e + 1) := rfl
    have e2 : aft n s (m + 1) e cur = aft n s m (e + 1) (if s.testBit e then sw cur e (ore n e) else cur) := rfl
    have e3 : Tt n x s (m + 1) e = (if s.testBit e then tq n x e else 0) ^^^ Tt n x s m (e + 1) := rfl
    rw [e1] at ho
    rw [e2, e3]
    cases hs : s.testBit e with
    | false =>
      rw [hs] at ho
      simp only [Bool.false_eq_true, reduceIte] at ho ⊢
      rw [ih (e + 1) busy cur ho hb, Nat.zero_xor]
    | true =>
      rw [hs] at ho
      simp only [reduceIte] at ho ⊢
      cases hg : g.testBit e with
      | true => rw [hg] at ho; simp at ho
      | false =>
        rw [hg] at ho
        simp only [Bool.false_eq_true, reduceIte] at ho
        cases hq : (busy.testBit e || busy.testBit (ore n e)) with
        | true => rw [hq] at ho; simp at ho
        | false =>
          rw [hq] at ho
          simp only [Bool.false_eq_true, reduceIte] at ho
          rw [Bool.or_eq_false_iff] at hq
          have hne := ore_ne (n := n) (e := e) h2
          have hu : uq cur e (ore n e) = uq x e (ore n e) := by
            apply Nat.eq_of_testBit_eq
            intro b
            rw [uq_bit, uq_bit]
            by_cases q : b < 2
            · rw [hb e b q hq.1, hb (ore n e) b q hq.2]
            · rw [decide_eq_false q]; rfl
          rw [ih (e + 1) _ _ ho (fun i b hb2 hi => by
            rw [Nat.testBit_or, Nat.testBit_or, Bool.or_eq_false_iff, Bool.or_eq_false_iff] at hi
            have n1 : i ≠ e := fun w => by rw [w, Nat.testBit_two_pow_self] at hi; cases hi.2.1
            have n2 : i ≠ ore n e := fun w => by rw [w, Nat.testBit_two_pow_self] at hi; cases hi.2.2
            rw [sw_bit hne hb2]
            unfold swp
            rw [if_neg n1, if_neg n2]
            exact hb i b hb2 hi.1)]
          unfold sw tq
          rw [hu, Nat.xor_assoc cur, Nat.xor_assoc cur]
theorem aft_AW {n x0 s : Nat} (h2 : 2 ≤ n) : ∀ (m e x : Nat), e + m ≤ n → AW n x0 x = true → x < 2 ^ (2 * n) → AW n x0 (aft n s m e x) = true ∧ aft n s m e x < 2 ^ (2 * n) := by
  intro m
  induction m with
  | zero => intro e x _ h1 h3; exact ⟨h1, h3⟩
  | succ m ih =>
    intro e x he h1 h3
    have e2 : aft n s (m + 1) e x = aft n s m (e + 1) (if s.testBit e then sw x e (ore n e) else x) := rfl
    rw [e2]
    cases s.testBit e with
    | false => exact ih (e + 1) x (by omega) h1 h3
    | true =>
      have hr : ore n e < n := ore_lt (by omega)
      exact ih (e + 1) (sw x e (ore n e)) (by omega) (by rw [sw_AW (by omega) hr (ore_ne h2)]; exact h1) (sw_lt h3 (by omega) hr)
def nbq (n E x s : Nat) : Nat := x ^^^ Tt n x s E 0
theorem nbq_aft {n E g x s : Nat} (h2 : 2 ≤ n) (ho : odf n g s E 0 0 = true) : aft n s E 0 x = nbq n E x s := aft_T h2 E 0 0 x ho (fun _ _ _ _ => rfl)
theorem nbq_A {n E g x0 x s : Nat} (h2 : 2 ≤ n) (hE : E ≤ n) (ho : odf n g s E 0 0 = true) (h1 : AW n x0 x = true) (h3 : x < 2 ^ (2 * n)) : AW n x0 (nbq n E x s) = true ∧ nbq n E x s < 2 ^ (2 * n) := by
  rw [← nbq_aft h2 ho]
  exact aft_AW h2 E 0 x (by omega) h1 h3
theorem Tt_lin {n x a b : Nat} : ∀ (m e : Nat), Tt n x (a ^^^ b) m e = Tt n x a m e ^^^ Tt n x b m e := by
  intro m
  induction m with
  | zero => intro e; exact (Nat.xor_zero 0).symm
  | succ m ih =>
    intro e
    show (if (a ^^^ b).testBit e then tq n x e else 0) ^^^ Tt n x (a ^^^ b) m (e + 1) = ((if a.testBit e then tq n x e else 0) ^^^ Tt n x a m (e + 1)) ^^^ ((if b.testBit e then tq n x e else 0) ^^^ Tt n x b m (e + 1))
    rw [ih, Nat.testBit_xor]
    have sh : ∀ p q r t : Nat, (p ^^^ q) ^^^ (r ^^^ t) = (p ^^^ r) ^^^ (q ^^^ t) := by
      intro p q r t
      rw [Nat.xor_assoc, Nat.xor_assoc, ← Nat.xor_assoc q r t, Nat.xor_comm q r, Nat.xor_assoc r q t]
    rw [sh]
    congr 1
    cases a.testBit e <;> cases b.testBit e <;> simp
theorem Tt_one {n x j : Nat} : ∀ (m e : Nat), Tt n x (2 ^ j) m e = if e ≤ j ∧ j < e + m then tq n x j else 0 := by
  intro m
  induction m with
  | zero => intro e; rw [if_neg (by omega)]; rfl
  | succ m ih =>
    intro e
    show (if (2 ^ j).testBit e then tq n x e else 0) ^^^ Tt n x (2 ^ j) m (e + 1) = _
    rw [ih]
    by_cases q : e = j
    · subst q
      rw [Nat.testBit_two_pow_self, if_pos rfl, if_neg (by omega), if_pos (by omega), Nat.xor_zero]
    · rw [Nat.testBit_two_pow_of_ne (fun w => q w.symm), if_neg (by decide), Nat.zero_xor]
      by_cases q2 : e + 1 ≤ j ∧ j < e + 1 + m
      · rw [if_pos q2, if_pos (by omega)]
      · rw [if_neg q2, if_neg (by omega)]
/-! the search, abstractly: the queue, how many are in it, and after how many steps each came -/
abbrev bS := (Nat → Nat) × Nat × (Nat → Option Nat)
def psh (S : bS) (x d : Nat) : bS := if S.2.2 x = none then (fun i => if i = S.2.1 then x else S.1 i, S.2.1 + 1, fun y => if y = x then some d else S.2.2 y) else S
def fdS (ok : Nat → Bool) (nb : Nat → Nat) (d : Nat) : Nat → Nat → bS → bS
  | 0, _, S => S
  | m + 1, s, S => fdS ok nb d m (s + 1) (if ok s then psh S (nb s) d else S)
def gS (N : Nat) (A : Nat → Bool) (S : bS) : Prop := (∀ i, i < S.2.1 → ∃ d, S.2.2 (S.1 i) = some d) ∧ (∀ x d, S.2.2 x = some d → ∃ i, i < S.2.1 ∧ S.1 i = x) ∧ (∀ x d, S.2.2 x = some d → A x = true ∧ x < N) ∧ cnB (fun x => (S.2.2 x).isSome) N = S.2.1
theorem gS_le {N : Nat} {A : Nat → Bool} {S : bS} (hA : cnB A N ≤ 630) (h : gS N A S) : S.2.1 ≤ 630 := by
  obtain ⟨g1, g2, g3, g4⟩ := h
  rw [← g4]
  refine Nat.le_trans (cnB_mono N ?_) hA
  intro i _ hi
  cases hd : S.2.2 i with
  | none => rw [hd] at hi; cases hi
  | some d => exact (g3 i d hd).1
theorem psh_g {N : Nat} {A : Nat → Bool} {S : bS} {x d : Nat} (h : gS N A S) (hx : A x = true) (hN : x < N) : gS N A (psh S x d) := by
  unfold psh
  by_cases q : S.2.2 x = none
  · rw [if_pos q]
    obtain ⟨g1, g2, g3, g4⟩ := h
    refine ⟨?_, ?_, ?_, ?_⟩
    · intro i hi
      show ∃ d_1, (if (if i = S.2.1 then x else S.1 i) = x then some d else S.2.2 (if i = S.2.1 then x else S.1 i)) = some d_1
      by_cases q2 : i = S.2.1
      · rw [if_pos q2, if_pos rfl]; exact ⟨d, rfl⟩
      · rw [if_neg q2]
        by_cases q3 : S.1 i = x
        · rw [if_pos q3]; exact ⟨d, rfl⟩
        · rw [if_neg q3]
          have hi2 : i < S.2.1 + 1 := hi
          exact g1 i (by omega)
    · intro y d2 hy
      have hy2 : (if y = x then some d else S.2.2 y) = some d2 := hy
      show ∃ i, i < S.2.1 + 1 ∧ (if i = S.2.1 then x else S.1 i) = y
      by_cases q3 : y = x
      · exact ⟨S.2.1, by omega, by rw [if_pos rfl, q3]⟩
      · rw [if_neg q3] at hy2
        obtain ⟨i, i1, i2⟩ := g2 y d2 hy2
        exact ⟨i, by omega, by rw [if_neg (by omega), i2]⟩
    · intro y d2 hy
      have hy2 : (if y = x then some d else S.2.2 y) = some d2 := hy
      by_cases q3 : y = x
      · rw [q3]; exact ⟨hx, hN⟩
      · rw [if_neg q3] at hy2; exact g3 y d2 hy2
    · show cnB (fun y => (if y = x then some d else S.2.2 y).isSome) N = S.2.1 + 1
      rw [← g4, ← cnB_up (f := fun y => (S.2.2 y).isSome) hN (by rw [q]; rfl)]
      apply cnB_congr
      intro y _
      by_cases q3 : y = x
      · rw [if_pos q3, if_pos q3]; rfl
      · rw [if_neg q3, if_neg q3]
  · rw [if_neg q]; exact h
theorem psh_lt {N : Nat} {A : Nat → Bool} {S : bS} {x : Nat} (hA : cnB A N ≤ 630) (h : gS N A S) (hx : A x = true) (hN : x < N) (q : S.2.2 x = none) : S.2.1 < 630 := by
  have h1 := gS_le hA (psh_g (d := 0) h hx hN)
  unfold psh at h1
  rw [if_pos q] at h1
  exact h1
/-- what a step adds, it adds behind, at distance d -/
def bE (d : Nat) (S T : bS) : Prop := S.2.1 ≤ T.2.1 ∧ (∀ i, i < S.2.1 → T.1 i = S.1 i) ∧ (∀ x c, S.2.2 x = some c → T.2.2 x = some c) ∧ ∀ i, S.2.1 ≤ i → i < T.2.1 → T.2.2 (T.1 i) = some d
theorem bE_rf {d : Nat} {S : bS} : bE d S S := ⟨Nat.le_refl _, fun _ _ => rfl, fun _ _ h => h, fun i h1 h2 => by omega⟩
theorem bE_tr {d : Nat} {S T U : bS} (h : bE d S T) (h2 : bE d T U) : bE d S U := by
  obtain ⟨a1, a2, a3, a4⟩ := h
  obtain ⟨b1, b2, b3, b4⟩ := h2
  refine ⟨by omega, fun i hi => by rw [b2 i (by omega), a2 i hi], fun x c hx => b3 x c (a3 x c hx), fun i h1 h3 => ?_⟩
  by_cases q : i < T.2.1
  · rw [b2 i q]; exact b3 _ _ (a4 i h1 q)
  · exact b4 i (by omega) h3
theorem psh_E {S : bS} {x d : Nat} : bE d S (psh S x d) := by
  unfold psh
  by_cases q : S.2.2 x = none
  · rw [if_pos q]
    refine ⟨Nat.le_succ _, fun i hi => if_neg (by omega), fun y c hy => ?_, fun i h1 h2 => ?_⟩
    · show (if y = x then some d else S.2.2 y) = some c
      rw [if_neg (fun w => by rw [w, q] at hy; cases hy)]; exact hy
    · have h3 : i < S.2.1 + 1 := h2
      have : i = S.2.1 := by omega
      subst this
      show (if (if S.2.1 = S.2.1 then x else S.1 S.2.1) = x then some d else _) = some d
      rw [if_pos rfl, if_pos rfl]
  · rw [if_neg q]; exact bE_rf
theorem fdS_gE {N : Nat} {A ok : Nat → Bool} {nb : Nat → Nat} {d hi : Nat} (hnb : ∀ s, s < hi → ok s = true → A (nb s) = true ∧ nb s < N) : ∀ (m s : Nat) (S : bS), s + m ≤ hi → gS N A S → gS N A (fdS ok nb d m s S) ∧ bE d S (fdS ok nb d m s S) := by
  intro m
  induction m with
  | zero => intro s S _ h; exact ⟨h, bE_rf⟩
  | succ m ih =>
    intro s S hs h
    have e : fdS ok nb d (m + 1) s S = fdS ok nb d m (s + 1) (if ok s then psh S (nb s) d else S) := rfl
    rw [e]
    cases ho : ok s with
    | false => exact ih (s + 1) S (by omega) h
    | true =>
      obtain ⟨n1, n2⟩ := hnb s (by omega) ho
      obtain ⟨k1, k2⟩ := ih (s + 1) (psh S (nb s) d) (by omega) (psh_g h n1 n2)
      exact ⟨k1, bE_tr psh_E k2⟩
def exA (ok : Nat → Bool) (nb : Nat → Nat → Nat) (E2 : Nat) (S : bS) (k : Nat) : bS := fdS ok (nb (S.1 k)) ((S.2.2 (S.1 k)).getD 0 + 1) (E2 - 1) 1 S
def stq (ok : Nat → Bool) (nb : Nat → Nat → Nat) (E2 : Nat) (S0 : bS) : Nat → bS
  | 0 => S0
  | k + 1 => if k < (stq ok nb E2 S0 k).2.1 then exA ok nb E2 (stq ok nb E2 S0 k) k else stq ok nb E2 S0 k
section
variable {ok : Nat → Bool} {nb : Nat → Nat → Nat} {E2 N : Nat} {S0 : bS} {A : Nat → Bool}
theorem stq_s {k : Nat} (h : k < (stq ok nb E2 S0 k).2.1) : stq ok nb E2 S0 (k + 1) = exA ok nb E2 (stq ok nb E2 S0 k) k := if_pos h
theorem stq_n {k : Nat} (h : ¬ k < (stq ok nb E2 S0 k).2.1) : stq ok nb E2 S0 (k + 1) = stq ok nb E2 S0 k := if_neg h
theorem exA_gE (hE : 0 < E2) (hnb : ∀ x s, A x = true → x < N → s < E2 → ok s = true → A (nb x s) = true ∧ nb x s < N) {S : bS} {k : Nat} (h : gS N A S) (hk : k < S.2.1) : gS N A (exA ok nb E2 S k) ∧ bE ((S.2.2 (S.1 k)).getD 0 + 1) S (exA ok nb E2 S k) := by
  obtain ⟨d, hd⟩ := h.1 k hk
  obtain ⟨a1, a2⟩ := h.2.2.1 _ _ hd
  exact fdS_gE (hi := E2) (fun s hs ho => hnb _ s a1 a2 hs ho) (E2 - 1) 1 S (by omega) h
theorem stq_g (hE : 0 < E2) (hnb : ∀ x s, A x = true → x < N → s < E2 → ok s = true → A (nb x s) = true ∧ nb x s < N) (h0 : gS N A S0) : ∀ k, gS N A (stq ok nb E2 S0 k) := by
  intro k
  induction k with
  | zero => exact h0
  | succ k ih =>
    by_cases q : k < (stq ok nb E2 S0 k).2.1
    · rw [stq_s q]; exact (exA_gE hE hnb ih q).1
    · rw [stq_n q]; exact ih
theorem stq_m (hE : 0 < E2) (hnb : ∀ x s, A x = true → x < N → s < E2 → ok s = true → A (nb x s) = true ∧ nb x s < N) (h0 : gS N A S0) {j : Nat} : ∀ k, j ≤ k → (stq ok nb E2 S0 j).2.1 ≤ (stq ok nb E2 S0 k).2.1 ∧ (∀ i, i < (stq ok nb E2 S0 j).2.1 → (stq ok nb E2 S0 k).1 i = (stq ok nb E2 S0 j).1 i) ∧ ∀ x d, (stq ok nb E2 S0 j).2.2 x = some d → (stq ok nb E2 S0 k).2.2 x = some d := by
  intro k
  induction k with
  | zero =>
    intro h
    have : j = 0 := by omega
    subst this
    exact ⟨Nat.le_refl _, fun _ _ => rfl, fun _ _ h => h⟩
  | succ k ih =>
    intro h
    by_cases q0 : j = k + 1
    · subst q0
      exact ⟨Nat.le_refl _, fun _ _ => rfl, fun _ _ h => h⟩
    · obtain ⟨i1, i2, i3⟩ := ih (by omega)
      by_cases q : k < (stq ok nb E2 S0 k).2.1
      · obtain ⟨-, e1, e2, e3, -⟩ := exA_gE hE hnb (stq_g hE hnb h0 k) q
        rw [stq_s q]
        exact ⟨by omega, fun i hi => by rw [e2 i (by omega), i2 i hi], fun x d hx => e3 x d (i3 x d hx)⟩
      · rw [stq_n q]; exact ⟨i1, i2, i3⟩
theorem stq_stop {m : Nat} (h : (stq ok nb E2 S0 m).2.1 ≤ m) : ∀ i, m ≤ i → stq ok nb E2 S0 i = stq ok nb E2 S0 m := by
  intro i
  induction i with
  | zero => intro hm; have : m = 0 := by omega
            subst this; rfl
  | succ i ih =>
    intro hm
    by_cases q : m = i + 1
    · rw [q]
    · have e := ih (by omega)
      rw [stq_n (by rw [e]; omega), e]
end
