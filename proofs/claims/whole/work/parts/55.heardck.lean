/-! paths along the loop -/
def rmm (n o : Nat) : Nat → Nat → Nat
  | 0, _ => 0
  | m + 1, c => if c = o then 0 else 2 ^ c ||| rmm n o m (ore n c)
def rmk (n p o : Nat) : Nat := rmm n o n p
def dst (n p o : Nat) : Nat := (o + n - p) % n
def wrN (n g o : Nat) : Nat → Nat → Nat → Option Nat
  | 0, _, _ => none
  | m + 1, c, t => if c = o then some t else if g.testBit c then none else wrN n g o m (ore n c) (t + 1)
theorem wr_ck : ∀ n, n < 8 → ∀ p, p < n → ∀ o, o < n → ∀ g, g < 2 ^ n → wrN n g o (n + 1) p 0 = if djB (rmk n p o) g n = true then some (dst n p o) else none := by decide +kernel
theorem d_ck : ∀ n, n < 8 → ∀ p, p < n → ∀ o, o < n → cnB (fun e => (rmk n p o).testBit e) n = dst n p o := by decide +kernel
theorem u_ck : ∀ n, n < 8 → ∀ p, p < n → ∀ o, o < n → p = o ∨ (rmk n p o ||| rmk n o p = 2 ^ n - 1 ∧ dst n p o + dst n o p = n) := by decide +kernel
/-! who is reached -/
def rc19 (n S : Nat) : Nat → Nat → Nat → Nat
  | 0, x3, _ => x3
  | m + 1, x3, e => rc19 n S m (if S.testBit e && (x3.testBit e || x3.testBit (ore n e)) then x3 ||| (2 ^ e ||| 2 ^ ore n e) else x3) (e + 1)
def rc7 (n E S : Nat) : Nat → Nat → Nat
  | 0, x3 => x3
  | m + 1, x3 => rc7 n E S m (rc19 n S E x3 0)
def pcN : Nat → Nat → Nat → Nat
  | 0, a, _ => a
  | m + 1, a, x => if x = 0 then a else pcN m (a + x % 2) (x / 2)
def rcN (n E S p : Nat) : Nat := pcN 8 0 (rc7 n E S n (2 ^ p))
def indN (n S p : Nat) : Nat := smN (fun o => if o = p then 0 else if (subB (rmk n p o) S n || subB (rmk n o p) S n) = true then 1 else 0) n
theorem rc_ck1 : ∀ n, n < 8 → ∀ S, S < 2 ^ n → ∀ p, p < n → rcN n n S p = 1 + indN n S p := by decide +kernel
theorem rc_ck2 : ∀ n, n < 8 → ∀ S, S < 2 ^ (n - 1) → ∀ p, p < n → rcN n (n - 1) S p = 1 + indN n S p := by decide +kernel
