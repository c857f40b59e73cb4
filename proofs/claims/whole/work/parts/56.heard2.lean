def gW (n : Nat) (lp : Bool) (g : Nat) : Nat := if lp then g else g ||| 2 ^ (n - 1)
theorem gW_bit {n c g : Nat} {lp : Bool} (hc : c < n) : (gW n lp g).testBit c = !(decide (c < oed n lp) && !g.testBit c) := by
  unfold gW oed
  cases lp with
  | true => simp [hc]
  | false =>
    simp only [Bool.false_eq_true, reduceIte]
    rw [Nat.testBit_or]
    by_cases q : c = n - 1
    · subst q; rw [Nat.testBit_two_pow_self]; simp
    · rw [Nat.testBit_two_pow_of_ne (fun w => q w.symm), decide_eq_true (show c < n - 1 by omega)]; simp
theorem gW_lt {n g : Nat} {lp : Bool} (hn : 2 ≤ n) (hg : g < 2 ^ oed n lp) : gW n lp g < 2 ^ n := by
  unfold gW
  unfold oed at hg
  cases lp with
  | true => exact hg
  | false =>
    simp only [Bool.false_eq_true, reduceIte] at hg ⊢
    have : 2 ^ (n - 1) < 2 ^ n := Nat.pow_lt_pow_right (by decide) (by omega)
    exact Nat.or_lt_two_pow (by omega) this
theorem wr_e {C : ow_M} {n g o : Nat} {lp : Bool} (h : FC C n lp g) (ho : o < n) : ∀ (m f c t : Nat), m + t = n + 1 → c < n → m < f → lpX0_wayRight_5 (nI o) C (fun _ _ => some (-9)) f (nI c) (nI t) = some (e9 (wrN n (gW n lp g) o m c t)) := by
  obtain ⟨h2, h7, hg, hn, hed, hw, -⟩ := id h
  intro m
  induction m with
  | zero =>
    intro f c t hm hc hf
    obtain ⟨f, rfl⟩ : ∃ q, f = q + 1 := ⟨f - 1, by omega⟩
    unfold lpX0_wayRight_5
    rw [hn, if_pos ((nI_ltI (by omega) (by omega)).mpr (by omega))]
    rfl
  | succ m ih =>
    intro f c t hm hc hf
    obtain ⟨f, rfl⟩ : ∃ q, f = q + 1 := ⟨f - 1, by omega⟩
    unfold lpX0_wayRight_5
    rw [hn, if_neg (by rw [nI_ltI (by omega) (by omega)]; omega)]
    have e1 : wrN n (gW n lp g) o (m + 1) c t = if c = o then some t else if (gW n lp g).testBit c then none else wrN n (gW n lp g) o m (ore n c) (t + 1) := rfl
    rw [e1]
    by_cases q : c = o
    · rw [if_pos ((nI_eq (by omega) (by omega)).mpr q), if_pos q]; rfl
    · rw [if_neg (by rw [nI_eq (by omega) (by omega)]; exact q), if_neg q, e_open0 h (by omega), ow_obs, gW_bit hc]
      cases hb : (decide (c < oed n lp) && !g.testBit c) with
      | false => rfl
      | true =>
        rw [if_neg (by decide), e_re hn h7 hc, ow_obs, nI_1, ih f (ore n c) (t + 1) (by omega) (ore_lt (by omega)) (by omega)]
        rfl
theorem wy {C : ow_M} {n g p o : Nat} {lp : Bool} (h : FC C n lp g) (hg : g < 2 ^ oed n lp) (hp : p < n) (ho : o < n) : fX0_wayRight (nI p) (nI o) C = some (e9 (if djB (rmk n p o) (gW n lp g) n = true then some (dst n p o) else none)) := by
  have h7 := h.2.1
  have := wr_e h ho (n + 1) ow_N p 0 (by omega) hp (by unfold ow_N; omega)
  rw [nI_0] at this
  unfold fX0_wayRight
  rw [this, wr_ck n (by omega) p hp o ho _ (gW_lt h.1 hg)]
def awN (y k : Nat) : Nat → Nat → Nat
  | 0, _ => 1
  | m + 1, e => (if k ≤ e then 10 else y) * awN y k m (e + 1)
theorem aw_e {C : ow_M} {E k x : Nat} (hE : C.1 2 1 = nI E) (hE7 : E ≤ 7) (hk : k < 100) (hx : x ≤ 10) (K : Int64 → Int32 → Option Int64) : ∀ (m f e acc : Nat), e + m = E → m < f → lpX7_allWhole_5 (nI k) (nI x) C K f (lN acc) (nI e) = K (lN (acc * awN (10 - x) k m e)) (nI E) := by
  intro m
  induction m with
  | zero =>
    intro f e acc hm hf
    obtain ⟨f, rfl⟩ : ∃ q, f = q + 1 := ⟨f - 1, by omega⟩
    unfold lpX7_allWhole_5
    have : e = E := by omega
    subst this
    rw [hE, if_pos ((nI_leI (by omega) (by omega)).mpr (by omega))]
    show _ = K (lN (acc * 1)) (nI e)
    rw [Nat.mul_one]
  | succ m ih =>
    intro f e acc hm hf
    obtain ⟨f, rfl⟩ : ∃ q, f = q + 1 := ⟨f - 1, by omega⟩
    unfold lpX7_allWhole_5
    have e1 : awN (10 - x) k (m + 1) e = (if k ≤ e then 10 else (10 - x)) * awN (10 - x) k m (e + 1) := rfl
    have l10 : (10 : Int64) = lN 10 := rfl
    rw [hE, if_neg (by rw [nI_leI (by omega) (by omega)]; omega), e1, l_10, pk_sub hx, nI_l (by omega), nI_1, l10, lN_mul, lN_mul]
    by_cases q : k ≤ e
    · rw [if_pos ((nI_leI (by omega) (by omega)).mpr q), if_pos q, ih f (e + 1) _ (by omega) (by omega), Nat.mul_assoc]
    · rw [if_neg (by rw [nI_leI (by omega) (by omega)]; exact q), if_neg q, ih f (e + 1) _ (by omega) (by omega), Nat.mul_assoc]
theorem aw_hi {y k : Nat} : ∀ (m e : Nat), k ≤ e → awN y k m e = 10 ^ m := by
  intro m
  induction m with
  | zero => intro e _; rfl
  | succ m ih => intro e h; unfold awN; rw [if_pos h, ih (e + 1) (by omega), Nat.pow_succ, Nat.mul_comm]
theorem aw_lo {y k r : Nat} : ∀ (j e : Nat), e + j = k → awN y k (j + r) e = y ^ j * 10 ^ r := by
  intro j
  induction j with
  | zero => intro e h; rw [Nat.zero_add, aw_hi r e (by omega), Nat.pow_zero, Nat.one_mul]
  | succ j ih =>
    intro e h
    have e1 : awN y k (j + 1 + r) e = (if k ≤ e then 10 else y) * awN y k (j + r) (e + 1) := by
      rw [show j + 1 + r = (j + r) + 1 by omega]; rfl
    rw [e1, if_neg (by omega), ih (e + 1) (by omega), Nat.pow_succ, ← Nat.mul_assoc, Nat.mul_comm y]
theorem aw {C : ow_M} {E k x : Nat} (hE : C.1 2 1 = nI E) (hE7 : E ≤ 7) (hk : k ≤ E) (hx : x ≤ 10) : fX7_allWhole (nI k) (nI x) C = some (lN ((10 - x) ^ k * 10 ^ (E - k))) := by
  unfold fX7_allWhole
  have := aw_e (k := k) hE hE7 (by omega) hx (fun u3 _ => some u3) E ow_N 0 1 (by omega) (by unfold ow_N; omega)
  have e1 : awN (10 - x) k E 0 = (10 - x) ^ k * 10 ^ (E - k) := by
    have := aw_lo (y := 10 - x) (k := k) (r := E - k) k 0 (by omega)
    rw [show k + (E - k) = E by omega] at this
    exact this
  rw [e1, Nat.one_mul] at this
  exact this
def aVl (y E : Nat) : Option Nat → Nat
  | none => 0
  | some d => y ^ d * 10 ^ (E - d)
theorem rch {C : ow_M} {E x : Nat} (hE : C.1 2 1 = nI E) (hE7 : E ≤ 7) (hx : x ≤ 10) (A B : Option Nat) (hA : ∀ d, A = some d → d ≤ E) (hB : ∀ d, B = some d → d ≤ E) (hAB : ∀ d e, A = some d → B = some e → d + e ≤ E) :
    fX7_reaching (e9 A) (e9 B) (nI x) C = some (lN (aVl (10 - x) E A + aVl (10 - x) E B - aVl (10 - x) E (A.bind fun d => B.bind fun e => some (d + e)))) ∧ aVl (10 - x) E (A.bind fun d => B.bind fun e => some (d + e)) ≤ aVl (10 - x) E A := by
  have z : ∀ d, d ≤ E → ¬ e9 (some d) = -9 := fun d hd w => (nI_m9 (by omega)).mp w
  unfold fX7_reaching jX7_reaching_14
  cases A with
  | none =>
    cases B with
    | none => exact ⟨rfl, Nat.le_refl _⟩
    | some e =>
      have he := hB e rfl
      have e1 : e9 none = -9 := rfl
      rw [e1, if_pos rfl, if_neg (z e he), if_neg (z e he), if_pos rfl]
      show Option.bind (fX7_allWhole (nI e) (nI x) C) _ = _ ∧ _
      rw [aw hE hE7 he hx, ow_obs]
      refine ⟨?_, Nat.le_refl _⟩
      show some (lN ((10 - x) ^ e * 10 ^ (E - e))) = some (lN (0 + (10 - x) ^ e * 10 ^ (E - e) - 0))
      rw [Nat.zero_add, Nat.sub_zero]
  | some d =>
    have hd := hA d rfl
    rw [if_neg (z d hd)]
    cases B with
    | none =>
      have e1 : e9 none = -9 := rfl
      rw [e1, if_pos rfl]
      show Option.bind (fX7_allWhole (nI d) (nI x) C) _ = _ ∧ _
      rw [aw hE hE7 hd hx, ow_obs]
      exact ⟨rfl, Nat.zero_le _⟩
    | some e =>
      have he := hB e rfl
      have hde := hAB d e rfl rfl
      rw [if_neg (z e he), if_neg (z d hd)]
      show Option.bind (fX7_allWhole (nI d) (nI x) C) (fun v5 => Option.bind (fX7_allWhole (nI e) (nI x) C) (fun v7 => Option.bind (fX7_allWhole (nI d + nI e) (nI x) C) (fun v9 => some ((v5 + v7) - v9)))) = _ ∧ _
      rw [nI_add, aw hE hE7 hd hx, ow_obs, aw hE hE7 he hx, ow_obs, aw hE hE7 hde hx, ow_obs, lN_add]
      have le : (10 - x) ^ (d + e) * 10 ^ (E - (d + e)) ≤ (10 - x) ^ d * 10 ^ (E - d) := by
        rw [Nat.pow_add, Nat.mul_assoc, show E - d = e + (E - (d + e)) by omega, Nat.pow_add 10]
        exact Nat.mul_le_mul_left _ (Nat.mul_le_mul_right _ (Nat.pow_le_pow_left (by omega) _))
      refine ⟨?_, le⟩
      rw [lN_sub (by omega)]
      rfl
theorem djB_or {R L g : Nat} : ∀ E, djB (R ||| L) g E = (djB R g E && djB L g E) := by
  intro E
  induction E with
  | zero => rfl
  | succ E ih =>
    unfold djB
    rw [ih, Nat.testBit_or]
    cases djB R g E <;> cases djB L g E <;> cases R.testBit E <;> cases L.testBit E <;> cases g.testBit E <;> rfl
theorem cn_full : ∀ n, n < 8 → cnB (fun e => (2 ^ n - 1).testBit e) n = n := by decide +kernel
def opn (n : Nat) (lp : Bool) (g : Nat) : Nat := cnB (fun e => !(gW n lp g).testBit e) n
theorem opn_E {n g : Nat} {lp : Bool} (h2 : 2 ≤ n) : opn n lp g = cnB (fun e => !g.testBit e) (oed n lp) := by
  unfold opn
  cases lp with
  | true => rfl
  | false =>
    have e1 : oed n false = n - 1 := rfl
    rw [e1]
    obtain ⟨m, rfl⟩ : ∃ m, n = m + 1 := ⟨n - 1, by omega⟩
    have e2 : ∀ f : Nat → Bool, cnB f (m + 1) = cnB f m + if f m then 1 else 0 := fun _ => rfl
    rw [e2, gW_bit (by omega), decide_eq_false (by rw [e1]; omega)]
    simp only [Bool.false_and, Bool.not_false, Bool.not_true, Bool.false_eq_true, reduceIte, Nat.add_zero, Nat.add_sub_cancel]
    apply cnB_congr
    intro e he
    rw [gW_bit (by omega), decide_eq_true (show e < oed (m + 1) false by rw [e1]; omega)]
    simp
theorem opn_le {n g : Nat} {lp : Bool} (h2 : 2 ≤ n) : opn n lp g ≤ oed n lp := by rw [opn_E h2]; exact cnB_le _
theorem aval {n g R x : Nat} {lp : Bool} (h2 : 2 ≤ n) (hx : x ≤ 10) : 10 ^ (oed n lp - opn n lp g) * prR (10 - x) x (gW n lp g) R n = aVl (10 - x) (oed n lp) (if djB R (gW n lp g) n = true then some (cnB (fun e => R.testBit e) n) else none) ∧ (djB R (gW n lp g) n = true → cnB (fun e => R.testBit e) n ≤ opn n lp g) := by
  obtain ⟨p1, p2⟩ := prR_val (y := 10 - x) (x := x) (g := gW n lp g) (R := R) (by omega) n
  have ho := opn_le (lp := lp) (g := g) h2
  refine ⟨?_, p2⟩
  rw [p1]
  cases hd : djB R (gW n lp g) n with
  | false => rfl
  | true =>
    have p3 : cnB (fun e => R.testBit e) n ≤ opn n lp g := p2 hd
    simp only [reduceIte]
    show 10 ^ (oed n lp - opn n lp g) * ((10 - x) ^ cnB (fun e => R.testBit e) n * 10 ^ (opn n lp g - cnB (fun e => R.testBit e) n)) = (10 - x) ^ cnB (fun e => R.testBit e) n * 10 ^ (oed n lp - cnB (fun e => R.testBit e) n)
    rw [← Nat.mul_assoc, Nat.mul_comm (10 ^ _), Nat.mul_assoc, ← Nat.pow_add]
    congr 2
    omega
/-- one who may hear, on both sides -/
def oneV (n : Nat) (lp : Bool) (g x p o : Nat) : Nat := prR (10 - x) x (gW n lp g) (rmk n p o) n + prR (10 - x) x (gW n lp g) (rmk n o p) n - prR (10 - x) x (gW n lp g) (rmk n p o ||| rmk n o p) n
theorem rch1 {C : ow_M} {n g p o x : Nat} {lp : Bool} (h : FC C n lp g) (hg : g < 2 ^ oed n lp) (hp : p < n) (ho : o < n) (hpo : o ≠ p) (hx : x ≤ 10) : ∃ v4 v6, fX0_wayRight (nI p) (nI o) C = some v4 ∧ fX0_wayRight (nI o) (nI p) C = some v6 ∧ fX7_reaching v4 v6 (nI x) C = some (lN (10 ^ (oed n lp - opn n lp g) * oneV n lp g x p o)) ∧ 10 ^ (oed n lp - opn n lp g) * oneV n lp g x p o ≤ 20000000 := by
  obtain ⟨h2, h7, -, hn, hed, hw, -⟩ := id h
  have hE7 := oed_le (lp := lp) h7
  have hoE := opn_le (lp := lp) (g := g) h2
  obtain ⟨a1, a2⟩ := aval (g := g) (R := rmk n p o) (lp := lp) h2 hx
  obtain ⟨b1, b2⟩ := aval (g := g) (R := rmk n o p) (lp := lp) h2 hx
  obtain ⟨c1, c2⟩ := aval (g := g) (R := rmk n p o ||| rmk n o p) (lp := lp) h2 hx
  obtain ⟨u1, u2⟩ := (u_ck n (by omega) p hp o ho).resolve_left (fun w => hpo w.symm)
  rw [d_ck n (by omega) p hp o ho] at a1 a2
  rw [d_ck n (by omega) o ho p hp] at b1 b2
  have cU : cnB (fun e => (rmk n p o ||| rmk n o p).testBit e) n = n := by rw [u1]; exact cn_full n (by omega)
  rw [cU] at c1 c2
  rw [djB_or] at c1 c2
  refine ⟨_, _, wy h hg hp ho, wy h hg ho hp, ?_⟩
  obtain ⟨r1, r2⟩ := rch hed hE7 hx (if djB (rmk n p o) (gW n lp g) n = true then some (dst n p o) else none) (if djB (rmk n o p) (gW n lp g) n = true then some (dst n o p) else none) (fun d hd => by
      cases q : djB (rmk n p o) (gW n lp g) n with
      | false => rw [q] at hd; cases hd
      | true => rw [q] at hd; cases hd; have := a2 q; omega) (fun d hd => by
      cases q : djB (rmk n o p) (gW n lp g) n with
      | false => rw [q] at hd; cases hd
      | true => rw [q] at hd; cases hd; have := b2 q; omega) (fun d e hd he => by
      cases q : djB (rmk n p o) (gW n lp g) n with
      | false => rw [q] at hd; cases hd
      | true =>
        cases q2 : djB (rmk n o p) (gW n lp g) n with
        | false => rw [q2] at he; cases he
        | true =>
          rw [q] at hd; cases hd
          rw [q2] at he; cases he
          have := c2 (by rw [q, q2]; rfl); omega)
  have eU : ((if djB (rmk n p o) (gW n lp g) n = true then some (dst n p o) else none).bind fun d => (if djB (rmk n o p) (gW n lp g) n = true then some (dst n o p) else none).bind fun e => some (d + e)) = (if (djB (rmk n p o) (gW n lp g) n && djB (rmk n o p) (gW n lp g) n) = true then some n else none) := by
    cases djB (rmk n p o) (gW n lp g) n <;> cases djB (rmk n o p) (gW n lp g) n
    · rfl
    · rfl
    · rfl
    · show some (dst n p o + dst n o p) = some n
      rw [u2]
  rw [eU] at r1 r2
  rw [← c1, ← a1, ← b1] at r1
  rw [← c1, ← a1] at r2
  have bd : ∀ q : Option Nat, (∀ d, q = some d → d ≤ oed n lp) → aVl (10 - x) (oed n lp) q ≤ 10000000 := by
    intro q hq
    cases q with
    | none => exact Nat.zero_le _
    | some d =>
      have hd := hq d rfl
      show (10 - x) ^ d * 10 ^ (oed n lp - d) ≤ 10000000
      have t1 : (10 - x) ^ d * 10 ^ (oed n lp - d) ≤ 10 ^ d * 10 ^ (oed n lp - d) := Nat.mul_le_mul_right _ (Nat.pow_le_pow_left (by omega) _)
      rw [← Nat.pow_add, show d + (oed n lp - d) = oed n lp by omega] at t1
      have t2 : 10 ^ oed n lp ≤ 10 ^ 7 := Nat.pow_le_pow_right (by decide) hE7
      omega
  have bA := bd (if djB (rmk n p o) (gW n lp g) n = true then some (dst n p o) else none) (fun d hd => by
      cases q : djB (rmk n p o) (gW n lp g) n with
      | false => rw [q] at hd; cases hd
      | true => rw [q] at hd; cases hd; have := a2 q; omega)
  have bB := bd (if djB (rmk n o p) (gW n lp g) n = true then some (dst n o p) else none) (fun d hd => by
      cases q : djB (rmk n o p) (gW n lp g) n with
      | false => rw [q] at hd; cases hd
      | true => rw [q] at hd; cases hd; have := b2 q; omega)
  rw [← a1] at bA
  rw [← b1] at bB
  unfold oneV
  rw [Nat.mul_sub, Nat.mul_add]
  exact ⟨r1, by omega⟩
def HV (n : Nat) (lp : Bool) (g x p : Nat) : Nat := smN (fun o => if o = p then 0 else oneV n lp g x p o) n
theorem hr_lp {C : ow_M} {n g p x : Nat} {lp : Bool} (h : FC C n lp g) (hg : g < 2 ^ oed n lp) (hp : p < n) (hx : x ≤ 10) (K : Int64 → Int32 → Option Int64) : ∀ (f o : Nat), o ≤ n → n - o < f → lpX7_hearers_5 (nI p) (nI x) C K f (lN (smN (fun o => if o = p then 0 else 10 ^ (oed n lp - opn n lp g) * oneV n lp g x p o) o)) (nI o) = K (lN (smN (fun o => if o = p then 0 else 10 ^ (oed n lp - opn n lp g) * oneV n lp g x p o) n)) (nI n) := by
  obtain ⟨h2, h7, -, hn, hed, hw, -⟩ := id h
  intro f
  induction f with
  | zero => intro o _ h; omega
  | succ f ih =>
    intro o ho hf
    unfold lpX7_hearers_5
    by_cases q : n ≤ o
    · have : o = n := by omega
      subst this
      rw [hn, if_pos ((nI_leI (by omega) (by omega)).mpr q)]
    · rw [hn, if_neg (by rw [nI_leI (by omega) (by omega)]; exact q)]
      have ih2 := ih (o + 1) (by omega) (by omega)
      have e1 : smN (fun o => if o = p then 0 else 10 ^ (oed n lp - opn n lp g) * oneV n lp g x p o) (o + 1) = smN (fun o => if o = p then 0 else 10 ^ (oed n lp - opn n lp g) * oneV n lp g x p o) o + (if o = p then 0 else 10 ^ (oed n lp - opn n lp g) * oneV n lp g x p o) := rfl
      rw [e1] at ih2
      by_cases q2 : o = p
      · rw [if_pos ((nI_eq (by omega) (by omega)).mpr q2), nI_1]
        rw [if_pos q2, Nat.add_zero] at ih2
        exact ih2
      · rw [if_neg (by rw [nI_eq (by omega) (by omega)]; exact q2)]
        obtain ⟨v4, v6, k1, k2, k3, k4⟩ := rch1 h hg hp (show o < n by omega) q2 hx
        rw [k1, ow_obs, k2, ow_obs, k3, ow_obs, lN_add, nI_1]
        rw [if_neg q2] at ih2
        exact ih2
theorem hearers_e {C : ow_M} {n g p x : Nat} {lp : Bool} (h : FC C n lp g) (hg : g < 2 ^ oed n lp) (hp : p < n) (hx : x ≤ 10) : fX7_hearers (nI p) (nI x) C = some (lN (10 ^ (oed n lp - opn n lp g) * HV n lp g x p)) ∧ 10 ^ (oed n lp - opn n lp g) * HV n lp g x p ≤ 140000000 := by
  have h7 := h.2.1
  have e1 : smN (fun o => if o = p then 0 else 10 ^ (oed n lp - opn n lp g) * oneV n lp g x p o) n = 10 ^ (oed n lp - opn n lp g) * HV n lp g x p := by
    unfold HV
    rw [Nat.mul_comm, ← smN_mul]
    apply smN_congr
    intro o _
    by_cases q : o = p
    · rw [if_pos q, if_pos q, Nat.zero_mul]
    · rw [if_neg q, if_neg q, Nat.mul_comm]
  constructor
  · have := hr_lp h hg hp hx (fun u9 _ => some u9) ow_N 0 (by omega) (by unfold ow_N; omega)
    rw [e1] at this
    exact this
  · rw [← e1]
    refine Nat.le_trans (smN_le (c := 20000000) n ?_) (by omega)
    intro o ho
    by_cases q : o = p
    · rw [if_pos q]; omega
    · rw [if_neg q]
      obtain ⟨_, _, _, _, _, k⟩ := rch1 h hg hp ho q hx
      exact k
