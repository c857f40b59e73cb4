/-! HEARD: the reference -/
theorem and_two1 : ∀ x, x < 128 → ∀ a, a < 7 → ∀ b, b < 7 → ((x &&& (2 ^ a ||| 2 ^ b)) = 0 ↔ (x.testBit a || x.testBit b) = false) := by decide +kernel
theorem ore_7 {n e : Nat} (h7 : n ≤ 7) (he : e < n) : ore n e < 7 := by have := ore_lt (n := n) (e := e) (by omega); omega
theorem m19 {D : ow_M} {n g S : Nat} {lp : Bool} (hD : FD D n lp g) (h2 : 2 ≤ n) (h7 : n ≤ 7) (hS : S < 128) (x4 : Int32) (K : Int32 → Int32 → Option Int32) : ∀ (m f x3 e : Nat), e + m = oed n lp → m < f → x3 < 2 ^ n → lpX8_reached_19 (nI S) x4 D K f (nI x3) (nI e) = K (nI (rc19 n S m x3 e)) (nI (oed n lp)) ∧ rc19 n S m x3 e < 2 ^ n := by
  obtain ⟨b1, b2, b3⟩ := id hD
  have hN := p2_128 h7
  have he8 : fX8_edges D = some (nI (oed n lp)) := e_edges b1 b2 h7 (Or.inr h2)
  have hE7 := oed_le (lp := lp) h7
  intro m
  induction m with
  | zero =>
    intro f x3 e hm hf hx
    obtain ⟨f, rfl⟩ : ∃ q, f = q + 1 := ⟨f - 1, by omega⟩
    have : e = oed n lp := by omega
    subst this
    unfold lpX8_reached_19
    rw [he8, ow_obs, if_pos ((nI_leI (by omega) (by omega)).mpr (Nat.le_refl _))]
    exact ⟨rfl, hx⟩
  | succ m ih =>
    intro f x3 e hm hf hx
    obtain ⟨f, rfl⟩ : ∃ q, f = q + 1 := ⟨f - 1, by omega⟩
    unfold lpX8_reached_19
    have hen : e < n := oed_n (lp := lp) (by omega)
    have e1 : rc19 n S (m + 1) x3 e = rc19 n S m (if S.testBit e && (x3.testBit e || x3.testBit (ore n e)) then x3 ||| (2 ^ e ||| 2 ^ ore n e) else x3) (e + 1) := rfl
    have h0 : ∀ q, nI q ||| 0 = nI q := fun q => by rw [l_0, nx_or, Nat.or_zero]
    have ho := ore_7 h7 hen
    have hbit := bit_e (g := S) (e := e) (by omega) (by omega)
    rw [he8, ow_obs, if_neg (by rw [nI_leI (by omega) (by omega)]; omega), e_fe b1 h7 hen, ow_obs, e1]
    simp only [hbit, bI_1, one_e (show e < 32 by omega), one_e (show ore n e < 32 by omega), nx_or, nx_and, h0, nI_1]
    have z : (nI (x3 &&& (2 ^ e ||| 2 ^ ore n e)) = 0) = ((x3.testBit e || x3.testBit (ore n e)) = false) := by
      rw [l_0]
      exact propext ((nI_eq (Nat.lt_of_le_of_lt Nat.and_le_left (by omega)) (by omega)).trans (and_two1 x3 (by omega) e (by omega) _ ho))
    simp only [z]
    cases hs : S.testBit e with
    | false =>
      simp only [Bool.false_eq_true, reduceIte, Bool.false_and]
      exact ih f x3 (e + 1) (by omega) (by omega) hx
    | true =>
      cases hq : (x3.testBit e || x3.testBit (ore n e)) with
      | false =>
        simp only [Bool.false_eq_true, reduceIte, Bool.and_false]
        exact ih f x3 (e + 1) (by omega) (by omega) hx
      | true =>
        simp only [Bool.true_eq_false, reduceIte, Bool.and_true]
        exact ih f _ (e + 1) (by omega) (by omega) (Nat.or_lt_two_pow hx (Nat.or_lt_two_pow (Nat.pow_lt_pow_right (by decide) hen) (Nat.pow_lt_pow_right (by decide) (ore_lt (by omega)))))
theorem m7 {D : ow_M} {n g S : Nat} {lp : Bool} (hD : FD D n lp g) (h2 : 2 ≤ n) (h7 : n ≤ 7) (hS : S < 128) (K : Int32 → Int32 → Option Int32) : ∀ (m f x3 i : Nat), i + m = n → m < f → x3 < 2 ^ n → lpX8_reached_7 (nI S) D K f (nI x3) (nI i) = K (nI (rc7 n (oed n lp) S m x3)) (nI n) ∧ rc7 n (oed n lp) S m x3 < 2 ^ n := by
  obtain ⟨b1, b2, b3⟩ := id hD
  have hE7 := oed_le (lp := lp) h7
  intro m
  induction m with
  | zero =>
    intro f x3 i hm hf hx
    obtain ⟨f, rfl⟩ : ∃ q, f = q + 1 := ⟨f - 1, by omega⟩
    have : i = n := by omega
    subst this
    unfold lpX8_reached_7
    rw [b1, if_pos ((nI_leI (by omega) (by omega)).mpr (Nat.le_refl _))]
    exact ⟨rfl, hx⟩
  | succ m ih =>
    intro f x3 i hm hf hx
    obtain ⟨f, rfl⟩ : ∃ q, f = q + 1 := ⟨f - 1, by omega⟩
    unfold lpX8_reached_7
    obtain ⟨k1, k2⟩ := m19 hD h2 h7 hS (nI i) (fun u9 u10 => lpX8_reached_7 (nI S) D K f u9 (nI i + 1)) (oed n lp) ow_N x3 0 (by omega) (by unfold ow_N; omega) hx
    rw [nI_0] at k1
    rw [b1, if_neg (by rw [nI_leI (by omega) (by omega)]; omega), k1, nI_1]
    exact ih f _ (i + 1) (by omega) (by omega) k2
theorem m87 {D : ow_M} : ∀ (m f a x : Nat), x < 2 ^ m → m < f → m ≤ 8 → lpX8_reached_87 D (fun u _ => some u) f (nI a) (nI x) = some (nI (pcN m a x)) := by
  intro m
  induction m with
  | zero =>
    intro f a x hx hf _
    obtain ⟨f, rfl⟩ : ∃ q, f = q + 1 := ⟨f - 1, by omega⟩
    have : x = 0 := by omega
    subst this
    unfold lpX8_reached_87
    rw [if_pos (by decide)]
    rfl
  | succ m ih =>
    intro f a x hx hf hm
    obtain ⟨f, rfl⟩ : ∃ q, f = q + 1 := ⟨f - 1, by omega⟩
    have hm2 : 2 ^ (m + 1) ≤ 2 ^ 8 := Nat.pow_le_pow_right (by decide) hm
    have e1 : pcN (m + 1) a x = if x = 0 then a else pcN m (a + x % 2) (x / 2) := rfl
    unfold lpX8_reached_87
    rw [e1]
    by_cases q : x = 0
    · subst q
      rw [if_pos (by decide), if_pos rfl]
    · have sh : nI x >>> ((1 : Int32) &&& 31) = nI (x / 2) := by
        have := shr_e (g := x) (e := 1) (by omega) (by omega)
        rw [Nat.pow_one] at this; exact this
      rw [if_neg (by rw [l_0, nI_leI (by omega) (by omega)]; omega), if_neg q, and1 (by omega), sh, nI_add]
      exact ih f _ _ (by rw [Nat.pow_succ] at hx; omega) (by omega) (by omega)
theorem rc_e {D : ow_M} {n g S p : Nat} {lp : Bool} (hD : FD D n lp g) (h2 : 2 ≤ n) (h7 : n ≤ 7) (hS : S < 128) (hp : p < n) : fX8_reached (nI p) (nI S) D = some (nI (rcN n (oed n lp) S p)) := by
  have hN := p2_128 h7
  have hE7 := oed_le (lp := lp) h7
  unfold fX8_reached rcN
  rw [one_e (by omega)]
  obtain ⟨k1, k2⟩ := m7 hD h2 h7 hS (fun u11 u12 => lpX8_reached_87 D (fun u14 u15 => some u14) ow_N 0 u11) n ow_N (2 ^ p) 0 (by omega) (by unfold ow_N; omega) (Nat.pow_lt_pow_right (by decide) hp)
  rw [nI_0] at k1
  rw [k1]
  have := m87 (D := D) 8 ow_N 0 (rc7 n (oed n lp) S n (2 ^ p)) (by omega) (by unfold ow_N; omega) (by omega)
  rw [nI_0] at this
  exact this
theorem rc_v {n S p : Nat} {lp : Bool} (h2 : 2 ≤ n) (h7 : n ≤ 7) (hS : S < 2 ^ oed n lp) (hp : p < n) : rcN n (oed n lp) S p = 1 + indN n S p := by
  unfold oed at hS ⊢
  cases lp with
  | true => exact rc_ck1 n (by omega) S hS p hp
  | false => exact rc_ck2 n (by omega) S hS p hp
theorem ind_le {n S p : Nat} : indN n S p ≤ n := by
  unfold indN
  refine Nat.le_trans (smN_le (c := 1) n ?_) (by omega)
  intro o _
  split
  · omega
  · split <;> omega
def prM (y x g S : Nat) : Nat → Nat
  | 0 => 1
  | e + 1 => prM y x g S e * (if g.testBit e then 1 else if S.testBit e then y else x)
theorem prM_W {y x g S : Nat} : ∀ E, prW y x g S E = if djB S g E = true then prM y x g S E else 0 := by
  intro E
  induction E with
  | zero => rfl
  | succ E ih =>
    have e1 : djB S g (E + 1) = (djB S g E && !(S.testBit E && g.testBit E)) := rfl
    have e2 : prM y x g S (E + 1) = prM y x g S E * (if g.testBit E then 1 else if S.testBit E then y else x) := rfl
    rw [prW_s, e1, e2, ih]
    unfold wt
    cases djB S g E <;> cases S.testBit E <;> cases g.testBit E <;> simp
theorem djB_iff {S g : Nat} : ∀ E, djB S g E = true ↔ ∀ e, e < E → ¬ (S.testBit e = true ∧ g.testBit e = true) := by
  intro E
  induction E with
  | zero => exact ⟨fun _ e h => by omega, fun _ => rfl⟩
  | succ E ih =>
    have e1 : djB S g (E + 1) = (djB S g E && !(S.testBit E && g.testBit E)) := rfl
    rw [e1, Bool.and_eq_true, ih]
    constructor
    · rintro ⟨h1, h2⟩ e he ⟨h3, h4⟩
      by_cases q : e = E
      · subst q; rw [h3, h4] at h2; cases h2
      · exact h1 e (by omega) ⟨h3, h4⟩
    · intro h
      refine ⟨fun e he => h e (by omega), ?_⟩
      have := h E (by omega)
      revert this
      cases S.testBit E <;> cases g.testBit E <;> simp
theorem dj_and {S g E : Nat} (hg : g < 2 ^ E) : (S &&& g = 0) ↔ djB S g E = true := by
  rw [djB_iff]
  constructor
  · intro h e _ h2
    have := congrArg (fun z => z.testBit e) h
    simp only [Nat.testBit_and, Nat.zero_testBit, h2.1, h2.2] at this
    cases this
  · intro h
    apply Nat.eq_of_testBit_eq
    intro e
    rw [Nat.testBit_and, Nat.zero_testBit]
    by_cases q : e < E
    · have := h e q
      revert this
      cases S.testBit e <;> cases g.testBit e <;> simp
    · rw [Nat.testBit_lt_two_pow (Nat.lt_of_lt_of_le hg (Nat.pow_le_pow_right (by decide) (by omega))), Bool.and_false]
theorem h36 {D : ow_M} {n g S x : Nat} {lp : Bool} (hD : FD D n lp g) (h2 : 2 ≤ n) (h7 : n ≤ 7) (hg : g < 128) (hS : S < 128) (hx : x ≤ 10) (x1 : Int32) (x3 : Int64) (s0 : Nat) (K : Int64 → Int32 → Option Int64) : ∀ (f e : Nat), e ≤ oed n lp → oed n lp - e < f → lpX8_hearing_36 x1 (nI x) x3 (nI S) D K f (lN (s0 * prM (10 - x) x g S e)) (nI e) = K (lN (s0 * prM (10 - x) x g S (oed n lp))) (nI (oed n lp)) := by
  obtain ⟨b1, b2, b3⟩ := id hD
  have he8 : fX8_edges D = some (nI (oed n lp)) := e_edges b1 b2 h7 (Or.inr h2)
  have hE7 := oed_le (lp := lp) h7
  intro f
  induction f with
  | zero => intro e _ h; omega
  | succ f ih =>
    intro e he hf
    unfold lpX8_hearing_36
    by_cases q : oed n lp ≤ e
    · have : e = oed n lp := by omega
      rw [this, he8, ow_obs, if_pos ((nI_leI (by omega) (by omega)).mpr (Nat.le_refl _))]
    · have ih2 := ih (e + 1) (by omega) (by omega)
      have e1 : prM (10 - x) x g S (e + 1) = prM (10 - x) x g S e * (if g.testBit e then 1 else if S.testBit e then 10 - x else x) := rfl
      rw [e1, ← Nat.mul_assoc] at ih2
      have hbit := bit_e (g := S) (e := e) (by omega) (by omega)
      have lone : (1 : Int64) = lN 1 := rfl
      rw [he8, ow_obs, if_neg (by rw [nI_leI (by omega) (by omega)]; exact q)]
      unfold jX8_hearing_64
      simp only [hbit, bI_1, e_open b3 (show g < 2 ^ 31 by omega) (show e < 32 by omega), ow_obs, bI_0, l_10, pk_sub hx, nI_l (show 10 - x < 2 ^ 31 by omega), nI_l (show x < 2 ^ 31 by omega), lone, lN_mul, nI_1]
      cases hs : S.testBit e <;> cases hgb : g.testBit e <;> rw [hs, hgb] at ih2 <;> simpa using ih2
theorem h5 {D : ow_M} {n g x p : Nat} {lp : Bool} (hD : FD D n lp g) (h2 : 2 ≤ n) (h7 : n ≤ 7) (hg : g < 2 ^ oed n lp) (hp : p < n) (hx : x ≤ 10) (K : Int64 → Int32 → Option Int64) : ∀ (f S : Nat), S ≤ 2 ^ oed n lp → 2 ^ oed n lp - S < f → lpX8_hearing_5 (nI p) (nI x) D K f (lN (smN (fun S => prW (10 - x) x g S (oed n lp) * indN n S p) S)) (nI S) = K (lN (smN (fun S => prW (10 - x) x g S (oed n lp) * indN n S p) (2 ^ oed n lp))) (nI (2 ^ oed n lp)) := by
  obtain ⟨b1, b2, b3⟩ := id hD
  have he8 : fX8_edges D = some (nI (oed n lp)) := e_edges b1 b2 h7 (Or.inr h2)
  have hE7 := oed_le (lp := lp) h7
  have hN := p2_128 hE7
  intro f
  induction f with
  | zero => intro S _ h; omega
  | succ f ih =>
    intro S hS hf
    unfold lpX8_hearing_5
    rw [he8, ow_obs, one_e (by omega)]
    by_cases q : 2 ^ oed n lp ≤ S
    · have : S = 2 ^ oed n lp := by omega
      rw [this, if_pos ((nI_leI (by omega) (by omega)).mpr (Nat.le_refl _))]
    · have ih2 := ih (S + 1) (by omega) (by omega)
      have e1 : smN (fun S => prW (10 - x) x g S (oed n lp) * indN n S p) (S + 1) = smN (fun S => prW (10 - x) x g S (oed n lp) * indN n S p) S + prW (10 - x) x g S (oed n lp) * indN n S p := rfl
      rw [e1] at ih2
      have hil := ind_le (n := n) (S := S) (p := p)
      have rc1 : nI (rcN n (oed n lp) S p) - 1 = nI (indN n S p) := by
        rw [rc_v h2 h7 (by omega) hp, l_1, pk_sub (by omega)]
        congr 1; omega
      have run : ∀ s0 : Nat, s0 * prM (10 - x) x g S (oed n lp) = prW (10 - x) x g S (oed n lp) → jX8_hearing_31 (nI p) (nI x) (lN (smN (fun S => prW (10 - x) x g S (oed n lp) * indN n S p) S)) (nI S) (lN s0) (lpX8_hearing_5 (nI p) (nI x) D K f) K D = K (lN (smN (fun S => prW (10 - x) x g S (oed n lp) * indN n S p) (2 ^ oed n lp))) (nI (2 ^ oed n lp)) := by
        intro s0 hs0
        unfold jX8_hearing_31
        have k := h36 (S := S) hD h2 h7 (show g < 128 by omega) (by omega) hx (nI p) (lN (smN (fun S => prW (10 - x) x g S (oed n lp) * indN n S p) S)) s0 (fun u12 u13 => Option.bind (fX8_reached (nI p) (nI S) D) (fun v15 => lpX8_hearing_5 (nI p) (nI x) D K f (lN (smN (fun S => prW (10 - x) x g S (oed n lp) * indN n S p) S) + (u12 * ((v15 - 1)).toInt64)) (nI S + 1))) ow_N 0 (by omega) (by unfold ow_N; omega)
        have e0 : s0 * prM (10 - x) x g S 0 = s0 := Nat.mul_one _
        rw [e0, nI_0, hs0] at k
        refine k.trans ?_
        rw [rc_e hD h2 h7 (by omega) hp, ow_obs, rc1, nI_l (by omega), lN_mul, lN_add, nI_1]
        exact ih2
      rw [if_neg (by rw [nI_leI (by omega) (by omega)]; exact q), b3, nx_and]
      have z : (nI (S &&& g) = 0) ↔ djB S g (oed n lp) = true := by
        rw [l_0, nI_eq (Nat.lt_of_le_of_lt Nat.and_le_left (by omega)) (by omega)]
        exact dj_and hg
      by_cases q2 : djB S g (oed n lp) = true
      · rw [if_pos (z.mpr q2)]
        exact run 1 (by rw [prM_W, if_pos q2, Nat.one_mul])
      · rw [if_neg (fun w => q2 (z.mp w))]
        exact run 0 (by rw [prM_W, if_neg q2, Nat.zero_mul])
/-- the reference's sum is the class's -/
theorem HV_eq {n g x p : Nat} {lp : Bool} (h2 : 2 ≤ n) (hp : p < n) : smN (fun S => prW (10 - x) x g S (oed n lp) * indN n S p) (2 ^ oed n lp) = HV n lp g x p := by
  have ext : smN (fun S => prW (10 - x) x g S (oed n lp) * indN n S p) (2 ^ oed n lp) = smN (fun S => prW (10 - x) x (gW n lp g) S n * indN n S p) (2 ^ n) := by
    cases lp with
    | true => rfl
    | false =>
      obtain ⟨m, rfl⟩ : ∃ m, n = m + 1 := ⟨n - 1, by omega⟩
      have e1 : oed (m + 1) false = m := rfl
      have hb : (gW (m + 1) false g).testBit m = true := by rw [gW_bit (by omega), decide_eq_false (by rw [e1]; omega)]; rfl
      have hlow : ∀ S, prW (10 - x) x (gW (m + 1) false g) S m = prW (10 - x) x g S m := by
        intro S
        apply prW_congr2
        intro e he
        rw [gW_bit (by omega), decide_eq_true (show e < oed (m + 1) false by rw [e1]; exact he)]
        simp
      rw [e1, show 2 ^ (m + 1) = 2 ^ m + 2 ^ m by rw [Nat.pow_succ]; omega, smN_split]
      have z2 : smN (fun i => prW (10 - x) x (gW (m + 1) false g) (2 ^ m + i) (m + 1) * indN (m + 1) (2 ^ m + i) p) (2 ^ m) = 0 := by
        rw [smN_congr (h := fun _ => 0), smN_0]
        intro i hi
        rw [prW_s, hi_bit hi]
        unfold wt
        rw [hb]
        simp
      rw [z2, Nat.add_zero]
      apply smN_congr
      intro S hS
      rw [prW_s, hlow, Nat.testBit_lt_two_pow hS]
      unfold wt
      rw [hb]
      simp
  rw [ext]
  unfold HV indN
  have e2 : smN (fun S => prW (10 - x) x (gW n lp g) S n * smN (fun o => if o = p then 0 else if (subB (rmk n p o) S n || subB (rmk n o p) S n) = true then 1 else 0) n) (2 ^ n) = smN (fun S => smN (fun o => if o = p then 0 else prW (10 - x) x (gW n lp g) S n * (if (subB (rmk n p o) S n || subB (rmk n o p) S n) = true then 1 else 0)) n) (2 ^ n) := by
    apply smN_congr
    intro S _
    rw [Nat.mul_comm, ← smN_mul]
    apply smN_congr
    intro o _
    by_cases q : o = p
    · rw [if_pos q, if_pos q, Nat.zero_mul]
    · rw [if_neg q, if_neg q, Nat.mul_comm]
  rw [e2, smN_swap]
  apply smN_congr
  intro o _
  by_cases q : o = p
  · simp only [if_pos q]; exact smN_0 _
  · simp only [if_neg q]
    exact one_sum.1
theorem hearing_e {D : ow_M} {n g x p : Nat} {lp : Bool} (hD : FD D n lp g) (h2 : 2 ≤ n) (h7 : n ≤ 7) (hg : g < 2 ^ oed n lp) (hp : p < n) (hx : x ≤ 10) : fX8_hearing (nI p) (nI x) D = some (lN (HV n lp g x p)) := by
  have hN := p2_128 (oed_le (lp := lp) h7)
  have := h5 hD h2 h7 hg hp hx (fun u16 _ => some u16) ow_N 0 (by omega) (by unfold ow_N; omega)
  rw [HV_eq h2 hp, nI_0] at this
  exact this
/-! the greatest common divisor -/
theorem lg_0 {b : Nat} (hb : b < 2 ^ 63) : (lg_cmp (lN b) 0 = 0) ↔ b = 0 := by
  have e0 : (0 : Int64) = lN 0 := rfl
  unfold lg_cmp
  rw [e0]
  constructor
  · intro h
    rcases Nat.eq_zero_or_pos b with q | q
    · exact q
    · rw [if_pos (show lN b > lN 0 from (pk_lLT (by omega) hb).mpr q)] at h
      exact absurd h (by decide)
  · intro h
    subst h
    rw [if_neg (show ¬ lN 0 > lN 0 from Int64.lt_irrefl), if_pos rfl]
theorem lg_le {a b : Nat} (ha : a < 2 ^ 63) (hb : b < 2 ^ 63) : (lg_cmp (lN a) (lN b) ≤ 0) ↔ a ≤ b := by
  unfold lg_cmp
  by_cases q : b < a
  · rw [if_pos (show lN a > lN b from (pk_lLT hb ha).mpr q)]
    exact ⟨fun h => absurd h (by decide), fun h => by omega⟩
  · rw [if_neg (fun w => q ((pk_lLT hb ha).mp w))]
    refine ⟨fun _ => by omega, fun _ => ?_⟩
    split <;> decide
theorem gcd_st {a b : Nat} : Nat.gcd b (a % b) = Nat.gcd a b := by rw [Nat.gcd_comm, ← Nat.gcd_rec, Nat.gcd_comm]
theorem gcd_half {a b k : Nat} (h : b ≤ a) (hb : 0 < b) (hk : a * b < 2 ^ (k + 1)) : b * (a % b) < 2 ^ k := by
  have h1 : a % b < b := Nat.mod_lt _ hb
  have h2 : 2 * (a % b) ≤ a := by
    have h3 := Nat.div_add_mod a b
    have h4 : 1 ≤ a / b := (Nat.le_div_iff_mul_le hb).mpr (by omega)
    have h5 : b * 1 ≤ b * (a / b) := Nat.mul_le_mul_left _ h4
    omega
  have h6 : b * (2 * (a % b)) ≤ b * a := Nat.mul_le_mul_left _ h2
  rw [Nat.mul_comm a b, Nat.pow_succ] at hk
  have h7 : b * (2 * (a % b)) = 2 * (b * (a % b)) := by rw [← Nat.mul_assoc, Nat.mul_comm b 2, Nat.mul_assoc]
  omega
theorem cd1 : ∀ (k f a b t : Nat), a * b < 2 ^ k → b ≤ a → a < 2 ^ 63 → t + k < 200 → k < f → lpX7_commonDivisor_9 (fun u4 _ _ => some u4) f (lN a) (lN b) (nI t) = some (lN (Nat.gcd a b)) := by
  intro k
  induction k with
  | zero =>
    intro f a b t hk hab ha ht hf
    obtain ⟨f, rfl⟩ : ∃ q, f = q + 1 := ⟨f - 1, by omega⟩
    have hb : b = 0 := by
      rcases Nat.eq_zero_or_pos b with q | q
      · exact q
      · have := Nat.mul_pos (show 0 < a by omega) q; omega
    subst hb
    unfold lpX7_commonDivisor_9
    rw [if_neg (by rw [l_200, nI_leI (by omega) (by omega)]; omega), if_pos ((lg_0 (by decide)).mpr rfl), Nat.gcd_zero_right]
  | succ k ih =>
    intro f a b t hk hab ha ht hf
    obtain ⟨f, rfl⟩ : ∃ q, f = q + 1 := ⟨f - 1, by omega⟩
    unfold lpX7_commonDivisor_9
    rw [if_neg (by rw [l_200, nI_leI (by omega) (by omega)]; omega)]
    by_cases q : b = 0
    · subst q
      rw [if_pos ((lg_0 (by decide)).mpr rfl), Nat.gcd_zero_right]
    · have e0 : (0 : Int64) = lN 0 := rfl
      rw [if_neg (fun w => q ((lg_0 (by omega)).mp w)), if_neg (by rw [e0, pk_lEQ (by omega) (by omega)]; exact q), pk_lRem ha (by omega) (by omega), nI_1, ih f b (a % b) (t + 1) (gcd_half hab (by omega) hk) (Nat.le_of_lt (Nat.mod_lt _ (by omega))) (by omega) (by omega) (by omega), gcd_st]
theorem cd0 {a b : Nat} (ha : a < 2 ^ 40) (hb0 : 0 < b) (hb : b < 2 ^ 40) : fX7_commonDivisor (lN a) (lN b) = some (lN (Nat.gcd a b)) := by
  unfold fX7_commonDivisor
  have eN : ow_N = 19999 + 1 := rfl
  have e0 : (0 : Int64) = lN 0 := rfl
  rw [eN]
  unfold lpX7_commonDivisor_9
  rw [if_neg (by decide), if_neg (fun w => absurd ((lg_0 (by omega)).mp w) (by omega)), if_neg (by rw [e0, pk_lEQ (by omega) (by omega)]; omega), pk_lRem (by omega) hb0 (by omega), ← gcd_st]
  have h1 : a % b < b := Nat.mod_lt _ hb0
  have h2 : b * (a % b) < 2 ^ 80 := by
    have : b * (a % b) ≤ b * b := Nat.mul_le_mul_left _ (by omega)
    have : b * b < 2 ^ 40 * 2 ^ 40 := Nat.mul_lt_mul_of_lt_of_lt hb hb
    have e : (2 : Nat) ^ 80 = 2 ^ 40 * 2 ^ 40 := by decide
    omega
  exact cd1 80 19999 b (a % b) 1 h2 (by omega) (by omega) (by omega) (by omega)
theorem cm1 {x0 x2 : Int64} {x4 : Int32} (K : Int64 → Option Int64) : ∀ (k f a b : Nat), a * b < 2 ^ k → b ≤ a → a < 2 ^ 63 → k < f → lpX8_inLeastTerms_6 x0 x2 x4 (fun u3 _ => K u3) f (lN a) (lN b) = K (lN (Nat.gcd a b)) := by
  intro k
  induction k with
  | zero =>
    intro f a b hk hab ha hf
    obtain ⟨f, rfl⟩ : ∃ q, f = q + 1 := ⟨f - 1, by omega⟩
    have hb : b = 0 := by
      rcases Nat.eq_zero_or_pos b with q | q
      · exact q
      · have := Nat.mul_pos (show 0 < a by omega) q; omega
    subst hb
    unfold lpX8_inLeastTerms_6
    rw [if_pos ((lg_0 (by decide)).mpr rfl), Nat.gcd_zero_right]
  | succ k ih =>
    intro f a b hk hab ha hf
    obtain ⟨f, rfl⟩ : ∃ q, f = q + 1 := ⟨f - 1, by omega⟩
    unfold lpX8_inLeastTerms_6
    by_cases q : b = 0
    · subst q
      rw [if_pos ((lg_0 (by decide)).mpr rfl), Nat.gcd_zero_right]
    · have e0 : (0 : Int64) = lN 0 := rfl
      rw [if_neg (fun w => q ((lg_0 (by omega)).mp w)), if_neg (by rw [e0, pk_lEQ (by omega) (by omega)]; exact q), pk_lRem ha (by omega) (by omega), ih f b (a % b) (gcd_half hab (by omega) hk) (Nat.le_of_lt (Nat.mod_lt _ (by omega))) (by omega) (by omega), gcd_st]
theorem cm0 {a b : Nat} (x4 : Int32) (ha : a < 2 ^ 40) (hb0 : 0 < b) (hb : b < 2 ^ 40) : fX8_inLeastTerms (lN a) (lN b) x4 = some (lN ((if x4 = 0 then a else b) / Nat.gcd a b)) := by
  unfold fX8_inLeastTerms
  have eN : ow_N = 19999 + 1 := rfl
  have e0 : (0 : Int64) = lN 0 := rfl
  have gp : 0 < Nat.gcd a b := Nat.gcd_pos_of_pos_right _ hb0
  have gl : Nat.gcd a b ≤ b := Nat.gcd_le_right _ hb0
  rw [eN]
  unfold lpX8_inLeastTerms_6
  rw [if_neg (fun w => absurd ((lg_0 (by omega)).mp w) (by omega)), if_neg (by rw [e0, pk_lEQ (by omega) (by omega)]; omega), pk_lRem (by omega) hb0 (by omega)]
  have h1 : a % b < b := Nat.mod_lt _ hb0
  have h2 : b * (a % b) < 2 ^ 80 := by
    have : b * (a % b) ≤ b * b := Nat.mul_le_mul_left _ (by omega)
    have : b * b < 2 ^ 40 * 2 ^ 40 := Nat.mul_lt_mul_of_lt_of_lt hb hb
    have e : (2 : Nat) ^ 80 = 2 ^ 40 * 2 ^ 40 := by decide
    omega
  have k := cm1 (x0 := lN a) (x2 := lN b) (x4 := x4) (fun u3 => (if x4 = 0 then if u3 = 0 then none else some (lN a / u3) else if u3 = 0 then none else some (lN b / u3))) 80 19999 b (a % b) h2 (by omega) (by omega) (by omega)
  refine k.trans ?_
  rw [gcd_st]
  have z : ¬ lN (Nat.gcd a b) = 0 := by rw [e0, pk_lEQ (by omega) (by omega)]; omega
  rw [if_neg z, if_neg z, pk_lDiv (by omega) gp (by omega), pk_lDiv (by omega) gp (by omega)]
  split <;> rfl
