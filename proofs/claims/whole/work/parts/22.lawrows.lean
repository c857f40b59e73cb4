-- ===== end of PART A; then your names; then what follows =====
/-! THE CLAIM OUT OF ONE WALK OF THE LAW'S BODY. Your part is whole_start (and what it stands on); all else here is the same for every law, but numbers. -/
def R_law : String := "OneWireLaw"
def lw_P (b : Addr) (xs : List Int32) (args : Array Value) (s : State) : Prop := args = #[.ref b] ∧ s.IntsAt b xs ∧ xs.length ≤ 384 ∧ (Jvm.Cond.and given_1 narrow_1).before args s = true
def lw_Q (_ : Array Value) (s : State) (o : Outcome) (t : State) : Prop := o = .returned (some (.int 1)) ∧ Framed s o t [] 600000 7302250
def lw_Z (below : List Frame) (a : Array Value) (s : State) : State → Prop := fun t => ∃ o, t.status = .running ∧ Ended t below o ∧ lw_Q a s o t
/-- the law's own end, with 1 on the stack, nothing written that was there before, its room as the claim has it -/
theorem lw_ret {p : Program} {l : Launch} {e : Env} {s : State} {m : MethodId} {below : List Frame} {meth : Method} {c : Code} {b : Nat} (hx : p.tables.exec = Jvm.exec) (hb : c.code = code) (hr : meth.sig.returnType = ret) (hlocks : meth.locks = false) {pc : Nat} {H : Heap} {ls : Array Slot} (hdg : decode code pc = .ok (.ireturn, 1)) : W p l e room_1 s m #[Value.ref b] below meth c H [] 600000 7302250 (lw_Z below #[Value.ref b] s) (F0 m pc ls [.int 1]) := by
  intro T hT X
  obtain ⟨fs, hret, hrun, hended, hW, hframe⟩ := X.leave (v := some (.int 1)) (hlocks := hlocks) (fun h => by rw [hr] at h; cases h)
  have hmeth' : T.vm.method? m = some meth := X.method'
  refine ⟨T.setFrames fs, ?_, .returned (some (.int 1)), hrun, hended, rfl, ⟨_, rfl⟩, hW, hframe⟩
  jvm_step X.here [X.here.top, hx, hb, hdg, hmeth', hr, ret, narrow_b1]
  (try refine ⟨rfl, ?_⟩); (try refine ⟨rfl, ?_⟩)
  first | (intro acts; rw [hret _ acts rfl rfl rfl]) | rw [hret _ _ rfl rfl rfl]
  exact Steps.refl _
/-- what holds at the law's entry: the machine, the code, the tables' words (any of lw_tbl by 'hts w (by decide +kernel)'), the script of L ints xs at the cell b, what the Statement gives of the start (any of its parts by flat_of_before) -/
def lw_At (p : Program) (s : State) (m : MethodId) (meth : Method) (c : Code) (b L : Nat) (xs : Nat → Int32) : Prop :=
  p.tables.exec = Jvm.exec ∧ c.code = code ∧ meth.sig.returnType = ret ∧ c.maxLocals = 4 ∧ s.vm.findClass R_law = some m.cls ∧ (∀ w ∈ lw_tbl, w.before #[Value.ref b] s = true) ∧ va_X b L xs s s.heap ∧ b < s.heap.size ∧ meth.locks = false ∧ (Jvm.Cond.and given_1 narrow_1).before #[Value.ref b] s = true
def ow_ΓL (l0 : Launch) (b L : Nat) (xs : Nat → Int32) : ow_Cx → Prop := fun
  | (_, l, _, R, s, _, args, below, meth, _, cells, slots, Z, _, ad, _, A) => l = l0 ∧ R = room_1 ∧ cells = 1000 ∧ slots = 100000 ∧ args = #[Value.ref b] ∧ ad 99 = b ∧ va_X b L xs s s.heap ∧ b < s.heap.size ∧ ¬ A b ∧ meth.sig.returnType = ret ∧ Z = lw_Z below #[Value.ref b] s ∧ (∀ q, A q → s.heap.size ≤ q)
theorem ow_rm_law {l0 : Launch} {b L : Nat} {xs : Nat → Int32} {d2 nL2 : Nat} (h : Nat.ble (d2 + 1) 8 = true) (hl : Nat.ble (8 + (nL2 + 11) + 35 * d2) 280 = true) : ow_rmOk (ow_ΓL l0 b L xs) l0 d2 nL2 := by
  intro p l e R s m args below meth c cells slots Z cI ad D A hΓ
  obtain ⟨h1, h2, h3, h4, -⟩ := hΓ
  subst h2; subst h3; subst h4
  exact ⟨h1, Nat.le_of_ble_eq_true h, Nat.le_of_ble_eq_true hl, by decide, by decide⟩
theorem gw_sld {l0 : Launch} {b L : Nat} {xs : Nat → Int32} {own : String} {cc : ByteArray} {nL pc : Nat} {ls : List (Option Value)} {st : List Value} {M : ow_M} {i : Int32} (hd : decode cc pc = .ok (.iaload, 1)) (hi : vp_in i L) (k : ow_G (ow_ΓL l0 b L xs) own cc nL (pc + 1) ls (.int (xs i.toNatClampNeg) :: st) M) : ow_G (ow_ΓL l0 b L xs) own cc nL pc ls (.int i :: .ref 99 :: st) M := by
  intro p l e R s m args below meth c cells slots Z cI ad D A hΓ X H locs lsA hP hD hS hl
  obtain ⟨-, -, -, -, -, had, hX, hbl, hbA, -⟩ := id hΓ
  have kk := (k p l e R s m args below meth c cells slots Z cI ad D A hΓ X H locs lsA hP hD hS hl)
  subst had
  exact va_sld X.1 X.2.1 hX hbl hbA hS hi hd kk
theorem gw_slen {l0 : Launch} {b L : Nat} {xs : Nat → Int32} {own : String} {cc : ByteArray} {nL pc : Nat} {ls : List (Option Value)} {st : List Value} {M : ow_M} (hd : decode cc pc = .ok (.arraylength, 1)) (k : ow_G (ow_ΓL l0 b L xs) own cc nL (pc + 1) ls (.int (Int32.ofNat L) :: st) M) : ow_G (ow_ΓL l0 b L xs) own cc nL pc ls (.ref 99 :: st) M := by
  intro p l e R s m args below meth c cells slots Z cI ad D A hΓ X H locs lsA hP hD hS hl
  obtain ⟨-, -, -, -, -, had, hX, hbl, hbA, -⟩ := id hΓ
  have kk := (k p l e R s m args below meth c cells slots Z cI ad D A hΓ X H locs lsA hP hD hS hl)
  subst had
  exact va_slen X.1 X.2.1 hX hbl hbA hS hd kk
theorem gw_Lret {l0 : Launch} {b L : Nat} {xs : Nat → Int32} {own : String} {nL pc : Nat} {ls : List (Option Value)} {M : ow_M} (hd : decode code pc = .ok (.ireturn, 1)) : ow_G (ow_ΓL l0 b L xs) own code nL pc ls [.int 1] M := by
  intro p l e R s m args below meth c cells slots Z cI ad D A hΓ X H locs lsA hP hD hS hl
  obtain ⟨rfl, rfl, rfl, rfl, rfl, had, hX, hbl, hbA, hr, rfl, hA⟩ := hΓ
  refine va_forget (fun q hq => hA _ (hS.2.2 q hq)) ?_
  refine W.widen (k := 600000) (n := 7302250) (by decide) (by decide) ?_
  exact lw_ret X.1 X.2.1 hr X.2.2.2.2.2.2.2 hd
theorem ow_outN {x : Int32} (n : Nat) (hn : n < 2 ^ 31) (h : ∀ k, k < n → ¬ x = Int32.ofNat k) : x.toInt < 0 ∨ ((n : Int) - 1) < x.toInt := by
  rcases Int.lt_or_le x.toInt 0 with q | q
  · exact Or.inl q
  · rcases Int.lt_or_le ((n : Int) - 1) x.toInt with z | z
    · exact Or.inr z
    · exfalso
      refine h x.toInt.toNat (by omega) ?_
      apply Int32.toInt_inj.mp
      rw [Int32.toInt_ofNat_of_lt (by omega)]
      omega
