/-! the words that every method takes along -/
def ow_isNest : Cond → Bool
  | .fieldLinkNest .. => true
  | .methodLinkNest .. => true
  | _ => false
def ow_base : List Cond := lw_tbl.filter goodWord
def ow_nest : List Cond := lw_tbl.filter ow_isNest
theorem ow_mb {w : Cond} (i : Nat) (h : lw_tbl[i]? = some w) (g : goodWord w = true) : w ∈ ow_base := List.mem_filter.mpr ⟨List.mem_of_getElem? h, g⟩
theorem ow_mn {w : Cond} (i : Nat) (h : lw_tbl[i]? = some w) (g : ow_isNest w = true) : w ∈ ow_nest := List.mem_filter.mpr ⟨List.mem_of_getElem? h, g⟩
theorem ow_nest_warm {s U : State} (hW : s.WarmedH U.vm) (h : ∀ w ∈ ow_nest, va_Nw w s) : ∀ w ∈ ow_nest, va_Nw w U := by
  intro w hw
  have h1 := (List.mem_filter.mp hw).2
  have h2 := h w hw
  cases w with
  | fieldLinkNest a i b n d hh => exact va_Nw.warmF hW h2
  | methodLinkNest a i x hh => exact va_Nw.warmM hW h2
  | _ => cases h1
theorem ow_nest_same {u U : State} (e : u.vm = U.vm) (h : ∀ w ∈ ow_nest, va_Nw w u) : ∀ w ∈ ow_nest, va_Nw w U := by
  intro w hw
  have h1 := (List.mem_filter.mp hw).2
  have h2 := h w hw
  cases w with
  | fieldLinkNest a i b n d hh => exact va_Nw.same rfl e h2
  | methodLinkNest a i x hh => exact va_Nw.same rfl e h2
  | _ => cases h1
def ow_ws (y : MethodName) (cc : ByteArray) (nL : Nat) (rt : Option FieldType) : List Cond := .code y cc nL rt :: ow_base
/-! the memory: ints (and booleans) by cell and place, longs by cell and place; the shape of the cells is fixed -/
abbrev ow_M : Type := (Nat → Nat → Int32) × (Nat → Nat → Int64)
def ow_up (M : ow_M) (o k : Nat) (v : Int32) : ow_M := (fun a b => if a = o ∧ b = k then v else M.1 a b, M.2)
def ow_upL (M : ow_M) (o k : Nat) (v : Int64) : ow_M := (M.1, fun a b => if a = o ∧ b = k then v else M.2 a b)
abbrev ow_Sh : Type := (Nat × Nat) ⊕ (Nat × List (Option Nat))
def ow_sh : List ow_Sh := [.inr (7, [some 1, some 2, some 8, some 11, some 16, some 19, some 21, none, none]), .inl (3, 4), .inr (0, [none, none, none, some 3, some 4, some 5, some 6, some 7]), .inl (0, 7), .inl (0, 7), .inl (0, 7), .inl (0, 7), .inl (1, 7), .inr (5, [some 9, some 10]), .inl (0, 7), .inl (0, 7), .inr (6, [some 12, some 13, none, some 14, none, some 15]), .inl (2, 256), .inl (0, 630), .inl (0, 128), .inl (0, 128), .inr (2, [some 17, some 18]), .inl (0, 7), .inl (0, 128), .inr (1, [some 20]), .inl (0, 128), .inr (3, [none, some 22, some 23, some 24, some 25]), .inl (0, 8), .inl (0, 8), .inl (0, 8), .inl (0, 8), .inr (4, [none, none, none, some 27]), .inl (0, 50), .inr (4, [none, none, none, some 29]), .inl (0, 50), .inr (4, [none, none, none, some 31]), .inl (0, 50), .inr (4, [none, none, none, some 33]), .inl (0, 50), .inr (8, [none, none, some 35, some 36, some 37, none, none, none, some 38, some 39, some 40, some 41, none, none, none, some 42, some 43, some 44, some 45, some 46, some 47, some 48, some 49, none, some 50, some 51, some 52, none, some 53, some 54, some 55, some 56]), .inl (0, 4), .inl (0, 4), .inl (0, 200), .inl (0, 7), .inl (0, 7), .inl (0, 7), .inl (0, 7), .inl (0, 7), .inl (0, 7), .inl (0, 7), .inl (0, 7), .inl (0, 7), .inl (0, 7), .inl (0, 16384), .inl (0, 16384), .inl (0, 7), .inl (0, 128), .inl (0, 128), .inl (0, 8), .inl (0, 8), .inl (0, 8), .inl (0, 8)]
def ow_v (ad : Nat → Nat) : Value → Value
  | .ref k => .ref (ad k)
  | v => v
def ow_fv (ad : Nat → Nat) (f : Nat → Int32) (j : Nat) : Option Nat → Value
  | none => .int (f j)
  | some r => .ref (ad r)
def ow_fs (ad : Nat → Nat) (f : Nat → Int32) (fs : List (Option Nat)) : List Value := fs.mapIdx (ow_fv ad f)
def ow_arr (cI : Nat → ClassId) (ad : Nat → Nat) (M : ow_M) (k : Nat) (t n : Nat) : ClassId × vp_A := match t with
  | 0 => (cI 0, n, .inl (M.1 k))
  | 1 => (cI 1, n, .inl (M.1 k))
  | 2 => (cI 2, n, .inr (.inl (M.2 k)))
  | _ => (cI 3, n, .inr (.inr (.inr (.inr fun j => some (ad (26 + 2 * j))))))
def ow_e (cI : Nat → ClassId) (ad : Nat → Nat) (M : ow_M) (k : Nat) : ow_Sh → va_E
  | .inl q => .inl (ow_arr cI ad M k q.1 q.2)
  | .inr q => .inr (q.1, ow_fs ad (M.1 k) q.2)
def ow_w (cI : Nat → ClassId) (ad : Nat → Nat) (M : ow_M) : va_W := ow_sh.mapIdx (fun k sh => (ad k, ow_e cI ad M k sh))
theorem ow_w_get {cI : Nat → ClassId} {ad : Nat → Nat} {M : ow_M} {k : Nat} {sh : ow_Sh} (h : ow_sh[k]? = some sh) : (ow_w cI ad M)[k]? = some (ad k, ow_e cI ad M k sh) := by
  unfold ow_w
  rw [List.getElem?_mapIdx, h]
  rfl
theorem ow_w_len (cI : Nat → ClassId) (ad : Nat → Nat) (M : ow_M) : (ow_w cI ad M).length = ow_sh.length := by unfold ow_w; rw [List.length_mapIdx]
theorem ow_w_ext {cI : Nat → ClassId} {ad : Nat → Nat} {M M2 : ow_M} {o : Nat} {sh : ow_Sh} {E : va_E} (h : ow_sh[o]? = some sh) (hE : E = ow_e cI ad M2 o sh) (h1 : ∀ k, k ≠ o → M2.1 k = M.1 k) (h2 : ∀ k, k ≠ o → M2.2 k = M.2 k) : (ow_w cI ad M).set o (ad o, E) = ow_w cI ad M2 := by
  apply List.ext_getElem?
  intro i
  rw [List.getElem?_set]
  by_cases hi : o = i
  · subst hi
    have hlt : o < (ow_w cI ad M).length := by rw [ow_w_len]; exact (List.getElem?_eq_some_iff.mp h).1
    rw [if_pos rfl, if_pos hlt, ow_w_get h, hE]
  · rw [if_neg hi]
    unfold ow_w
    rw [List.getElem?_mapIdx, List.getElem?_mapIdx]
    cases hs : ow_sh[i]? with
    | none => rfl
    | some s1 =>
      have e1 := h1 i (fun q => hi q.symm)
      have e2 := h2 i (fun q => hi q.symm)
      show some (ad i, ow_e cI ad M i s1) = some (ad i, ow_e cI ad M2 i s1)
      cases s1 with
      | inl q => show some (ad i, Sum.inl (ow_arr cI ad M i q.1 q.2)) = some (ad i, Sum.inl (ow_arr cI ad M2 i q.1 q.2)); unfold ow_arr; rw [e1, e2]
      | inr q => show some (ad i, Sum.inr (q.1, ow_fs ad (M.1 i) q.2)) = some (ad i, Sum.inr (q.1, ow_fs ad (M2.1 i) q.2)); rw [e1]
theorem ow_up_ne {M : ow_M} {o j a : Nat} {v : Int32} (h : a ≠ o) : (ow_up M o j v).1 a = M.1 a := by
  funext b
  show (if a = o ∧ b = j then v else M.1 a b) = M.1 a b
  rw [if_neg (fun q => h q.1)]
theorem ow_up_eq {M : ow_M} {o j : Nat} {v : Int32} : (ow_up M o j v).1 o = upd (M.1 o) j v := by
  funext b
  show (if o = o ∧ b = j then v else M.1 o b) = (if b = j then v else M.1 o b)
  by_cases q : b = j
  · rw [if_pos ⟨rfl, q⟩, if_pos q]
  · rw [if_neg (fun z => q z.2), if_neg q]
theorem ow_upL_ne {M : ow_M} {o j a : Nat} {v : Int64} (h : a ≠ o) : (ow_upL M o j v).2 a = M.2 a := by
  funext b
  show (if a = o ∧ b = j then v else M.2 a b) = M.2 a b
  rw [if_neg (fun q => h q.1)]
theorem ow_upL_eq {M : ow_M} {o j : Nat} {v : Int64} : (ow_upL M o j v).2 o = vp_updL (M.2 o) j v := by
  funext b
  show (if o = o ∧ b = j then v else M.2 o b) = (if b = j then v else M.2 o b)
  by_cases q : b = j
  · rw [if_pos ⟨rfl, q⟩, if_pos q]
  · rw [if_neg (fun z => q z.2), if_neg q]
theorem ow_fs_set {ad : Nat → Nat} {f : Nat → Int32} {fs : List (Option Nat)} {k : Nat} {v : Int32} (h : fs[k]? = some none) : (ow_fs ad f fs).set k (.int v) = ow_fs ad (upd f k v) fs := by
  apply List.ext_getElem?
  intro i
  rw [List.getElem?_set]
  unfold ow_fs
  rw [List.getElem?_mapIdx, List.getElem?_mapIdx, List.length_mapIdx]
  have hlt : k < fs.length := (List.getElem?_eq_some_iff.mp h).1
  by_cases hi : k = i
  · subst hi
    rw [if_pos rfl, if_pos hlt, h]
    show some (Value.int v) = some (Value.int (upd f k v k))
    unfold upd
    rw [if_pos rfl]
  · rw [if_neg hi]
    cases hs : fs[i]? with
    | none => rfl
    | some q =>
      cases q with
      | none => show some (Value.int (f i)) = some (Value.int (upd f k v i)); unfold upd; rw [if_neg (fun z => hi z.symm)]
      | some r => rfl
theorem ow_fs_get {ad : Nat → Nat} {f : Nat → Int32} {fs : List (Option Nat)} {k : Nat} {x : Option Nat} (h : fs[k]? = some x) : (ow_fs ad f fs)[k]? = some (ow_fv ad f k x) := by
  unfold ow_fs
  rw [List.getElem?_mapIdx, h]
  rfl
theorem ow_w_put {cI : Nat → ClassId} {ad : Nat → Nat} {M : ow_M} {o ci k : Nat} {fs : List (Option Nat)} {v : Int32} (h : ow_sh[o]? = some (.inr (ci, fs))) (hk : fs[k]? = some none) : (ow_w cI ad M).set o (ad o, .inr (ci, (ow_fs ad (M.1 o) fs).set k (.int v))) = ow_w cI ad (ow_up M o k v) :=
  ow_w_ext h (by show Sum.inr (ci, (ow_fs ad (M.1 o) fs).set k (.int v)) = Sum.inr (ci, ow_fs ad ((ow_up M o k v).1 o) fs); rw [ow_up_eq, ow_fs_set hk]) (fun _ q => ow_up_ne q) (fun _ _ => rfl)
theorem ow_w_putA {cI : Nat → ClassId} {ad : Nat → Nat} {M : ow_M} {o n j : Nat} {v : Int32} (h : ow_sh[o]? = some (.inl (0, n))) : (ow_w cI ad M).set o (ad o, .inl (cI 0, n, .inl (upd (M.1 o) j v))) = ow_w cI ad (ow_up M o j v) :=
  ow_w_ext h (by show Sum.inl (cI 0, n, Sum.inl (upd (M.1 o) j v)) = Sum.inl (cI 0, n, Sum.inl ((ow_up M o j v).1 o)); rw [ow_up_eq]) (fun _ q => ow_up_ne q) (fun _ _ => rfl)
theorem ow_w_putZ {cI : Nat → ClassId} {ad : Nat → Nat} {M : ow_M} {o n j : Nat} {v : Int32} (h : ow_sh[o]? = some (.inl (1, n))) : (ow_w cI ad M).set o (ad o, .inl (cI 1, n, .inl (upd (M.1 o) j v))) = ow_w cI ad (ow_up M o j v) :=
  ow_w_ext h (by show Sum.inl (cI 1, n, Sum.inl (upd (M.1 o) j v)) = Sum.inl (cI 1, n, Sum.inl ((ow_up M o j v).1 o)); rw [ow_up_eq]) (fun _ q => ow_up_ne q) (fun _ _ => rfl)
theorem ow_w_putL {cI : Nat → ClassId} {ad : Nat → Nat} {M : ow_M} {o n j : Nat} {v : Int64} (h : ow_sh[o]? = some (.inl (2, n))) : (ow_w cI ad M).set o (ad o, .inl (cI 2, n, .inr (.inl (vp_updL (M.2 o) j v)))) = ow_w cI ad (ow_upL M o j v) :=
  ow_w_ext h (by show Sum.inl (cI 2, n, Sum.inr (Sum.inl (vp_updL (M.2 o) j v))) = Sum.inl (cI 2, n, Sum.inr (Sum.inl ((ow_upL M o j v).2 o))); rw [ow_upL_eq]) (fun _ _ => rfl) (fun _ q => ow_upL_ne q)
/-! locals -/
def ow_lv (ad : Nat → Nat) : Nat → List (Option Value) → List (Nat × Value)
  | _, [] => []
  | i, none :: t => ow_lv ad (i + 1) t
  | i, some v :: t => (i, ow_v ad v) :: ow_lv ad (i + 1) t
theorem ow_lv_mem {ad : Nat → Nat} : ∀ {ls : List (Option Value)} {j i : Nat} {v : Value}, ls[i]? = some (some v) → (j + i, ow_v ad v) ∈ ow_lv ad j ls := by
  intro ls
  induction ls with
  | nil => intro j i v h; simp at h
  | cons a t ih =>
    intro j i v h
    cases i with
    | zero =>
      simp at h
      subst h
      exact List.mem_cons_self
    | succ i =>
      have h1 : t[i]? = some (some v) := by simpa using h
      have h2 := ih (j := j + 1) h1
      have e : j + 1 + i = j + (i + 1) := by omega
      rw [e] at h2
      cases a with
      | none => exact h2
      | some x => exact List.mem_cons_of_mem _ h2
theorem ow_lv_inv {ad : Nat → Nat} : ∀ {ls : List (Option Value)} {j : Nat} {q : Nat × Value}, q ∈ ow_lv ad j ls → ∃ (i : Nat) (v : Value), q = (j + i, ow_v ad v) ∧ ls[i]? = some (some v) := by
  intro ls
  induction ls with
  | nil => intro j q h; cases h
  | cons a t ih =>
    intro j q h
    have step : q ∈ ow_lv ad (j + 1) t → ∃ (i : Nat) (v : Value), q = (j + i, ow_v ad v) ∧ (a :: t)[i]? = some (some v) := by
      intro hq
      obtain ⟨i, v, h1, h2⟩ := ih hq
      exact ⟨i + 1, v, by rw [h1]; congr 1; omega, by simpa using h2⟩
    cases a with
    | none => exact step h
    | some x =>
      rcases List.mem_cons.mp h with h | h
      · exact ⟨0, x, h, rfl⟩
      · exact step h
theorem ow_has_mono {ls : Array Slot} {n : Nat} {l l' : List (Nat × Value)} (h : lv_has ls n l) (hs : ∀ q ∈ l', q ∈ l) : lv_has ls n l' := ⟨h.1, h.2.1, fun q hq => h.2.2 q (hs q hq)⟩
theorem ow_at {lsA : Array Slot} {nL : Nat} {ad : Nat → Nat} {ls : List (Option Value)} {i : Nat} {v : Value} (hl : lv_has lsA nL (ow_lv ad 0 ls)) (h : ls[i]? = some (some v)) : lsA[i]? = some (.val (ow_v ad v)) := by
  have h1 := hl.2.2 _ (ow_lv_mem (ad := ad) (j := 0) h)
  rw [Nat.zero_add] at h1
  exact h1
theorem ow_v_cat (ad : Nat → Nat) (v : Value) : (ow_v ad v).category = v.category := by cases v <;> rfl
def ow_k1 : Option Value → Bool
  | some v => v.category != 2
  | none => true
def ow_c1 (ls : List (Option Value)) : Nat → Bool
  | 0 => true
  | j + 1 => match ls[j]? with
    | some x => ow_k1 x
    | none => true
theorem ow_c1_spec {ls : List (Option Value)} {i k : Nat} {v : Value} (h : ow_c1 ls i = true) (hk : ls[k]? = some (some v)) (hki : k + 1 = i) : v.category ≠ 2 := by
  subst hki
  unfold ow_c1 at h
  rw [hk] at h
  intro hv
  simp [ow_k1, hv] at h
theorem ow_set1 {ad : Nat → Nat} {ls : List (Option Value)} {i : Nat} {v : Value} (hc : ow_c1 ls i = true) : ∀ q ∈ ow_lv ad 0 (ls.set i (some v)), q ∈ (i, ow_v ad v) :: (ow_lv ad 0 ls).filter (fun q => !(q.1 == i) && !(q.1 + 1 == i && q.2.category == 2)) := by
  intro q hq
  obtain ⟨k, x, rfl, hk⟩ := ow_lv_inv hq
  rw [Nat.zero_add] at *
  rw [List.getElem?_set] at hk
  by_cases hi : i = k
  · subst hi
    rw [if_pos rfl] at hk
    split at hk
    · cases hk; exact List.mem_cons_self
    · cases hk
  · rw [if_neg hi] at hk
    refine List.mem_cons_of_mem _ (List.mem_filter.mpr ⟨?_, ?_⟩)
    · have h1 := ow_lv_mem (ad := ad) (j := 0) hk
      rwa [Nat.zero_add] at h1
    · have h1 : (k == i) = false := by simp; omega
      have h2 : (k + 1 == i && (ow_v ad x).category == 2) = false := by
        rw [ow_v_cat]
        by_cases hki : k + 1 = i
        · have := ow_c1_spec hc hk hki
          simp [this]
        · simp [hki]
      simp only [h1, h2]
      rfl
theorem ow_set2 {ad : Nat → Nat} {ls : List (Option Value)} {i : Nat} {v : Value} (hc : ow_c1 ls i = true) : ∀ q ∈ ow_lv ad 0 ((ls.set i (some v)).set (i + 1) none), q ∈ (i, ow_v ad v) :: (ow_lv ad 0 ls).filter (fun q => !(q.1 == i) && (!(q.1 == i + 1) && !(q.1 + 1 == i && q.2.category == 2))) := by
  intro q hq
  obtain ⟨k, x, rfl, hk⟩ := ow_lv_inv hq
  rw [Nat.zero_add] at *
  rw [List.getElem?_set] at hk
  by_cases hj : i + 1 = k
  · rw [if_pos hj] at hk
    split at hk <;> cases hk
  · rw [if_neg hj, List.getElem?_set] at hk
    by_cases hi : i = k
    · subst hi
      rw [if_pos rfl] at hk
      split at hk
      · cases hk; exact List.mem_cons_self
      · cases hk
    · rw [if_neg hi] at hk
      refine List.mem_cons_of_mem _ (List.mem_filter.mpr ⟨?_, ?_⟩)
      · have h1 := ow_lv_mem (ad := ad) (j := 0) hk
        rwa [Nat.zero_add] at h1
      · have h1 : (k == i) = false := by simp; omega
        have h3 : (k == i + 1) = false := by simp; omega
        have h2 : (k + 1 == i && (ow_v ad x).category == 2) = false := by
          rw [ow_v_cat]
          by_cases hki : k + 1 = i
          · have := ow_c1_spec hc hk hki
            simp [this]
          · simp [hki]
        simp only [h1, h2, h3]
        rfl
/-! the judgement -/
abbrev ow_Cx : Type := Program × Launch × Env × Room × State × MethodId × Array Value × List Frame × Method × Code × Nat × Nat × (State → Prop) × (Nat → ClassId) × (Nat → Nat) × va_G × (Nat → Prop)
def ow_tys (cI : Nat → ClassId) : List (ClassId × FieldType) := [(cI 0, .int), (cI 1, .boolean), (cI 2, .long), (cI 3, .object "OneWire$Sheet")]
def ow_X (own : String) (cc : ByteArray) (nL : Nat) (p : Program) (s : State) (m : MethodId) (args : Array Value) (meth : Method) (c : Code) (cI : Nat → ClassId) (D : va_G) : Prop :=
  p.tables.exec = Jvm.exec ∧ c.code = cc ∧ c.maxLocals = nL ∧ s.vm.findClass own = some m.cls ∧ (∀ w ∈ ow_base, w.before args s = true) ∧ (∀ w ∈ ow_nest, va_Nw w s) ∧ va_K D vwCl (ow_tys cI) s ∧ meth.locks = false
def ow_G (Γ : ow_Cx → Prop) (own : String) (cc : ByteArray) (nL pc : Nat) (ls : List (Option Value)) (st : List Value) (M : ow_M) : Prop :=
  ∀ (p : Program) (l : Launch) (e : Env) (R : Room) (s : State) (m : MethodId) (args : Array Value) (below : List Frame) (meth : Method) (c : Code) (cells slots : Nat) (Z : State → Prop) (cI : Nat → ClassId) (ad : Nat → Nat) (D : va_G) (A : Nat → Prop),
    Γ (p, l, e, R, s, m, args, below, meth, c, cells, slots, Z, cI, ad, D, A) → ow_X own cc nL p s m args meth c cI D →
    ∀ (H : Heap) (locs : List Loc) (lsA : Array Slot), va_P D vwCl (ow_w cI ad M) H → va_D A (ow_w cI ad M) → va_S A s.heap H locs → lv_has lsA nL (ow_lv ad 0 ls) →
    W p l e R s m args below meth c H locs cells slots Z (F0 m pc lsA (st.map (ow_v ad)))
def ow_rm (d : Nat) : Room := { frames := d, cells := 0, slots := 0, locals := 35 * d }
def ow_A (ad : Nat → Nat) : Nat → Prop := fun q => ∃ k, k < ow_sh.length ∧ q = ad k
def ow_Qc (cI : Nat → ClassId) (ad : Nat → Nat) (D : va_G) (Q : Option Value → ow_M → Prop) : Array Value → State → Outcome → State → Prop := fun _ st oc t =>
  ∃ (r : Option Value) (M : ow_M), oc = .returned (r.map (ow_v ad)) ∧ Q r M ∧ va_P D vwCl (ow_w cI ad M) t.heap ∧ va_F (ow_A ad) st t
def ow_Pc (cI : Nat → ClassId) (ad : Nat → Nat) (D : va_G) (As : List Value) (M : ow_M) : Array Value → State → Prop := fun v U =>
  v = (As.map (ow_v ad)).toArray ∧ va_P D vwCl (ow_w cI ad M) U.heap ∧ va_K D vwCl (ow_tys cI) U ∧ va_D (ow_A ad) (ow_w cI ad M) ∧ ∀ w ∈ ow_nest, va_Nw w U
def ow_C (l : Launch) (d : Nat) (y : MethodName) (cc : ByteArray) (nL : Nat) (rt : Option FieldType) (As : List Value) (M : ow_M) (Q : Option Value → ow_M → Prop) : Prop :=
  ∀ (cI : Nat → ClassId) (ad : Nat → Nat) (D : va_G), Met l y (ow_ws y cc nL rt) (ow_rm d) (ow_Pc cI ad D As M) (ow_Qc cI ad D Q) 0 0 (ow_A ad)
def ow_is (rv : Option Value) (Mf : ow_M) : Option Value → ow_M → Prop := fun r M => r = rv ∧ M = Mf
abbrev ow_F (l : Launch) (d : Nat) (y : MethodName) (cc : ByteArray) (nL : Nat) (rt : Option FieldType) (As : List Value) (M : ow_M) (rv : Option Value) (Mf : ow_M) : Prop := ow_C l d y cc nL rt As M (ow_is rv Mf)
def ow_Γ (l0 : Launch) (d : Nat) (rt : Option FieldType) (Q : Option Value → ow_M → Prop) : ow_Cx → Prop := fun
  | (_, l, _, R, s, _, args, below, meth, _, cells, slots, Z, cI, ad, D, A) => l = l0 ∧ R = ow_rm d ∧ cells = 0 ∧ slots = 0 ∧ meth.sig.returnType = rt ∧ Z = MQ below (ow_Qc cI ad D Q) args s 0 0 (ow_A ad) ∧ A = ow_A ad
def ow_ent (nL : Nat) (As : List Value) : List (Option Value) := (As.flatMap fun v => if v.category = 2 then [some v, none] else [some v]) ++ List.replicate (nL - (lg_sl As).length) none
theorem ow_A_w {cI : Nat → ClassId} {ad : Nat → Nat} {M : ow_M} {A : Nat → Prop} (h : va_D A (ow_w cI ad M)) : ∀ q, ow_A ad q → A q := by
  rintro q ⟨k, hk, rfl⟩
  have h1 : ow_sh[k]? = some ow_sh[k] := List.getElem?_eq_getElem hk
  exact h.2 k _ (ow_w_get h1)
theorem ow_D_any {cI : Nat → ClassId} {ad : Nat → Nat} {M M2 : ow_M} {A : Nat → Prop} (h : va_D A (ow_w cI ad M)) : va_D A (ow_w cI ad M2) := by
  have key : ∀ (i : Nat) (q : Nat × va_E), (ow_w cI ad M2)[i]? = some q → ∃ q', (ow_w cI ad M)[i]? = some q' ∧ q'.1 = q.1 := by
    intro i q hq
    unfold ow_w at hq ⊢
    rw [List.getElem?_mapIdx] at hq ⊢
    cases hs : ow_sh[i]? with
    | none => rw [hs] at hq; cases hq
    | some x =>
      rw [hs] at hq
      cases hq
      exact ⟨_, rfl, rfl⟩
  refine ⟨fun i j p q hp hq hpq => ?_, fun k q hq => ?_⟩
  · obtain ⟨p', h1, h2⟩ := key i p hp
    obtain ⟨q', h3, h4⟩ := key j q hq
    exact h.1 i j p' q' h1 h3 (by rw [h2, h4]; exact hpq)
  · obtain ⟨q', h1, h2⟩ := key k q hq
    rw [← h2]
    exact h.2 k q' h1
theorem ow_D_self {cI : Nat → ClassId} {ad : Nat → Nat} {M : ow_M} {A : Nat → Prop} (h : va_D A (ow_w cI ad M)) : va_D (ow_A ad) (ow_w cI ad M) := by
  refine ⟨h.1, fun k q hq => ?_⟩
  unfold ow_w at hq
  rw [List.getElem?_mapIdx] at hq
  cases hs : ow_sh[k]? with
  | none => rw [hs] at hq; cases hq
  | some x =>
    rw [hs] at hq
    cases hq
    exact ⟨k, (List.getElem?_eq_some_iff.mp hs).1, rfl⟩
theorem ow_lv_args (ad : Nat → Nat) : ∀ (As : List Value) (j : Nat) (t : List (Option Value)), (∀ x ∈ t, x = none) → ow_lv ad j ((As.flatMap fun v => if v.category = 2 then [some v, none] else [some v]) ++ t) = lv_args j (As.map (ow_v ad)) := by
  intro As
  induction As with
  | nil =>
    intro j t ht
    induction t generalizing j with
    | nil => rfl
    | cons a t ih =>
      have := ht a List.mem_cons_self
      subst this
      exact ih (j + 1) (fun x hx => ht x (List.mem_cons_of_mem _ hx))
  | cons v As ih =>
    intro j t ht
    show ow_lv ad j (((if v.category = 2 then [some v, none] else [some v]) ++ _) ++ t) = (j, ow_v ad v) :: lv_args (if (ow_v ad v).category = 2 then j + 2 else j + 1) (As.map (ow_v ad))
    rw [ow_v_cat]
    by_cases hc : v.category = 2
    · rw [if_pos hc, if_pos hc]
      show (j, ow_v ad v) :: ow_lv ad (j + 1 + 1) _ = _
      rw [← ih (j + 2) t ht]
    · rw [if_neg hc, if_neg hc]
      show (j, ow_v ad v) :: ow_lv ad (j + 1) _ = _
      rw [← ih (j + 1) t ht]
theorem ow_sl_len (ad : Nat → Nat) : ∀ As : List Value, (lg_sl (As.map (ow_v ad))).length = (lg_sl As).length := by
  intro As
  induction As with
  | nil => rfl
  | cons v As ih =>
    have h1 : ∀ (x : Value) (xs : List Value), (lg_sl (x :: xs)).length = (if x.category = 2 then 2 else 1) + (lg_sl xs).length := by
      intro x xs
      show ((if x.category = 2 then [Slot.val x, Slot.second] else [Slot.val x]) ++ lg_sl xs).length = _
      rw [List.length_append]
      split <;> rfl
    show (lg_sl (ow_v ad v :: As.map (ow_v ad))).length = _
    rw [h1, h1, ih, ow_v_cat]
theorem ow_enter {l : Launch} {d : Nat} {y : MethodName} {cc : ByteArray} {nL : Nat} {rt : Option FieldType} {As : List Value} {M : ow_M} {Q : Option Value → ow_M → Prop} {ls : List (Option Value)} (hy : plainName y.cls = true) (hn : (lg_sl As).length ≤ nL) (hls : ow_ent nL As = ls) (k : ow_G (ow_Γ l d rt Q) y.cls cc nL 0 ls [] M) : ow_C l d y cc nL rt As M Q := by
  intro cI ad D
  refine Met.ofW (cc := cc) (maxL := nL) (ret := rt) hy rfl ?_
  intro p e s m args below meth c s₁ B hml hv
  obtain ⟨rfl, hP, hK, hD, hN⟩ := hv
  have hts := atoms_spec (ws := ow_ws y cc nL rt) B.pre
  have hown : s.vm.findClass y.cls = some m.cls := findClass_of_methodNamed B.named
  have hl := lv_entry (As.map (ow_v ad)) (n := nL) (by rw [ow_sl_len]; exact hn)
  rw [lg_entry_eq]
  refine k p l e _ s m _ below meth c 0 0 _ cI ad D (ow_A ad) ⟨rfl, rfl, rfl, rfl, B.returns, rfl, rfl⟩ ⟨B.exec, B.bytes, hml, hown, fun w hw => hts w (List.mem_cons_of_mem _ hw), hN, hK, B.notSynchronized⟩ s.heap [] _ hP hD va_S.rf ?_
  subst hls
  unfold ow_ent
  rw [ow_lv_args ad As 0 _ (fun x hx => (List.mem_replicate.mp hx).2)]
  exact hl
/-! calls -/
theorem ow_blind {cI : Nat → ClassId} {ad : Nat → Nat} {D : va_G} {As : List Value} {M : ow_M} : FrameBlind (ow_Pc cI ad D As M) := by
  intro a U g mk h
  obtain ⟨h1, h2, h3, h4, h5⟩ := h
  exact ⟨h1, h2, va_K.moved (u := U) (U := U.calling g mk a) (Vm.Alike.refl U.vm) h3, h4, ow_nest_same (u := U) rfl h5⟩
theorem ow_pre {cI : Nat → ClassId} {ad : Nat → Nat} {D : va_G} {As : List Value} {M : ow_M} {s : State} {H : Heap} {A : Nat → Prop} (hP : va_P D vwCl (ow_w cI ad M) H) (hD : va_D A (ow_w cI ad M)) (hK : va_K D vwCl (ow_tys cI) s) (hN : ∀ w ∈ ow_nest, va_Nw w s) : ∀ U : State, U.heap = H → s.WarmedH U.vm → ow_Pc cI ad D As M (As.map (ow_v ad)).toArray U :=
  fun U hU hW => ⟨rfl, by rw [hU]; exact hP, va_K.moved hW.alike hK, ow_D_self hD, ow_nest_warm hW hN⟩
theorem ow_after {p : Program} {l : Launch} {e : Env} {R : Room} {s : State} {m : MethodId} {args : Array Value} {below : List Frame} {meth : Method} {c : Code} {H : Heap} {locs : List Loc} {cells slots : Nat} {Z : State → Prop} {cI : Nat → ClassId} {ad : Nat → Nat} {D : va_G} {A : Nat → Prop} {pc : Nat} {lsA : Array Slot} {st0 rest : List Value} {a : Array Value} {Q : Option Value → ow_M → Prop}
    (hr : va_Run p l e R s m args below meth c H locs cells slots 0 0 (F0 m pc lsA st0) rest (ow_Qc cI ad D Q a) (ow_A ad)) (hS : va_S A s.heap H locs) (hA : ∀ q, ow_A ad q → A q)
    (kk : ∀ (r : Option Value) (M : ow_M) (H1 : Heap) (locs1 : List Loc), Q r M → va_P D vwCl (ow_w cI ad M) H1 → va_S A s.heap H1 locs1 → W p l e R s m args below meth c H1 locs1 cells slots Z (F0 m (pc + 3) lsA ((r.map (ow_v ad)).toList ++ rest))) : W p l e R s m args below meth c H locs cells slots Z (F0 m pc lsA st0) := by
  intro T hT X
  obtain ⟨v, st₀, t, T', L, h0, X', hL, e1, e2, ⟨r, M, hv, hq, hp, hz, hk⟩, st⟩ := hr T hT X
  have hv := Outcome.returned.inj hv
  subst hv
  rw [h0] at hz hk
  obtain ⟨t2, a1, b1⟩ := kk r M T'.heap (locs ++ L) hq (by rw [e1]; exact hp)
    ⟨Nat.le_trans hS.1 (by rw [e1]; exact hz), fun q h1 h2 => by rw [e1, hk q (Nat.lt_of_lt_of_le h1 hS.1) (fun z => h2 (hA q z))]; exact hS.2.1 q h1 h2, fun q hq => by
      rcases List.mem_append.mp hq with h | h
      · exact hS.2.2 q h
      · exact hA _ (hL q h)⟩ T' rfl X'
  exact ⟨t2, st t2 a1, b1⟩
/-- what the tables say of a method that is called: its code, its class, how it is called, how many values it takes -/
def ow_okM (y : MethodName) (cc : ByteArray) (nL : Nat) (rt : Option FieldType) (stat : Bool) (n : Nat) : Prop :=
  Cond.code y cc nL rt ∈ ow_base ∧ Cond.initialized y.cls ∈ ow_base ∧ (y.cls ≠ "java/lang/invoke/MethodHandle" ∧ y.cls ≠ "java/lang/invoke/VarHandle") ∧ (parseMethodDescriptor y.desc).map (fun d => d.parameters.length) = some n ∧ (match stat with | true => Cond.static y ∈ ow_base | false => Cond.instanceMethod y ∈ ow_base ∧ Cond.selects y.cls y y ∈ ow_base)
def ow_lk (own : String) (idx : Nat) (y : MethodName) : Prop := Cond.methodLink own idx y ∈ ow_base ∨ ∃ host, Cond.methodLinkNest own idx y host ∈ ow_nest
def ow_rmOk (Γ : ow_Cx → Prop) (l0 : Launch) (d nL : Nat) : Prop := ∀ (p : Program) (l : Launch) (e : Env) (R : Room) (s : State) (m : MethodId) (args : Array Value) (below : List Frame) (meth : Method) (c : Code) (cells slots : Nat) (Z : State → Prop) (cI : Nat → ClassId) (ad : Nat → Nat) (D : va_G) (A : Nat → Prop),
    Γ (p, l, e, R, s, m, args, below, meth, c, cells, slots, Z, cI, ad, D, A) → l = l0 ∧ d + 1 ≤ R.frames ∧ 8 + (nL + 11) + 35 * d ≤ R.locals ∧ cells ≤ R.cells ∧ slots ≤ R.slots
theorem ow_rm_in {l0 : Launch} {d d2 nL2 : Nat} {rt : Option FieldType} {Q : Option Value → ow_M → Prop} (h : Nat.ble (d2 + 1) d = true) (hl : Nat.ble nL2 16 = true) : ow_rmOk (ow_Γ l0 d rt Q) l0 d2 nL2 := by
  intro p l e R s m args below meth c cells slots Z cI ad D A hΓ
  obtain ⟨h1, h2, h3, h4, -⟩ := hΓ
  subst h2; subst h3; subst h4
  have a := Nat.le_of_ble_eq_true h
  have b := Nat.le_of_ble_eq_true hl
  exact ⟨h1, a, by show 8 + (nL2 + 11) + 35 * d2 ≤ 35 * d; omega, Nat.le_refl _, Nat.le_refl _⟩
theorem ow_good {y : MethodName} {cc : ByteArray} {nL : Nat} {rt : Option FieldType} (h : Cond.code y cc nL rt ∈ ow_base) : GoodIn ow_base (ow_ws y cc nL rt) := by
  intro w hw
  have h1 : w ∈ ow_base := by
    rcases List.mem_cons.mp hw with e | e
    · rw [e]; exact h
    · exact e
  exact ⟨h1, good_of_word (List.mem_filter.mp h1).2⟩
theorem ow_rest {ad : Nat → Nat} {st : List Value} (h : (st.map fun v => v.category).sum ≤ 8) : ((st.map (ow_v ad)).map fun v => v.category).sum ≤ 8 := by
  rw [List.map_map]
  have e : ((fun v : Value => v.category) ∘ ow_v ad) = fun v => v.category := funext fun v => ow_v_cat ad v
  rw [e]
  exact h
theorem ow_cw {R : Room} {s : State} {args : Array Value} {own : String} {idx : Nat} {y : MethodName} {cc : ByteArray} {nL : Nat} {rt : Option FieldType} {stat : Bool} {n d : Nat} (hts : ∀ w ∈ ow_base, w.before args s = true) (ok : ow_okM y cc nL rt stat n) (hl : Cond.methodLink own idx y ∈ ow_base) (h1 : d + 1 ≤ R.frames) (h2 : 8 + (nL + 11) + 35 * d ≤ R.locals) : CallB R s args own idx y cc nL rt (ow_ws y cc nL rt) (ow_rm d) 0 0 n :=
  callB_of n hts (ow_good ok.1) rfl rfl rfl (hts _ ok.2.1) (hts _ hl) ⟨ok.2.2.1.1, ok.2.2.1.2, ok.2.2.2.1⟩ ⟨h1, h2⟩
theorem ow_cn {R : Room} {s : State} {args : Array Value} {own host : String} {idx : Nat} {y : MethodName} {cc : ByteArray} {nL : Nat} {rt : Option FieldType} {stat : Bool} {n d : Nat} (hts : ∀ w ∈ ow_base, w.before args s = true) (hN : ∀ w ∈ ow_nest, va_Nw w s) (ok : ow_okM y cc nL rt stat n) (hl : Cond.methodLinkNest own idx y host ∈ ow_nest) (h1 : d + 1 ≤ R.frames) (h2 : 8 + (nL + 11) + 35 * d ≤ R.locals) : va_CN R s args own idx y host cc nL rt (ow_ws y cc nL rt) (ow_rm d) 0 0 n :=
  va_cnB n hts (ow_good ok.1) rfl rfl rfl (hN _ hl) (hts _ ok.2.1) ⟨ok.2.2.1.1, ok.2.2.1.2, ok.2.2.2.1⟩ ⟨h1, h2⟩

/-! a row an instruction -/
theorem gw_iconst {Γ : ow_Cx → Prop} {own : String} {cc : ByteArray} {nL pc : Nat} {ls : List (Option Value)} {st : List Value} {M : ow_M} {n : Int} (v : Int32) (hd : decode cc pc = .ok (.iconst n, 1)) (hv : Int32.ofInt n = v) (k : ow_G Γ own cc nL (pc + 1) ls (.int v :: st) M) : ow_G Γ own cc nL pc ls st M := by
  intro p l e R s m args below meth c cells slots Z cI ad D A hΓ X H locs lsA hP hD hS hl
  exact lv_iconst X.1 X.2.1 hd hv (k p l e R s m args below meth c cells slots Z cI ad D A hΓ X H locs lsA hP hD hS hl)
theorem gw_bipush {Γ : ow_Cx → Prop} {own : String} {cc : ByteArray} {nL pc : Nat} {ls : List (Option Value)} {st : List Value} {M : ow_M} {n : Int} (v : Int32) (hd : decode cc pc = .ok (.bipush n, 2)) (hv : (Int8.ofInt n).toInt32 = v) (k : ow_G Γ own cc nL (pc + 2) ls (.int v :: st) M) : ow_G Γ own cc nL pc ls st M := by
  intro p l e R s m args below meth c cells slots Z cI ad D A hΓ X H locs lsA hP hD hS hl
  exact lv_bipush X.1 X.2.1 hd hv (k p l e R s m args below meth c cells slots Z cI ad D A hΓ X H locs lsA hP hD hS hl)
theorem gw_sipush {Γ : ow_Cx → Prop} {own : String} {cc : ByteArray} {nL pc : Nat} {ls : List (Option Value)} {st : List Value} {M : ow_M} {n : Int} (v : Int32) (hd : decode cc pc = .ok (.sipush n, 3)) (hv : (Int16.ofInt n).toInt32 = v) (k : ow_G Γ own cc nL (pc + 3) ls (.int v :: st) M) : ow_G Γ own cc nL pc ls st M := by
  intro p l e R s m args below meth c cells slots Z cI ad D A hΓ X H locs lsA hP hD hS hl
  exact lv_sipush X.1 X.2.1 hd hv (k p l e R s m args below meth c cells slots Z cI ad D A hΓ X H locs lsA hP hD hS hl)
theorem gw_lconst {Γ : ow_Cx → Prop} {own : String} {cc : ByteArray} {nL pc : Nat} {ls : List (Option Value)} {st : List Value} {M : ow_M} {n : Fin 2} (v : Int64) (hd : decode cc pc = .ok (.lconst n, 1)) (hv : Int64.ofNat (n : Nat) = v) (k : ow_G Γ own cc nL (pc + 1) ls (.long v :: st) M) : ow_G Γ own cc nL pc ls st M := by
  intro p l e R s m args below meth c cells slots Z cI ad D A hΓ X H locs lsA hP hD hS hl
  exact lv_lconst X.1 X.2.1 hd hv (k p l e R s m args below meth c cells slots Z cI ad D A hΓ X H locs lsA hP hD hS hl)
theorem gw_ldc2 {Γ : ow_Cx → Prop} {own : String} {cc : ByteArray} {nL pc : Nat} {ls : List (Option Value)} {st : List Value} {M : ow_M} {n : Nat} {v : Int64} (hw : Cond.constantLong own n v ∈ ow_base) (hd : decode cc pc = .ok (.ldc2_w n, 3)) (k : ow_G Γ own cc nL (pc + 3) ls (.long v :: st) M) : ow_G Γ own cc nL pc ls st M := by
  intro p l e R s m args below meth c cells slots Z cI ad D A hΓ X H locs lsA hP hD hS hl
  exact W.ldc2 X.1 X.2.1 X.2.2.2.1 (X.2.2.2.2.1 _ hw) rfl hd (k p l e R s m args below meth c cells slots Z cI ad D A hΓ X H locs lsA hP hD hS hl)
theorem gw_iadd {Γ : ow_Cx → Prop} {own : String} {cc : ByteArray} {nL pc : Nat} {ls : List (Option Value)} {st : List Value} {M : ow_M} {x y : Int32} (hd : decode cc pc = .ok (.iadd, 1)) (k : ow_G Γ own cc nL (pc + 1) ls (.int (x + y) :: st) M) : ow_G Γ own cc nL pc ls (.int y :: .int x :: st) M := by
  intro p l e R s m args below meth c cells slots Z cI ad D A hΓ X H locs lsA hP hD hS hl
  exact lv_iadd X.1 X.2.1 hd (k p l e R s m args below meth c cells slots Z cI ad D A hΓ X H locs lsA hP hD hS hl)
theorem gw_isub {Γ : ow_Cx → Prop} {own : String} {cc : ByteArray} {nL pc : Nat} {ls : List (Option Value)} {st : List Value} {M : ow_M} {x y : Int32} (hd : decode cc pc = .ok (.isub, 1)) (k : ow_G Γ own cc nL (pc + 1) ls (.int (x - y) :: st) M) : ow_G Γ own cc nL pc ls (.int y :: .int x :: st) M := by
  intro p l e R s m args below meth c cells slots Z cI ad D A hΓ X H locs lsA hP hD hS hl
  exact lv_isub X.1 X.2.1 hd (k p l e R s m args below meth c cells slots Z cI ad D A hΓ X H locs lsA hP hD hS hl)
theorem gw_imul {Γ : ow_Cx → Prop} {own : String} {cc : ByteArray} {nL pc : Nat} {ls : List (Option Value)} {st : List Value} {M : ow_M} {x y : Int32} (hd : decode cc pc = .ok (.imul, 1)) (k : ow_G Γ own cc nL (pc + 1) ls (.int (x * y) :: st) M) : ow_G Γ own cc nL pc ls (.int y :: .int x :: st) M := by
  intro p l e R s m args below meth c cells slots Z cI ad D A hΓ X H locs lsA hP hD hS hl
  exact lv_imul X.1 X.2.1 hd (k p l e R s m args below meth c cells slots Z cI ad D A hΓ X H locs lsA hP hD hS hl)
theorem gw_iand {Γ : ow_Cx → Prop} {own : String} {cc : ByteArray} {nL pc : Nat} {ls : List (Option Value)} {st : List Value} {M : ow_M} {x y : Int32} (hd : decode cc pc = .ok (.iand, 1)) (k : ow_G Γ own cc nL (pc + 1) ls (.int (x &&& y) :: st) M) : ow_G Γ own cc nL pc ls (.int y :: .int x :: st) M := by
  intro p l e R s m args below meth c cells slots Z cI ad D A hΓ X H locs lsA hP hD hS hl
  exact lv_iand X.1 X.2.1 hd (k p l e R s m args below meth c cells slots Z cI ad D A hΓ X H locs lsA hP hD hS hl)
theorem gw_ior {Γ : ow_Cx → Prop} {own : String} {cc : ByteArray} {nL pc : Nat} {ls : List (Option Value)} {st : List Value} {M : ow_M} {x y : Int32} (hd : decode cc pc = .ok (.ior, 1)) (k : ow_G Γ own cc nL (pc + 1) ls (.int (x ||| y) :: st) M) : ow_G Γ own cc nL pc ls (.int y :: .int x :: st) M := by
  intro p l e R s m args below meth c cells slots Z cI ad D A hΓ X H locs lsA hP hD hS hl
  exact lv_ior X.1 X.2.1 hd (k p l e R s m args below meth c cells slots Z cI ad D A hΓ X H locs lsA hP hD hS hl)
theorem gw_ixor {Γ : ow_Cx → Prop} {own : String} {cc : ByteArray} {nL pc : Nat} {ls : List (Option Value)} {st : List Value} {M : ow_M} {x y : Int32} (hd : decode cc pc = .ok (.ixor, 1)) (k : ow_G Γ own cc nL (pc + 1) ls (.int (x ^^^ y) :: st) M) : ow_G Γ own cc nL pc ls (.int y :: .int x :: st) M := by
  intro p l e R s m args below meth c cells slots Z cI ad D A hΓ X H locs lsA hP hD hS hl
  exact lv_ixor X.1 X.2.1 hd (k p l e R s m args below meth c cells slots Z cI ad D A hΓ X H locs lsA hP hD hS hl)
theorem gw_ishl {Γ : ow_Cx → Prop} {own : String} {cc : ByteArray} {nL pc : Nat} {ls : List (Option Value)} {st : List Value} {M : ow_M} {x y : Int32} (hd : decode cc pc = .ok (.ishl, 1)) (k : ow_G Γ own cc nL (pc + 1) ls (.int (x <<< (y &&& 31)) :: st) M) : ow_G Γ own cc nL pc ls (.int y :: .int x :: st) M := by
  intro p l e R s m args below meth c cells slots Z cI ad D A hΓ X H locs lsA hP hD hS hl
  exact lv_ishl X.1 X.2.1 hd (k p l e R s m args below meth c cells slots Z cI ad D A hΓ X H locs lsA hP hD hS hl)
theorem gw_ishr {Γ : ow_Cx → Prop} {own : String} {cc : ByteArray} {nL pc : Nat} {ls : List (Option Value)} {st : List Value} {M : ow_M} {x y : Int32} (hd : decode cc pc = .ok (.ishr, 1)) (k : ow_G Γ own cc nL (pc + 1) ls (.int (x >>> (y &&& 31)) :: st) M) : ow_G Γ own cc nL pc ls (.int y :: .int x :: st) M := by
  intro p l e R s m args below meth c cells slots Z cI ad D A hΓ X H locs lsA hP hD hS hl
  exact lv_ishr X.1 X.2.1 hd (k p l e R s m args below meth c cells slots Z cI ad D A hΓ X H locs lsA hP hD hS hl)
theorem gw_idiv {Γ : ow_Cx → Prop} {own : String} {cc : ByteArray} {nL pc : Nat} {ls : List (Option Value)} {st : List Value} {M : ow_M} {x y : Int32} (hne : ¬ y = 0) (hd : decode cc pc = .ok (.idiv, 1)) (k : ow_G Γ own cc nL (pc + 1) ls (.int (x / y) :: st) M) : ow_G Γ own cc nL pc ls (.int y :: .int x :: st) M := by
  intro p l e R s m args below meth c cells slots Z cI ad D A hΓ X H locs lsA hP hD hS hl
  exact lv_idiv X.1 X.2.1 hd hne (k p l e R s m args below meth c cells slots Z cI ad D A hΓ X H locs lsA hP hD hS hl)
theorem gw_irem {Γ : ow_Cx → Prop} {own : String} {cc : ByteArray} {nL pc : Nat} {ls : List (Option Value)} {st : List Value} {M : ow_M} {x y : Int32} (hne : ¬ y = 0) (hd : decode cc pc = .ok (.irem, 1)) (k : ow_G Γ own cc nL (pc + 1) ls (.int (x - x / y * y) :: st) M) : ow_G Γ own cc nL pc ls (.int y :: .int x :: st) M := by
  intro p l e R s m args below meth c cells slots Z cI ad D A hΓ X H locs lsA hP hD hS hl
  exact lv_irem X.1 X.2.1 hd hne (k p l e R s m args below meth c cells slots Z cI ad D A hΓ X H locs lsA hP hD hS hl)
theorem gw_ladd {Γ : ow_Cx → Prop} {own : String} {cc : ByteArray} {nL pc : Nat} {ls : List (Option Value)} {st : List Value} {M : ow_M} {x y : Int64} (hd : decode cc pc = .ok (.ladd, 1)) (k : ow_G Γ own cc nL (pc + 1) ls (.long (x + y) :: st) M) : ow_G Γ own cc nL pc ls (.long y :: .long x :: st) M := by
  intro p l e R s m args below meth c cells slots Z cI ad D A hΓ X H locs lsA hP hD hS hl
  exact lv_ladd X.1 X.2.1 hd (k p l e R s m args below meth c cells slots Z cI ad D A hΓ X H locs lsA hP hD hS hl)
theorem gw_lsub {Γ : ow_Cx → Prop} {own : String} {cc : ByteArray} {nL pc : Nat} {ls : List (Option Value)} {st : List Value} {M : ow_M} {x y : Int64} (hd : decode cc pc = .ok (.lsub, 1)) (k : ow_G Γ own cc nL (pc + 1) ls (.long (x - y) :: st) M) : ow_G Γ own cc nL pc ls (.long y :: .long x :: st) M := by
  intro p l e R s m args below meth c cells slots Z cI ad D A hΓ X H locs lsA hP hD hS hl
  exact lv_lsub X.1 X.2.1 hd (k p l e R s m args below meth c cells slots Z cI ad D A hΓ X H locs lsA hP hD hS hl)
theorem gw_lmul {Γ : ow_Cx → Prop} {own : String} {cc : ByteArray} {nL pc : Nat} {ls : List (Option Value)} {st : List Value} {M : ow_M} {x y : Int64} (hd : decode cc pc = .ok (.lmul, 1)) (k : ow_G Γ own cc nL (pc + 1) ls (.long (x * y) :: st) M) : ow_G Γ own cc nL pc ls (.long y :: .long x :: st) M := by
  intro p l e R s m args below meth c cells slots Z cI ad D A hΓ X H locs lsA hP hD hS hl
  exact lv_lmul X.1 X.2.1 hd (k p l e R s m args below meth c cells slots Z cI ad D A hΓ X H locs lsA hP hD hS hl)
theorem gw_land {Γ : ow_Cx → Prop} {own : String} {cc : ByteArray} {nL pc : Nat} {ls : List (Option Value)} {st : List Value} {M : ow_M} {x y : Int64} (hd : decode cc pc = .ok (.land, 1)) (k : ow_G Γ own cc nL (pc + 1) ls (.long (x &&& y) :: st) M) : ow_G Γ own cc nL pc ls (.long y :: .long x :: st) M := by
  intro p l e R s m args below meth c cells slots Z cI ad D A hΓ X H locs lsA hP hD hS hl
  exact t_land X.1 X.2.1 hd rfl (k p l e R s m args below meth c cells slots Z cI ad D A hΓ X H locs lsA hP hD hS hl)
theorem gw_lor {Γ : ow_Cx → Prop} {own : String} {cc : ByteArray} {nL pc : Nat} {ls : List (Option Value)} {st : List Value} {M : ow_M} {x y : Int64} (hd : decode cc pc = .ok (.lor, 1)) (k : ow_G Γ own cc nL (pc + 1) ls (.long (x ||| y) :: st) M) : ow_G Γ own cc nL pc ls (.long y :: .long x :: st) M := by
  intro p l e R s m args below meth c cells slots Z cI ad D A hΓ X H locs lsA hP hD hS hl
  exact t_lor X.1 X.2.1 hd rfl (k p l e R s m args below meth c cells slots Z cI ad D A hΓ X H locs lsA hP hD hS hl)
theorem gw_ldiv {Γ : ow_Cx → Prop} {own : String} {cc : ByteArray} {nL pc : Nat} {ls : List (Option Value)} {st : List Value} {M : ow_M} {x y : Int64} (hne : ¬ y = 0) (hd : decode cc pc = .ok (.ldiv, 1)) (k : ow_G Γ own cc nL (pc + 1) ls (.long (x / y) :: st) M) : ow_G Γ own cc nL pc ls (.long y :: .long x :: st) M := by
  intro p l e R s m args below meth c cells slots Z cI ad D A hΓ X H locs lsA hP hD hS hl
  exact lv_ldiv X.1 X.2.1 hd hne (k p l e R s m args below meth c cells slots Z cI ad D A hΓ X H locs lsA hP hD hS hl)
theorem gw_lrem {Γ : ow_Cx → Prop} {own : String} {cc : ByteArray} {nL pc : Nat} {ls : List (Option Value)} {st : List Value} {M : ow_M} {x y : Int64} (hne : ¬ y = 0) (hd : decode cc pc = .ok (.lrem, 1)) (k : ow_G Γ own cc nL (pc + 1) ls (.long (x - x / y * y) :: st) M) : ow_G Γ own cc nL pc ls (.long y :: .long x :: st) M := by
  intro p l e R s m args below meth c cells slots Z cI ad D A hΓ X H locs lsA hP hD hS hl
  exact lv_lrem X.1 X.2.1 hd hne (k p l e R s m args below meth c cells slots Z cI ad D A hΓ X H locs lsA hP hD hS hl)
theorem gw_lshl {Γ : ow_Cx → Prop} {own : String} {cc : ByteArray} {nL pc : Nat} {ls : List (Option Value)} {st : List Value} {M : ow_M} {x : Int64} {y : Int32} (hd : decode cc pc = .ok (.lshl, 1)) (k : ow_G Γ own cc nL (pc + 1) ls (.long (x <<< (y.toInt64 &&& 63)) :: st) M) : ow_G Γ own cc nL pc ls (.int y :: .long x :: st) M := by
  intro p l e R s m args below meth c cells slots Z cI ad D A hΓ X H locs lsA hP hD hS hl
  exact lv_lshl X.1 X.2.1 hd rfl (k p l e R s m args below meth c cells slots Z cI ad D A hΓ X H locs lsA hP hD hS hl)
theorem gw_i2l {Γ : ow_Cx → Prop} {own : String} {cc : ByteArray} {nL pc : Nat} {ls : List (Option Value)} {st : List Value} {M : ow_M} {x : Int32} (hd : decode cc pc = .ok (.i2l, 1)) (k : ow_G Γ own cc nL (pc + 1) ls (.long x.toInt64 :: st) M) : ow_G Γ own cc nL pc ls (.int x :: st) M := by
  intro p l e R s m args below meth c cells slots Z cI ad D A hΓ X H locs lsA hP hD hS hl
  exact lv_i2l X.1 X.2.1 hd rfl (k p l e R s m args below meth c cells slots Z cI ad D A hΓ X H locs lsA hP hD hS hl)
theorem gw_i2b {Γ : ow_Cx → Prop} {own : String} {cc : ByteArray} {nL pc : Nat} {ls : List (Option Value)} {st : List Value} {M : ow_M} {x : Int32} (hd : decode cc pc = .ok (.i2b, 1)) (k : ow_G Γ own cc nL (pc + 1) ls (.int x.toInt8.toInt32 :: st) M) : ow_G Γ own cc nL pc ls (.int x :: st) M := by
  intro p l e R s m args below meth c cells slots Z cI ad D A hΓ X H locs lsA hP hD hS hl
  exact lv_i2b X.1 X.2.1 hd rfl (k p l e R s m args below meth c cells slots Z cI ad D A hΓ X H locs lsA hP hD hS hl)
theorem gw_i2s {Γ : ow_Cx → Prop} {own : String} {cc : ByteArray} {nL pc : Nat} {ls : List (Option Value)} {st : List Value} {M : ow_M} {x : Int32} (hd : decode cc pc = .ok (.i2s, 1)) (k : ow_G Γ own cc nL (pc + 1) ls (.int x.toInt16.toInt32 :: st) M) : ow_G Γ own cc nL pc ls (.int x :: st) M := by
  intro p l e R s m args below meth c cells slots Z cI ad D A hΓ X H locs lsA hP hD hS hl
  exact lv_i2s X.1 X.2.1 hd rfl (k p l e R s m args below meth c cells slots Z cI ad D A hΓ X H locs lsA hP hD hS hl)
theorem gw_lcmp {Γ : ow_Cx → Prop} {own : String} {cc : ByteArray} {nL pc : Nat} {ls : List (Option Value)} {st : List Value} {M : ow_M} {x y : Int64} (hd : decode cc pc = .ok (.lcmp, 1)) (k : ow_G Γ own cc nL (pc + 1) ls (.int (lg_cmp x y) :: st) M) : ow_G Γ own cc nL pc ls (.long y :: .long x :: st) M := by
  intro p l e R s m args below meth c cells slots Z cI ad D A hΓ X H locs lsA hP hD hS hl
  exact W.lcmp X.1 X.2.1 hd (k p l e R s m args below meth c cells slots Z cI ad D A hΓ X H locs lsA hP hD hS hl)
theorem gw_dup {Γ : ow_Cx → Prop} {own : String} {cc : ByteArray} {nL pc : Nat} {ls : List (Option Value)} {st : List Value} {M : ow_M} {v : Value} (hv : v.category = 1) (hd : decode cc pc = .ok (.dup, 1)) (k : ow_G Γ own cc nL (pc + 1) ls (v :: v :: st) M) : ow_G Γ own cc nL pc ls (v :: st) M := by
  intro p l e R s m args below meth c cells slots Z cI ad D A hΓ X H locs lsA hP hD hS hl
  exact lv_dup X.1 X.2.1 hd (by rw [ow_v_cat]; exact hv) (k p l e R s m args below meth c cells slots Z cI ad D A hΓ X H locs lsA hP hD hS hl)
theorem gw_dup2 {Γ : ow_Cx → Prop} {own : String} {cc : ByteArray} {nL pc : Nat} {ls : List (Option Value)} {st : List Value} {M : ow_M} {v u : Value} (hv : v.category = 1) (hu : u.category = 1) (hd : decode cc pc = .ok (.dup2, 1)) (k : ow_G Γ own cc nL (pc + 1) ls (v :: u :: v :: u :: st) M) : ow_G Γ own cc nL pc ls (v :: u :: st) M := by
  intro p l e R s m args below meth c cells slots Z cI ad D A hΓ X H locs lsA hP hD hS hl
  exact lv_dup2_11 X.1 X.2.1 hd (by rw [ow_v_cat]; exact hv) (by rw [ow_v_cat]; exact hu) (k p l e R s m args below meth c cells slots Z cI ad D A hΓ X H locs lsA hP hD hS hl)
theorem gw_goto {Γ : ow_Cx → Prop} {own : String} {cc : ByteArray} {nL pc : Nat} {ls : List (Option Value)} {st : List Value} {M : ow_M} {off : Int} {tgt : Nat} (ht : (pc : Int) + off = (tgt : Int)) (hd : decode cc pc = .ok (.goto off, 3)) (k : ow_G Γ own cc nL tgt ls st M) : ow_G Γ own cc nL pc ls st M := by
  intro p l e R s m args below meth c cells slots Z cI ad D A hΓ X H locs lsA hP hD hS hl
  exact lv_goto X.1 X.2.1 hd ht (k p l e R s m args below meth c cells slots Z cI ad D A hΓ X H locs lsA hP hD hS hl)
