/-! the words that every method takes along -/
def ow_isNest : Cond → Bool
  | .fieldLinkNest .. => true
  | .methodLinkNest .. => true
  | _ => false
def ow_base : List Cond := lw_tbl.filter goodWord
def ow_nest : List Cond := lw_tbl.filter ow_isNest
theorem ow_mb {w : Cond} (i : Nat) (h : lw_tbl[i]? = some w) (g : goodWord w = true) : w ∈ ow_base := List.mem_filter.mpr ⟨List.mem_of_getElem? h, g⟩
theorem ow_mn {w : Cond} (i : Nat) (h : lw_tbl[i]? = some w) (g : ow_isNest w = true) : w ∈ ow_nest := List.mem_filter.mpr ⟨List.mem_of_getElem? h, g⟩
theorem ow_nest_warm {s U : State} (hW : s.WarmedH U.vm) (h : ∀ w ∈ ow_nest, va_Nw w s) : ∀ w ∈ ow_nest, va_Nw w U := by
  intro w hw
  have h1 := (List.mem_filter.mp hw).2
  have h2 := h w hw
  cases w with
  | fieldLinkNest a i b n d hh => exact va_Nw.warmF hW h2
  | methodLinkNest a i x hh => exact va_Nw.warmM hW h2
  | _ => cases h1
theorem ow_nest_same {u U : State} (e : u.vm = U.vm) (h : ∀ w ∈ ow_nest, va_Nw w u) : ∀ w ∈ ow_nest, va_Nw w U := by
  intro w hw
  have h1 := (List.mem_filter.mp hw).2
  have h2 := h w hw
  cases w with
  | fieldLinkNest a i b n d hh => exact va_Nw.same rfl e h2
  | methodLinkNest a i x hh => exact va_Nw.same rfl e h2
  | _ => cases h1
def ow_ws (y : MethodName) (cc : ByteArray) (nL : Nat) (rt : Option FieldType) : List Cond := .code y cc nL rt :: ow_base
/-! the memory: ints (and booleans) by cell and place, longs by cell and place; the shape of the cells is fixed -/
abbrev ow_M : Type := (Nat → Nat → Int32) × (Nat → Nat → Int64)
def ow_up (M : ow_M) (o k : Nat) (v : Int32) : ow_M := (fun a b => if a = o ∧ b = k then v else M.1 a b, M.2)
def ow_upL (M : ow_M) (o k : Nat) (v : Int64) : ow_M := (M.1, fun a b => if a = o ∧ b = k then v else M.2 a b)
abbrev ow_Sh : Type := (Nat × Nat) ⊕ (Nat × List (Option Nat))
def ow_sh : List ow_Sh := [.inr (7, [some 1, some 2, some 8, some 11, some 16, some 19, some 21, none, none]), .inl (3, 4), .inr (0, [none, none, none, some 3, some 4, some 5, some 6, some 7]), .inl (0, 7), .inl (0, 7), .inl (0, 7), .inl (0, 7), .inl (1, 7), .inr (5, [some 9, some 10]), .inl (0, 7), .inl (0, 7), .inr (6, [some 12, some 13, none, some 14, none, some 15]), .inl (2, 256), .inl (0, 630), .inl (0, 128), .inl (0, 128), .inr (2, [some 17, some 18]), .inl (0, 7), .inl (0, 128), .inr (1, [some 20]), .inl (0, 128), .inr (3, [none, some 22, some 23, some 24, some 25]), .inl (0, 8), .inl (0, 8), .inl (0, 8), .inl (0, 8), .inr (4, [none, none, none, some 27]), .inl (0, 50), .inr (4, [none, none, none, some 29]), .inl (0, 50), .inr (4, [none, none, none, some 31]), .inl (0, 50), .inr (4, [none, none, none, some 33]), .inl (0, 50), .inr (8, [none, none, some 35, some 36, some 37, none, none, none, some 38, some 39, some 40, some 41, none, none, none, some 42, some 43, some 44, some 45, some 46, some 47, some 48, some 49, none, some 50, some 51, some 52, none, some 53, some 54, some 55, some 56]), .inl (0, 4), .inl (0, 4), .inl (0, 200), .inl (0, 7), .inl (0, 7), .inl (0, 7), .inl (0, 7), .inl (0, 7), .inl (0, 7), .inl (0, 7), .inl (0, 7), .inl (0, 7), .inl (0, 7), .inl (0, 16384), .inl (0, 16384), .inl (0, 7), .inl (0, 128), .inl (0, 128), .inl (0, 8), .inl (0, 8), .inl (0, 8), .inl (0, 8)]
def ow_v (ad : Nat → Nat) : Value → Value
  | .ref k => .ref (ad k)
  | v => v
def ow_fv (ad : Nat → Nat) (f : Nat → Int32) (j : Nat) : Option Nat → Value
  | none => .int (f j)
  | some r => .ref (ad r)
def ow_fs (ad : Nat → Nat) (f : Nat → Int32) (fs : List (Option Nat)) : List Value := fs.mapIdx (ow_fv ad f)
def ow_arr (cI : Nat → ClassId) (ad : Nat → Nat) (M : ow_M) (k : Nat) (t n : Nat) : ClassId × vp_A := match t with
  | 0 => (cI 0, n, .inl (M.1 k))
  | 1 => (cI 1, n, .inl (M.1 k))
  | 2 => (cI 2, n, .inr (.inl (M.2 k)))
  | _ => (cI 3, n, .inr (.inr (.inr (.inr fun j => some (ad (26 + 2 * j))))))
def ow_e (cI : Nat → ClassId) (ad : Nat → Nat) (M : ow_M) (k : Nat) : ow_Sh → va_E
  | .inl q => .inl (ow_arr cI ad M k q.1 q.2)
  | .inr q => .inr (q.1, ow_fs ad (M.1 k) q.2)
def ow_w (cI : Nat → ClassId) (ad : Nat → Nat) (M : ow_M) : va_W := ow_sh.mapIdx (fun k sh => (ad k, ow_e cI ad M k sh))
theorem ow_w_get {cI : Nat → ClassId} {ad : Nat → Nat} {M : ow_M} {k : Nat} {sh : ow_Sh} (h : ow_sh[k]? = some sh) : (ow_w cI ad M)[k]? = some (ad k, ow_e cI ad M k sh) := by
  unfold ow_w
  rw [List.getElem?_mapIdx, h]
  rfl
theorem ow_w_len (cI : Nat → ClassId) (ad : Nat → Nat) (M : ow_M) : (ow_w cI ad M).length = ow_sh.length := by unfold ow_w; rw [List.length_mapIdx]
theorem ow_w_ext {cI : Nat → ClassId} {ad : Nat → Nat} {M M2 : ow_M} {o : Nat} {sh : ow_Sh} {E : va_E} (h : ow_sh[o]? = some sh) (hE : E = ow_e cI ad M2 o sh) (h1 : ∀ k, k ≠ o → M2.1 k = M.1 k) (h2 : ∀ k, k ≠ o → M2.2 k = M.2 k) : (ow_w cI ad M).set o (ad o, E) = ow_w cI ad M2 := by
  apply List.ext_getElem?
  intro i
  rw [List.getElem?_set]
  by_cases hi : o = i
  · subst hi
    have hlt : o < (ow_w cI ad M).length := by rw [ow_w_len]; exact (List.getElem?_eq_some_iff.mp h).1
    rw [if_pos rfl, if_pos hlt, ow_w_get h, hE]
  · rw [if_neg hi]
    unfold ow_w
    rw [List.getElem?_mapIdx, List.getElem?_mapIdx]
    cases hs : ow_sh[i]? with
    | none => rfl
    | some s1 =>
      have e1 := h1 i (fun q => hi q.symm)
      have e2 := h2 i (fun q => hi q.symm)
      show some (ad i, ow_e cI ad M i s1) = some (ad i, ow_e cI ad M2 i s1)
      cases s1 with
      | inl q => show some (ad i, Sum.inl (ow_arr cI ad M i q.1 q.2)) = some (ad i, Sum.inl (ow_arr cI ad M2 i q.1 q.2)); unfold ow_arr; rw [e1, e2]
      | inr q => show some (ad i, Sum.inr (q.1, ow_fs ad (M.1 i) q.2)) = some (ad i, Sum.inr (q.1, ow_fs ad (M2.1 i) q.2)); rw [e1]
theorem ow_up_ne {M : ow_M} {o j a : Nat} {v : Int32} (h : a ≠ o) : (ow_up M o j v).1 a = M.1 a := by
  funext b
  show (if a = o ∧ b = j then v else M.1 a b) = M.1 a b
  rw [if_neg (fun q => h q.1)]
theorem ow_up_eq {M : ow_M} {o j : Nat} {v : Int32} : (ow_up M o j v).1 o = upd (M.1 o) j v := by
  funext b
  show (if o = o ∧ b = j then v else M.1 o b) = (if b = j then v else M.1 o b)
  by_cases q : b = j
  · rw [if_pos ⟨rfl, q⟩, if_pos q]
  · rw [if_neg (fun z => q z.2), if_neg q]
theorem ow_upL_ne {M : ow_M} {o j a : Nat} {v : Int64} (h : a ≠ o) : (ow_upL M o j v).2 a = M.2 a := by
  funext b
  show (if a = o ∧ b = j then v else M.2 a b) = M.2 a b
  rw [if_neg (fun q => h q.1)]
theorem ow_upL_eq {M : ow_M} {o j : Nat} {v : Int64} : (ow_upL M o j v).2 o = vp_updL (M.2 o) j v := by
  funext b
  show (if o = o ∧ b = j then v else M.2 o b) = (if b = j then v else M.2 o b)
  by_cases q : b = j
  · rw [if_pos ⟨rfl, q⟩, if_pos q]
  · rw [if_neg (fun z => q z.2), if_neg q]
theorem ow_fs_set {ad : Nat → Nat} {f : Nat → Int32} {fs : List (Option Nat)} {k : Nat} {v : Int32} (h : fs[k]? = some none) : (ow_fs ad f fs).set k (.int v) = ow_fs ad (upd f k v) fs := by
  apply List.ext_getElem?
  intro i
  rw [List.getElem?_set]
  unfold ow_fs
  rw [List.getElem?_mapIdx, List.getElem?_mapIdx, List.length_mapIdx]
  have hlt : k < fs.length := (List.getElem?_eq_some_iff.mp h).1
  by_cases hi : k = i
  · subst hi
    rw [if_pos rfl, if_pos hlt, h]
    show some (Value.int v) = some (Value.int (upd f k v k))
    unfold upd
    rw [if_pos rfl]
  · rw [if_neg hi]
    cases hs : fs[i]? with
    | none => rfl
    | some q =>
      cases q with
      | none => show some (Value.int (f i)) = some (Value.int (upd f k v i)); unfold upd; rw [if_neg (fun z => hi z.symm)]
      | some r => rfl
theorem ow_fs_get {ad : Nat → Nat} {f : Nat → Int32} {fs : List (Option Nat)} {k : Nat} {x : Option Nat} (h : fs[k]? = some x) : (ow_fs ad f fs)[k]? = some (ow_fv ad f k x) := by
  unfold ow_fs
  rw [List.getElem?_mapIdx, h]
  rfl
theorem ow_w_put {cI : Nat → ClassId} {ad : Nat → Nat} {M : ow_M} {o ci k : Nat} {fs : List (Option Nat)} {v : Int32} (h : ow_sh[o]? = some (.inr (ci, fs))) (hk : fs[k]? = some none) : (ow_w cI ad M).set o (ad o, .inr (ci, (ow_fs ad (M.1 o) fs).set k (.int v))) = ow_w cI ad (ow_up M o k v) :=
  ow_w_ext h (by show Sum.inr (ci, (ow_fs ad (M.1 o) fs).set k (.int v)) = Sum.inr (ci, ow_fs ad ((ow_up M o k v).1 o) fs); rw [ow_up_eq, ow_fs_set hk]) (fun _ q => ow_up_ne q) (fun _ _ => rfl)
theorem ow_w_putA {cI : Nat → ClassId} {ad : Nat → Nat} {M : ow_M} {o n j : Nat} {v : Int32} (h : ow_sh[o]? = some (.inl (0, n))) : (ow_w cI ad M).set o (ad o, .inl (cI 0, n, .inl (upd (M.1 o) j v))) = ow_w cI ad (ow_up M o j v) :=
  ow_w_ext h (by show Sum.inl (cI 0, n, Sum.inl (upd (M.1 o) j v)) = Sum.inl (cI 0, n, Sum.inl ((ow_up M o j v).1 o)); rw [ow_up_eq]) (fun _ q => ow_up_ne q) (fun _ _ => rfl)
theorem ow_w_putZ {cI : Nat → ClassId} {ad : Nat → Nat} {M : ow_M} {o n j : Nat} {v : Int32} (h : ow_sh[o]? = some (.inl (1, n))) : (ow_w cI ad M).set o (ad o, .inl (cI 1, n, .inl (upd (M.1 o) j v))) = ow_w cI ad (ow_up M o j v) :=
  ow_w_ext h (by show Sum.inl (cI 1, n, Sum.inl (upd (M.1 o) j v)) = Sum.inl (cI 1, n, Sum.inl ((ow_up M o j v).1 o)); rw [ow_up_eq]) (fun _ q => ow_up_ne q) (fun _ _ => rfl)
theorem ow_w_putL {cI : Nat → ClassId} {ad : Nat → Nat} {M : ow_M} {o n j : Nat} {v : Int64} (h : ow_sh[o]? = some (.inl (2, n))) : (ow_w cI ad M).set o (ad o, .inl (cI 2, n, .inr (.inl (vp_updL (M.2 o) j v)))) = ow_w cI ad (ow_upL M o j v) :=
  ow_w_ext h (by show Sum.inl (cI 2, n, Sum.inr (Sum.inl (vp_updL (M.2 o) j v))) = Sum.inl (cI 2, n, Sum.inr (Sum.inl ((ow_upL M o j v).2 o))); rw [ow_upL_eq]) (fun _ _ => rfl) (fun _ q => ow_upL_ne q)
/-! locals -/
def ow_lv (ad : Nat → Nat) : Nat → List (Option Value) → List (Nat × Value)
  | _, [] => []
  | i, none :: t => ow_lv ad (i + 1) t
  | i, some v :: t => (i, ow_v ad v) :: ow_lv ad (i + 1) t
theorem ow_lv_mem {ad : Nat → Nat} : ∀ {ls : List (Option Value)} {j i : Nat} {v : Value}, ls[i]? = some (some v) → (j + i, ow_v ad v) ∈ ow_lv ad j ls := by
  intro ls
  induction ls with
  | nil => intro j i v h; simp at h
  | cons a t ih =>
    intro j i v h
    cases i with
    | zero =>
      simp at h
      subst h
      exact List.mem_cons_self
    | succ i =>
      have h1 : t[i]? = some (some v) := by simpa using h
      have h2 := ih (j := j + 1) h1
      have e : j + 1 + i = j + (i + 1) := by omega
      rw [e] at h2
      cases a with
      | none => exact h2
      | some x => exact List.mem_cons_of_mem _ h2
theorem ow_lv_inv {ad : Nat → Nat} : ∀ {ls : List (Option Value)} {j : Nat} {q : Nat × Value}, q ∈ ow_lv ad j ls → ∃ (i : Nat) (v : Value), q = (j + i, ow_v ad v) ∧ ls[i]? = some (some v) := by
  intro ls
  induction ls with
  | nil => intro j q h; cases h
  | cons a t ih =>
    intro j q h
    have step : q ∈ ow_lv ad (j + 1) t → ∃ (i : Nat) (v : Value), q = (j + i, ow_v ad v) ∧ (a :: t)[i]? = some (some v) := by
      intro hq
      obtain ⟨i, v, h1, h2⟩ := ih hq
      exact ⟨i + 1, v, by rw [h1]; congr 1; omega, by simpa using h2⟩
    cases a with
    | none => exact step h
    | some x =>
      rcases List.mem_cons.mp h with h | h
      · exact ⟨0, x, h, rfl⟩
      · exact step h
theorem ow_has_mono {ls : Array Slot} {n : Nat} {l l' : List (Nat × Value)} (h : lv_has ls n l) (hs : ∀ q ∈ l', q ∈ l) : lv_has ls n l' := ⟨h.1, h.2.1, fun q hq => h.2.2 q (hs q hq)⟩
theorem ow_at {lsA : Array Slot} {nL : Nat} {ad : Nat → Nat} {ls : List (Option Value)} {i : Nat} {v : Value} (hl : lv_has lsA nL (ow_lv ad 0 ls)) (h : ls[i]? = some (some v)) : lsA[i]? = some (.val (ow_v ad v)) := by
  have h1 := hl.2.2 _ (ow_lv_mem (ad := ad) (j := 0) h)
  rw [Nat.zero_add] at h1
  exact h1
theorem ow_v_cat (ad : Nat → Nat) (v : Value) : (ow_v ad v).category = v.category := by cases v <;> rfl
def ow_k1 : Option Value → Bool
  | some v => v.category != 2
  | none => true
def ow_c1 (ls : List (Option Value)) : Nat → Bool
  | 0 => true
  | j + 1 => match ls[j]? with
    | some x => ow_k1 x
    | none => true
theorem ow_c1_spec {ls : List (Option Value)} {i k : Nat} {v : Value} (h : ow_c1 ls i = true) (hk : ls[k]? = some (some v)) (hki : k + 1 = i) : v.category ≠ 2 := by
  subst hki
  have h : (match ls[k]? with | some x => ow_k1 x | none => true) = true := h
  rw [hk] at h
  intro hv
  simp [ow_k1, hv] at h
theorem ow_set1 {ad : Nat → Nat} {ls : List (Option Value)} {i : Nat} {v : Value} (hc : ow_c1 ls i = true) : ∀ q ∈ ow_lv ad 0 (ls.set i (some v)), q ∈ (i, ow_v ad v) :: (ow_lv ad 0 ls).filter (fun q => !(q.1 == i) && !(q.1 + 1 == i && q.2.category == 2)) := by
  intro q hq
  obtain ⟨k, x, rfl, hk⟩ := ow_lv_inv hq
  rw [Nat.zero_add] at *
  rw [List.getElem?_set] at hk
  by_cases hi : i = k
  · subst hi
    rw [if_pos rfl] at hk
    split at hk
    · cases hk; exact List.mem_cons_self
    · cases hk
  · rw [if_neg hi] at hk
    refine List.mem_cons_of_mem _ (List.mem_filter.mpr ⟨?_, ?_⟩)
    · have h1 := ow_lv_mem (ad := ad) (j := 0) hk
      rwa [Nat.zero_add] at h1
    · have h1 : (k == i) = false := by simp; omega
      have h2 : (k + 1 == i && (ow_v ad x).category == 2) = false := by
        rw [ow_v_cat]
        by_cases hki : k + 1 = i
        · have := ow_c1_spec hc hk hki
          simp [this]
        · simp [hki]
      simp only [h1, h2]
      rfl
theorem ow_set2 {ad : Nat → Nat} {ls : List (Option Value)} {i : Nat} {v : Value} (hc : ow_c1 ls i = true) : ∀ q ∈ ow_lv ad 0 ((ls.set i (some v)).set (i + 1) none), q ∈ (i, ow_v ad v) :: (ow_lv ad 0 ls).filter (fun q => !(q.1 == i) && (!(q.1 == i + 1) && !(q.1 + 1 == i && q.2.category == 2))) := by
  intro q hq
  obtain ⟨k, x, rfl, hk⟩ := ow_lv_inv hq
  rw [Nat.zero_add] at *
  rw [List.getElem?_set] at hk
  by_cases hj : i + 1 = k
  · rw [if_pos hj] at hk
    split at hk <;> cases hk
  · rw [if_neg hj, List.getElem?_set] at hk
    by_cases hi : i = k
    · subst hi
      rw [if_pos rfl] at hk
      split at hk
      · cases hk; exact List.mem_cons_self
      · cases hk
    · rw [if_neg hi] at hk
      refine List.mem_cons_of_mem _ (List.mem_filter.mpr ⟨?_, ?_⟩)
      · have h1 := ow_lv_mem (ad := ad) (j := 0) hk
        rwa [Nat.zero_add] at h1
      · have h1 : (k == i) = false := by simp; omega
        have h3 : (k == i + 1) = false := by simp; omega
        have h2 : (k + 1 == i && (ow_v ad x).category == 2) = false := by
          rw [ow_v_cat]
          by_cases hki : k + 1 = i
          · have := ow_c1_spec hc hk hki
            simp [this]
          · simp [hki]
        simp only [h1, h2, h3]
        rfl
/-! the judgement -/
abbrev ow_Cx : Type := Program × Launch × Env × Room × State × MethodId × Array Value × List Frame × Method × Code × Nat × Nat × (State → Prop) × (Nat → ClassId) × (Nat → Nat) × va_G × (Nat → Prop)
def ow_tys (cI : Nat → ClassId) : List (ClassId × FieldType) := [(cI 0, .int), (cI 1, .boolean), (cI 2, .long), (cI 3, .object "OneWire$Sheet")]
def ow_X (own : String) (cc : ByteArray) (nL : Nat) (p : Program) (s : State) (m : MethodId) (args : Array Value) (meth : Method) (c : Code) (cI : Nat → ClassId) (D : va_G) : Prop :=
  p.tables.exec = Jvm.exec ∧ c.code = cc ∧ c.maxLocals = nL ∧ s.vm.findClass own = some m.cls ∧ (∀ w ∈ ow_base, w.before args s = true) ∧ (∀ w ∈ ow_nest, va_Nw w s) ∧ va_K D vwCl (ow_tys cI) s ∧ meth.locks = false
def ow_G (Γ : ow_Cx → Prop) (own : String) (cc : ByteArray) (nL pc : Nat) (ls : List (Option Value)) (st : List Value) (M : ow_M) : Prop :=
  ∀ (p : Program) (l : Launch) (e : Env) (R : Room) (s : State) (m : MethodId) (args : Array Value) (below : List Frame) (meth : Method) (c : Code) (cells slots : Nat) (Z : State → Prop) (cI : Nat → ClassId) (ad : Nat → Nat) (D : va_G) (A : Nat → Prop),
    Γ (p, l, e, R, s, m, args, below, meth, c, cells, slots, Z, cI, ad, D, A) → ow_X own cc nL p s m args meth c cI D →
    ∀ (H : Heap) (locs : List Loc) (lsA : Array Slot), va_P D vwCl (ow_w cI ad M) H → va_D A (ow_w cI ad M) → va_S A s.heap H locs → lv_has lsA nL (ow_lv ad 0 ls) →
    W p l e R s m args below meth c H locs cells slots Z (F0 m pc lsA (st.map (ow_v ad)))
def ow_rm (d : Nat) : Room := { frames := d, cells := 0, slots := 0, locals := 35 * d }
def ow_A (ad : Nat → Nat) : Nat → Prop := fun q => ∃ k, k < ow_sh.length ∧ q = ad k
def ow_Qc (cI : Nat → ClassId) (ad : Nat → Nat) (D : va_G) (Q : Option Value → ow_M → Prop) : Array Value → State → Outcome → State → Prop := fun _ st oc t =>
  ∃ (r : Option Value) (M : ow_M), oc = .returned (r.map (ow_v ad)) ∧ Q r M ∧ va_P D vwCl (ow_w cI ad M) t.heap ∧ va_F (ow_A ad) st t
def ow_Pc (cI : Nat → ClassId) (ad : Nat → Nat) (D : va_G) (As : List Value) (M : ow_M) : Array Value → State → Prop := fun v U =>
  v = (As.map (ow_v ad)).toArray ∧ va_P D vwCl (ow_w cI ad M) U.heap ∧ va_K D vwCl (ow_tys cI) U ∧ va_D (ow_A ad) (ow_w cI ad M) ∧ ∀ w ∈ ow_nest, va_Nw w U
def ow_C (l : Launch) (d : Nat) (y : MethodName) (cc : ByteArray) (nL : Nat) (rt : Option FieldType) (As : List Value) (M : ow_M) (Q : Option Value → ow_M → Prop) : Prop :=
  ∀ (cI : Nat → ClassId) (ad : Nat → Nat) (D : va_G), Met l y (ow_ws y cc nL rt) (ow_rm d) (ow_Pc cI ad D As M) (ow_Qc cI ad D Q) 0 0 (ow_A ad)
def ow_is (rv : Option Value) (Mf : ow_M) : Option Value → ow_M → Prop := fun r M => r = rv ∧ M = Mf
abbrev ow_F (l : Launch) (d : Nat) (y : MethodName) (cc : ByteArray) (nL : Nat) (rt : Option FieldType) (As : List Value) (M : ow_M) (rv : Option Value) (Mf : ow_M) : Prop := ow_C l d y cc nL rt As M (ow_is rv Mf)
def ow_Γ (l0 : Launch) (d : Nat) (rt : Option FieldType) (Q : Option Value → ow_M → Prop) : ow_Cx → Prop := fun
  | (_, l, _, R, s, _, args, below, meth, _, cells, slots, Z, cI, ad, D, A) => l = l0 ∧ R = ow_rm d ∧ cells = 0 ∧ slots = 0 ∧ meth.sig.returnType = rt ∧ Z = MQ below (ow_Qc cI ad D Q) args s 0 0 (ow_A ad) ∧ A = ow_A ad
def ow_ent (nL : Nat) (As : List Value) : List (Option Value) := (As.flatMap fun v => if v.category = 2 then [some v, none] else [some v]) ++ List.replicate (nL - (lg_sl As).length) none
theorem ow_A_w {cI : Nat → ClassId} {ad : Nat → Nat} {M : ow_M} {A : Nat → Prop} (h : va_D A (ow_w cI ad M)) : ∀ q, ow_A ad q → A q := by
  rintro q ⟨k, hk, rfl⟩
  have h1 : ow_sh[k]? = some ow_sh[k] := List.getElem?_eq_getElem hk
  exact h.2 k _ (ow_w_get h1)
theorem ow_D_any {cI : Nat → ClassId} {ad : Nat → Nat} {M M2 : ow_M} {A : Nat → Prop} (h : va_D A (ow_w cI ad M)) : va_D A (ow_w cI ad M2) := by
  have key : ∀ (i : Nat) (q : Nat × va_E), (ow_w cI ad M2)[i]? = some q → ∃ q', (ow_w cI ad M)[i]? = some q' ∧ q'.1 = q.1 := by
    intro i q hq
    unfold ow_w at hq ⊢
    rw [List.getElem?_mapIdx] at hq ⊢
    cases hs : ow_sh[i]? with
    | none => rw [hs] at hq; cases hq
    | some x =>
      rw [hs] at hq
      cases hq
      exact ⟨_, rfl, rfl⟩
  refine ⟨fun i j p q hp hq hpq => ?_, fun k q hq => ?_⟩
  · obtain ⟨p', h1, h2⟩ := key i p hp
    obtain ⟨q', h3, h4⟩ := key j q hq
    exact h.1 i j p' q' h1 h3 (by rw [h2, h4]; exact hpq)
  · obtain ⟨q', h1, h2⟩ := key k q hq
    rw [← h2]
    exact h.2 k q' h1
theorem ow_D_self {cI : Nat → ClassId} {ad : Nat → Nat} {M : ow_M} {A : Nat → Prop} (h : va_D A (ow_w cI ad M)) : va_D (ow_A ad) (ow_w cI ad M) := by
  refine ⟨h.1, fun k q hq => ?_⟩
  unfold ow_w at hq
  rw [List.getElem?_mapIdx] at hq
  cases hs : ow_sh[k]? with
  | none => rw [hs] at hq; cases hq
  | some x =>
    rw [hs] at hq
    cases hq
    exact ⟨k, (List.getElem?_eq_some_iff.mp hs).1, rfl⟩
theorem ow_lv_args (ad : Nat → Nat) : ∀ (As : List Value) (j : Nat) (t : List (Option Value)), (∀ x ∈ t, x = none) → ow_lv ad j ((As.flatMap fun v => if v.category = 2 then [some v, none] else [some v]) ++ t) = lv_args j (As.map (ow_v ad)) := by
  intro As
  induction As with
  | nil =>
    intro j t ht
    induction t generalizing j with
    | nil => rfl
    | cons a t ih =>
      have := ht a List.mem_cons_self
      subst this
      exact ih (j + 1) (fun x hx => ht x (List.mem_cons_of_mem _ hx))
  | cons v As ih =>
    intro j t ht
    show ow_lv ad j (((if v.category = 2 then [some v, none] else [some v]) ++ _) ++ t) = (j, ow_v ad v) :: lv_args (if (ow_v ad v).category = 2 then j + 2 else j + 1) (As.map (ow_v ad))
    rw [ow_v_cat]
    by_cases hc : v.category = 2
    · rw [if_pos hc, if_pos hc]
      show (j, ow_v ad v) :: ow_lv ad (j + 1 + 1) _ = _
      rw [← ih (j + 2) t ht]
      rfl
    · rw [if_neg hc, if_neg hc]
      show (j, ow_v ad v) :: ow_lv ad (j + 1) _ = _
      rw [← ih (j + 1) t ht]
      rfl
theorem ow_sl_len (ad : Nat → Nat) : ∀ As : List Value, (lg_sl (As.map (ow_v ad))).length = (lg_sl As).length := by
  intro As
  induction As with
  | nil => rfl
  | cons v As ih =>
    have h1 : ∀ (x : Value) (xs : List Value), (lg_sl (x :: xs)).length = (if x.category = 2 then 2 else 1) + (lg_sl xs).length := by
      intro x xs
      show ((if x.category = 2 then [Slot.val x, Slot.second] else [Slot.val x]) ++ lg_sl xs).length = _
      rw [List.length_append]
      split <;> rfl
    show (lg_sl (ow_v ad v :: As.map (ow_v ad))).length = _
    rw [h1, h1, ih, ow_v_cat]
theorem ow_enter {l : Launch} {d : Nat} {y : MethodName} {cc : ByteArray} {nL : Nat} {rt : Option FieldType} {As : List Value} {M : ow_M} {Q : Option Value → ow_M → Prop} {ls : List (Option Value)} (hy : plainName y.cls = true) (hn : (lg_sl As).length ≤ nL) (hls : ow_ent nL As = ls) (k : ow_G (ow_Γ l d rt Q) y.cls cc nL 0 ls [] M) : ow_C l d y cc nL rt As M Q := by
  intro cI ad D
  refine Met.ofW (cc := cc) (maxL := nL) (ret := rt) hy rfl ?_
  intro p e s m args below meth c s₁ B hml hv
  obtain ⟨rfl, hP, hK, hD, hN⟩ := hv
  have hts := atoms_spec (ws := ow_ws y cc nL rt) B.pre
  have hown : s.vm.findClass y.cls = some m.cls := findClass_of_methodNamed B.named
  have hl := lv_entry (As.map (ow_v ad)) (n := nL) (by rw [ow_sl_len]; exact hn)
  rw [lg_entry_eq]
  refine k p l e _ s m _ below meth c 0 0 _ cI ad D (ow_A ad) ⟨rfl, rfl, rfl, rfl, B.returns, rfl, rfl⟩ ⟨B.exec, B.bytes, hml, hown, fun w hw => hts w (List.mem_cons_of_mem _ hw), hN, hK, B.notSynchronized⟩ s.heap [] _ hP hD va_S.rf ?_
  subst hls
  unfold ow_ent
  rw [ow_lv_args ad As 0 _ (fun x hx => (List.mem_replicate.mp hx).2)]
  exact hl
/-! calls -/
theorem ow_blind {cI : Nat → ClassId} {ad : Nat → Nat} {D : va_G} {As : List Value} {M : ow_M} : FrameBlind (ow_Pc cI ad D As M) := by
  intro a U g mk h
  obtain ⟨h1, h2, h3, h4, h5⟩ := h
  exact ⟨h1, h2, va_K.moved (u := U) (U := U.calling g mk a) (Vm.Alike.refl U.vm) h3, h4, ow_nest_same (u := U) rfl h5⟩
theorem ow_pre {cI : Nat → ClassId} {ad : Nat → Nat} {D : va_G} {As : List Value} {M : ow_M} {s : State} {H : Heap} {A : Nat → Prop} (hP : va_P D vwCl (ow_w cI ad M) H) (hD : va_D A (ow_w cI ad M)) (hK : va_K D vwCl (ow_tys cI) s) (hN : ∀ w ∈ ow_nest, va_Nw w s) : ∀ U : State, U.heap = H → s.WarmedH U.vm → ow_Pc cI ad D As M (As.map (ow_v ad)).toArray U :=
  fun U hU hW => ⟨rfl, by rw [hU]; exact hP, va_K.moved hW.alike hK, ow_D_self hD, ow_nest_warm hW hN⟩
theorem ow_after {p : Program} {l : Launch} {e : Env} {R : Room} {s : State} {m : MethodId} {args : Array Value} {below : List Frame} {meth : Method} {c : Code} {H : Heap} {locs : List Loc} {cells slots : Nat} {Z : State → Prop} {cI : Nat → ClassId} {ad : Nat → Nat} {D : va_G} {A : Nat → Prop} {pc : Nat} {lsA : Array Slot} {st0 rest : List Value} {a : Array Value} {Q : Option Value → ow_M → Prop}
    (hr : va_Run p l e R s m args below meth c H locs cells slots 0 0 (F0 m pc lsA st0) rest (ow_Qc cI ad D Q a) (ow_A ad)) (hS : va_S A s.heap H locs) (hA : ∀ q, ow_A ad q → A q)
    (kk : ∀ (r : Option Value) (M : ow_M) (H1 : Heap) (locs1 : List Loc), Q r M → va_P D vwCl (ow_w cI ad M) H1 → va_S A s.heap H1 locs1 → W p l e R s m args below meth c H1 locs1 cells slots Z (F0 m (pc + 3) lsA ((r.map (ow_v ad)).toList ++ rest))) : W p l e R s m args below meth c H locs cells slots Z (F0 m pc lsA st0) := by
  intro T hT X
  obtain ⟨v, st₀, t, T', L, h0, X', hL, e1, e2, ⟨r, M, hv, hq, hp, hz, hk⟩, st⟩ := hr T hT X
  have hv := Outcome.returned.inj hv
  subst hv
  rw [h0] at hz hk
  obtain ⟨t2, a1, b1⟩ := kk r M T'.heap (locs ++ L) hq (by rw [e1]; exact hp)
    ⟨Nat.le_trans hS.1 (by rw [e1]; exact hz), fun q h1 h2 => by rw [e1, hk q (Nat.lt_of_lt_of_le h1 hS.1) (fun z => h2 (hA q z))]; exact hS.2.1 q h1 h2, fun q hq => by
      rcases List.mem_append.mp hq with h | h
      · exact hS.2.2 q h
      · exact hA _ (hL q h)⟩ T' rfl X'
  exact ⟨t2, st t2 a1, b1⟩
/-- what the tables say of a method that is called: its code, its class, how it is called, how many values it takes -/
def ow_okM (y : MethodName) (cc : ByteArray) (nL : Nat) (rt : Option FieldType) (stat : Bool) (n : Nat) : Prop :=
  Cond.code y cc nL rt ∈ ow_base ∧ Cond.initialized y.cls ∈ ow_base ∧ (y.cls ≠ "java/lang/invoke/MethodHandle" ∧ y.cls ≠ "java/lang/invoke/VarHandle") ∧ (parseMethodDescriptor y.desc).map (fun d => d.parameters.length) = some n ∧ (match stat with | true => Cond.static y ∈ ow_base | false => Cond.instanceMethod y ∈ ow_base ∧ Cond.selects y.cls y y ∈ ow_base)
def ow_lk (own : String) (idx : Nat) (y : MethodName) : Prop := Cond.methodLink own idx y ∈ ow_base ∨ ∃ host, Cond.methodLinkNest own idx y host ∈ ow_nest
def ow_rmOk (Γ : ow_Cx → Prop) (l0 : Launch) (d nL : Nat) : Prop := ∀ (p : Program) (l : Launch) (e : Env) (R : Room) (s : State) (m : MethodId) (args : Array Value) (below : List Frame) (meth : Method) (c : Code) (cells slots : Nat) (Z : State → Prop) (cI : Nat → ClassId) (ad : Nat → Nat) (D : va_G) (A : Nat → Prop),
    Γ (p, l, e, R, s, m, args, below, meth, c, cells, slots, Z, cI, ad, D, A) → l = l0 ∧ d + 1 ≤ R.frames ∧ 8 + (nL + 11) + 35 * d ≤ R.locals ∧ cells ≤ R.cells ∧ slots ≤ R.slots
theorem ow_rm_in {l0 : Launch} {d d2 nL2 : Nat} {rt : Option FieldType} {Q : Option Value → ow_M → Prop} (h : Nat.ble (d2 + 1) d = true) (hl : Nat.ble nL2 16 = true) : ow_rmOk (ow_Γ l0 d rt Q) l0 d2 nL2 := by
  intro p l e R s m args below meth c cells slots Z cI ad D A hΓ
  obtain ⟨h1, h2, h3, h4, -⟩ := hΓ
  subst h2; subst h3; subst h4
  have a := Nat.le_of_ble_eq_true h
  have b := Nat.le_of_ble_eq_true hl
  exact ⟨h1, a, by show 8 + (nL2 + 11) + 35 * d2 ≤ 35 * d; omega, Nat.le_refl _, Nat.le_refl _⟩
theorem ow_good {y : MethodName} {cc : ByteArray} {nL : Nat} {rt : Option FieldType} (h : Cond.code y cc nL rt ∈ ow_base) : GoodIn ow_base (ow_ws y cc nL rt) := by
  intro w hw
  have h1 : w ∈ ow_base := by
    rcases List.mem_cons.mp hw with e | e
    · rw [e]; exact h
    · exact e
  exact ⟨h1, good_of_word (List.mem_filter.mp h1).2⟩
theorem ow_rest {ad : Nat → Nat} {st : List Value} (h : (st.map fun v => v.category).sum ≤ 8) : ((st.map (ow_v ad)).map fun v => v.category).sum ≤ 8 := by
  rw [List.map_map]
  have e : ((fun v : Value => v.category) ∘ ow_v ad) = fun v => v.category := funext fun v => ow_v_cat ad v
  rw [e]
  exact h
theorem ow_cw {R : Room} {s : State} {args : Array Value} {own : String} {idx : Nat} {y : MethodName} {cc : ByteArray} {nL : Nat} {rt : Option FieldType} {stat : Bool} {n d : Nat} (hts : ∀ w ∈ ow_base, w.before args s = true) (ok : ow_okM y cc nL rt stat n) (hl : Cond.methodLink own idx y ∈ ow_base) (h1 : d + 1 ≤ R.frames) (h2 : 8 + (nL + 11) + 35 * d ≤ R.locals) : CallB R s args own idx y cc nL rt (ow_ws y cc nL rt) (ow_rm d) 0 0 n :=
  callB_of n hts (ow_good ok.1) rfl rfl rfl (hts _ ok.2.1) (hts _ hl) ⟨ok.2.2.1.1, ok.2.2.1.2, ok.2.2.2.1⟩ ⟨h1, h2⟩
theorem ow_cn {R : Room} {s : State} {args : Array Value} {own host : String} {idx : Nat} {y : MethodName} {cc : ByteArray} {nL : Nat} {rt : Option FieldType} {stat : Bool} {n d : Nat} (hts : ∀ w ∈ ow_base, w.before args s = true) (hN : ∀ w ∈ ow_nest, va_Nw w s) (ok : ow_okM y cc nL rt stat n) (hl : Cond.methodLinkNest own idx y host ∈ ow_nest) (h1 : d + 1 ≤ R.frames) (h2 : 8 + (nL + 11) + 35 * d ≤ R.locals) : va_CN R s args own idx y host cc nL rt (ow_ws y cc nL rt) (ow_rm d) 0 0 n :=
  va_cnB n hts (ow_good ok.1) rfl rfl rfl (hN _ hl) (hts _ ok.2.1) ⟨ok.2.2.1.1, ok.2.2.1.2, ok.2.2.2.1⟩ ⟨h1, h2⟩

/-! a row an instruction -/
theorem gw_iconst {Γ : ow_Cx → Prop} {own : String} {cc : ByteArray} {nL pc : Nat} {ls : List (Option Value)} {st : List Value} {M : ow_M} {n : Int} (v : Int32) (hd : decode cc pc = .ok (.iconst n, 1)) (hv : Int32.ofInt n = v) (k : ow_G Γ own cc nL (pc + 1) ls (.int v :: st) M) : ow_G Γ own cc nL pc ls st M := by
  intro p l e R s m args below meth c cells slots Z cI ad D A hΓ X H locs lsA hP hD hS hl
  exact lv_iconst X.1 X.2.1 hd hv (k p l e R s m args below meth c cells slots Z cI ad D A hΓ X H locs lsA hP hD hS hl)
theorem gw_bipush {Γ : ow_Cx → Prop} {own : String} {cc : ByteArray} {nL pc : Nat} {ls : List (Option Value)} {st : List Value} {M : ow_M} {n : Int} (v : Int32) (hd : decode cc pc = .ok (.bipush n, 2)) (hv : (Int8.ofInt n).toInt32 = v) (k : ow_G Γ own cc nL (pc + 2) ls (.int v :: st) M) : ow_G Γ own cc nL pc ls st M := by
  intro p l e R s m args below meth c cells slots Z cI ad D A hΓ X H locs lsA hP hD hS hl
  exact lv_bipush X.1 X.2.1 hd hv (k p l e R s m args below meth c cells slots Z cI ad D A hΓ X H locs lsA hP hD hS hl)
theorem gw_sipush {Γ : ow_Cx → Prop} {own : String} {cc : ByteArray} {nL pc : Nat} {ls : List (Option Value)} {st : List Value} {M : ow_M} {n : Int} (v : Int32) (hd : decode cc pc = .ok (.sipush n, 3)) (hv : (Int16.ofInt n).toInt32 = v) (k : ow_G Γ own cc nL (pc + 3) ls (.int v :: st) M) : ow_G Γ own cc nL pc ls st M := by
  intro p l e R s m args below meth c cells slots Z cI ad D A hΓ X H locs lsA hP hD hS hl
  exact lv_sipush X.1 X.2.1 hd hv (k p l e R s m args below meth c cells slots Z cI ad D A hΓ X H locs lsA hP hD hS hl)
theorem gw_lconst {Γ : ow_Cx → Prop} {own : String} {cc : ByteArray} {nL pc : Nat} {ls : List (Option Value)} {st : List Value} {M : ow_M} {n : Fin 2} (v : Int64) (hd : decode cc pc = .ok (.lconst n, 1)) (hv : Int64.ofNat (n : Nat) = v) (k : ow_G Γ own cc nL (pc + 1) ls (.long v :: st) M) : ow_G Γ own cc nL pc ls st M := by
  intro p l e R s m args below meth c cells slots Z cI ad D A hΓ X H locs lsA hP hD hS hl
  exact lv_lconst X.1 X.2.1 hd hv (k p l e R s m args below meth c cells slots Z cI ad D A hΓ X H locs lsA hP hD hS hl)
theorem gw_ldc2 {Γ : ow_Cx → Prop} {own : String} {cc : ByteArray} {nL pc : Nat} {ls : List (Option Value)} {st : List Value} {M : ow_M} {n : Nat} {v : Int64} (hw : Cond.constantLong own n v ∈ ow_base) (hd : decode cc pc = .ok (.ldc2_w n, 3)) (k : ow_G Γ own cc nL (pc + 3) ls (.long v :: st) M) : ow_G Γ own cc nL pc ls st M := by
  intro p l e R s m args below meth c cells slots Z cI ad D A hΓ X H locs lsA hP hD hS hl
  exact W.ldc2 X.1 X.2.1 X.2.2.2.1 (X.2.2.2.2.1 _ hw) rfl hd (k p l e R s m args below meth c cells slots Z cI ad D A hΓ X H locs lsA hP hD hS hl)
theorem gw_iadd {Γ : ow_Cx → Prop} {own : String} {cc : ByteArray} {nL pc : Nat} {ls : List (Option Value)} {st : List Value} {M : ow_M} {x y : Int32} (hd : decode cc pc = .ok (.iadd, 1)) (k : ow_G Γ own cc nL (pc + 1) ls (.int (x + y) :: st) M) : ow_G Γ own cc nL pc ls (.int y :: .int x :: st) M := by
  intro p l e R s m args below meth c cells slots Z cI ad D A hΓ X H locs lsA hP hD hS hl
  exact lv_iadd X.1 X.2.1 hd (k p l e R s m args below meth c cells slots Z cI ad D A hΓ X H locs lsA hP hD hS hl)
theorem gw_isub {Γ : ow_Cx → Prop} {own : String} {cc : ByteArray} {nL pc : Nat} {ls : List (Option Value)} {st : List Value} {M : ow_M} {x y : Int32} (hd : decode cc pc = .ok (.isub, 1)) (k : ow_G Γ own cc nL (pc + 1) ls (.int (x - y) :: st) M) : ow_G Γ own cc nL pc ls (.int y :: .int x :: st) M := by
  intro p l e R s m args below meth c cells slots Z cI ad D A hΓ X H locs lsA hP hD hS hl
  exact lv_isub X.1 X.2.1 hd (k p l e R s m args below meth c cells slots Z cI ad D A hΓ X H locs lsA hP hD hS hl)
theorem gw_imul {Γ : ow_Cx → Prop} {own : String} {cc : ByteArray} {nL pc : Nat} {ls : List (Option Value)} {st : List Value} {M : ow_M} {x y : Int32} (hd : decode cc pc = .ok (.imul, 1)) (k : ow_G Γ own cc nL (pc + 1) ls (.int (x * y) :: st) M) : ow_G Γ own cc nL pc ls (.int y :: .int x :: st) M := by
  intro p l e R s m args below meth c cells slots Z cI ad D A hΓ X H locs lsA hP hD hS hl
  exact lv_imul X.1 X.2.1 hd (k p l e R s m args below meth c cells slots Z cI ad D A hΓ X H locs lsA hP hD hS hl)
theorem gw_iand {Γ : ow_Cx → Prop} {own : String} {cc : ByteArray} {nL pc : Nat} {ls : List (Option Value)} {st : List Value} {M : ow_M} {x y : Int32} (hd : decode cc pc = .ok (.iand, 1)) (k : ow_G Γ own cc nL (pc + 1) ls (.int (x &&& y) :: st) M) : ow_G Γ own cc nL pc ls (.int y :: .int x :: st) M := by
  intro p l e R s m args below meth c cells slots Z cI ad D A hΓ X H locs lsA hP hD hS hl
  exact lv_iand X.1 X.2.1 hd (k p l e R s m args below meth c cells slots Z cI ad D A hΓ X H locs lsA hP hD hS hl)
theorem gw_ior {Γ : ow_Cx → Prop} {own : String} {cc : ByteArray} {nL pc : Nat} {ls : List (Option Value)} {st : List Value} {M : ow_M} {x y : Int32} (hd : decode cc pc = .ok (.ior, 1)) (k : ow_G Γ own cc nL (pc + 1) ls (.int (x ||| y) :: st) M) : ow_G Γ own cc nL pc ls (.int y :: .int x :: st) M := by
  intro p l e R s m args below meth c cells slots Z cI ad D A hΓ X H locs lsA hP hD hS hl
  exact lv_ior X.1 X.2.1 hd (k p l e R s m args below meth c cells slots Z cI ad D A hΓ X H locs lsA hP hD hS hl)
theorem gw_ixor {Γ : ow_Cx → Prop} {own : String} {cc : ByteArray} {nL pc : Nat} {ls : List (Option Value)} {st : List Value} {M : ow_M} {x y : Int32} (hd : decode cc pc = .ok (.ixor, 1)) (k : ow_G Γ own cc nL (pc + 1) ls (.int (x ^^^ y) :: st) M) : ow_G Γ own cc nL pc ls (.int y :: .int x :: st) M := by
  intro p l e R s m args below meth c cells slots Z cI ad D A hΓ X H locs lsA hP hD hS hl
  exact lv_ixor X.1 X.2.1 hd (k p l e R s m args below meth c cells slots Z cI ad D A hΓ X H locs lsA hP hD hS hl)
theorem gw_ishl {Γ : ow_Cx → Prop} {own : String} {cc : ByteArray} {nL pc : Nat} {ls : List (Option Value)} {st : List Value} {M : ow_M} {x y : Int32} (hd : decode cc pc = .ok (.ishl, 1)) (k : ow_G Γ own cc nL (pc + 1) ls (.int (x <<< (y &&& 31)) :: st) M) : ow_G Γ own cc nL pc ls (.int y :: .int x :: st) M := by
  intro p l e R s m args below meth c cells slots Z cI ad D A hΓ X H locs lsA hP hD hS hl
  exact lv_ishl X.1 X.2.1 hd (k p l e R s m args below meth c cells slots Z cI ad D A hΓ X H locs lsA hP hD hS hl)
theorem gw_ishr {Γ : ow_Cx → Prop} {own : String} {cc : ByteArray} {nL pc : Nat} {ls : List (Option Value)} {st : List Value} {M : ow_M} {x y : Int32} (hd : decode cc pc = .ok (.ishr, 1)) (k : ow_G Γ own cc nL (pc + 1) ls (.int (x >>> (y &&& 31)) :: st) M) : ow_G Γ own cc nL pc ls (.int y :: .int x :: st) M := by
  intro p l e R s m args below meth c cells slots Z cI ad D A hΓ X H locs lsA hP hD hS hl
  exact lv_ishr X.1 X.2.1 hd (k p l e R s m args below meth c cells slots Z cI ad D A hΓ X H locs lsA hP hD hS hl)
theorem gw_idiv {Γ : ow_Cx → Prop} {own : String} {cc : ByteArray} {nL pc : Nat} {ls : List (Option Value)} {st : List Value} {M : ow_M} {x y : Int32} (hne : ¬ y = 0) (hd : decode cc pc = .ok (.idiv, 1)) (k : ow_G Γ own cc nL (pc + 1) ls (.int (x / y) :: st) M) : ow_G Γ own cc nL pc ls (.int y :: .int x :: st) M := by
  intro p l e R s m args below meth c cells slots Z cI ad D A hΓ X H locs lsA hP hD hS hl
  exact lv_idiv X.1 X.2.1 hd hne (k p l e R s m args below meth c cells slots Z cI ad D A hΓ X H locs lsA hP hD hS hl)
theorem gw_irem {Γ : ow_Cx → Prop} {own : String} {cc : ByteArray} {nL pc : Nat} {ls : List (Option Value)} {st : List Value} {M : ow_M} {x y : Int32} (hne : ¬ y = 0) (hd : decode cc pc = .ok (.irem, 1)) (k : ow_G Γ own cc nL (pc + 1) ls (.int (x - x / y * y) :: st) M) : ow_G Γ own cc nL pc ls (.int y :: .int x :: st) M := by
  intro p l e R s m args below meth c cells slots Z cI ad D A hΓ X H locs lsA hP hD hS hl
  exact lv_irem X.1 X.2.1 hd hne (k p l e R s m args below meth c cells slots Z cI ad D A hΓ X H locs lsA hP hD hS hl)
theorem gw_ladd {Γ : ow_Cx → Prop} {own : String} {cc : ByteArray} {nL pc : Nat} {ls : List (Option Value)} {st : List Value} {M : ow_M} {x y : Int64} (hd : decode cc pc = .ok (.ladd, 1)) (k : ow_G Γ own cc nL (pc + 1) ls (.long (x + y) :: st) M) : ow_G Γ own cc nL pc ls (.long y :: .long x :: st) M := by
  intro p l e R s m args below meth c cells slots Z cI ad D A hΓ X H locs lsA hP hD hS hl
  exact lv_ladd X.1 X.2.1 hd (k p l e R s m args below meth c cells slots Z cI ad D A hΓ X H locs lsA hP hD hS hl)
theorem gw_lsub {Γ : ow_Cx → Prop} {own : String} {cc : ByteArray} {nL pc : Nat} {ls : List (Option Value)} {st : List Value} {M : ow_M} {x y : Int64} (hd : decode cc pc = .ok (.lsub, 1)) (k : ow_G Γ own cc nL (pc + 1) ls (.long (x - y) :: st) M) : ow_G Γ own cc nL pc ls (.long y :: .long x :: st) M := by
  intro p l e R s m args below meth c cells slots Z cI ad D A hΓ X H locs lsA hP hD hS hl
  exact lv_lsub X.1 X.2.1 hd (k p l e R s m args below meth c cells slots Z cI ad D A hΓ X H locs lsA hP hD hS hl)
theorem gw_lmul {Γ : ow_Cx → Prop} {own : String} {cc : ByteArray} {nL pc : Nat} {ls : List (Option Value)} {st : List Value} {M : ow_M} {x y : Int64} (hd : decode cc pc = .ok (.lmul, 1)) (k : ow_G Γ own cc nL (pc + 1) ls (.long (x * y) :: st) M) : ow_G Γ own cc nL pc ls (.long y :: .long x :: st) M := by
  intro p l e R s m args below meth c cells slots Z cI ad D A hΓ X H locs lsA hP hD hS hl
  exact lv_lmul X.1 X.2.1 hd (k p l e R s m args below meth c cells slots Z cI ad D A hΓ X H locs lsA hP hD hS hl)
theorem gw_land {Γ : ow_Cx → Prop} {own : String} {cc : ByteArray} {nL pc : Nat} {ls : List (Option Value)} {st : List Value} {M : ow_M} {x y : Int64} (hd : decode cc pc = .ok (.land, 1)) (k : ow_G Γ own cc nL (pc + 1) ls (.long (x &&& y) :: st) M) : ow_G Γ own cc nL pc ls (.long y :: .long x :: st) M := by
  intro p l e R s m args below meth c cells slots Z cI ad D A hΓ X H locs lsA hP hD hS hl
  exact t_land X.1 X.2.1 hd rfl (k p l e R s m args below meth c cells slots Z cI ad D A hΓ X H locs lsA hP hD hS hl)
theorem gw_lor {Γ : ow_Cx → Prop} {own : String} {cc : ByteArray} {nL pc : Nat} {ls : List (Option Value)} {st : List Value} {M : ow_M} {x y : Int64} (hd : decode cc pc = .ok (.lor, 1)) (k : ow_G Γ own cc nL (pc + 1) ls (.long (x ||| y) :: st) M) : ow_G Γ own cc nL pc ls (.long y :: .long x :: st) M := by
  intro p l e R s m args below meth c cells slots Z cI ad D A hΓ X H locs lsA hP hD hS hl
  exact t_lor X.1 X.2.1 hd rfl (k p l e R s m args below meth c cells slots Z cI ad D A hΓ X H locs lsA hP hD hS hl)
theorem gw_ldiv {Γ : ow_Cx → Prop} {own : String} {cc : ByteArray} {nL pc : Nat} {ls : List (Option Value)} {st : List Value} {M : ow_M} {x y : Int64} (hne : ¬ y = 0) (hd : decode cc pc = .ok (.ldiv, 1)) (k : ow_G Γ own cc nL (pc + 1) ls (.long (x / y) :: st) M) : ow_G Γ own cc nL pc ls (.long y :: .long x :: st) M := by
  intro p l e R s m args below meth c cells slots Z cI ad D A hΓ X H locs lsA hP hD hS hl
  exact lv_ldiv X.1 X.2.1 hd hne (k p l e R s m args below meth c cells slots Z cI ad D A hΓ X H locs lsA hP hD hS hl)
theorem gw_lrem {Γ : ow_Cx → Prop} {own : String} {cc : ByteArray} {nL pc : Nat} {ls : List (Option Value)} {st : List Value} {M : ow_M} {x y : Int64} (hne : ¬ y = 0) (hd : decode cc pc = .ok (.lrem, 1)) (k : ow_G Γ own cc nL (pc + 1) ls (.long (x - x / y * y) :: st) M) : ow_G Γ own cc nL pc ls (.long y :: .long x :: st) M := by
  intro p l e R s m args below meth c cells slots Z cI ad D A hΓ X H locs lsA hP hD hS hl
  exact lv_lrem X.1 X.2.1 hd hne (k p l e R s m args below meth c cells slots Z cI ad D A hΓ X H locs lsA hP hD hS hl)
theorem gw_lshl {Γ : ow_Cx → Prop} {own : String} {cc : ByteArray} {nL pc : Nat} {ls : List (Option Value)} {st : List Value} {M : ow_M} {x : Int64} {y : Int32} (hd : decode cc pc = .ok (.lshl, 1)) (k : ow_G Γ own cc nL (pc + 1) ls (.long (x <<< (y.toInt64 &&& 63)) :: st) M) : ow_G Γ own cc nL pc ls (.int y :: .long x :: st) M := by
  intro p l e R s m args below meth c cells slots Z cI ad D A hΓ X H locs lsA hP hD hS hl
  exact lv_lshl X.1 X.2.1 hd rfl (k p l e R s m args below meth c cells slots Z cI ad D A hΓ X H locs lsA hP hD hS hl)
theorem gw_i2l {Γ : ow_Cx → Prop} {own : String} {cc : ByteArray} {nL pc : Nat} {ls : List (Option Value)} {st : List Value} {M : ow_M} {x : Int32} (hd : decode cc pc = .ok (.i2l, 1)) (k : ow_G Γ own cc nL (pc + 1) ls (.long x.toInt64 :: st) M) : ow_G Γ own cc nL pc ls (.int x :: st) M := by
  intro p l e R s m args below meth c cells slots Z cI ad D A hΓ X H locs lsA hP hD hS hl
  exact lv_i2l X.1 X.2.1 hd rfl (k p l e R s m args below meth c cells slots Z cI ad D A hΓ X H locs lsA hP hD hS hl)
theorem gw_i2b {Γ : ow_Cx → Prop} {own : String} {cc : ByteArray} {nL pc : Nat} {ls : List (Option Value)} {st : List Value} {M : ow_M} {x : Int32} (hd : decode cc pc = .ok (.i2b, 1)) (k : ow_G Γ own cc nL (pc + 1) ls (.int x.toInt8.toInt32 :: st) M) : ow_G Γ own cc nL pc ls (.int x :: st) M := by
  intro p l e R s m args below meth c cells slots Z cI ad D A hΓ X H locs lsA hP hD hS hl
  exact lv_i2b X.1 X.2.1 hd rfl (k p l e R s m args below meth c cells slots Z cI ad D A hΓ X H locs lsA hP hD hS hl)
theorem gw_i2s {Γ : ow_Cx → Prop} {own : String} {cc : ByteArray} {nL pc : Nat} {ls : List (Option Value)} {st : List Value} {M : ow_M} {x : Int32} (hd : decode cc pc = .ok (.i2s, 1)) (k : ow_G Γ own cc nL (pc + 1) ls (.int x.toInt16.toInt32 :: st) M) : ow_G Γ own cc nL pc ls (.int x :: st) M := by
  intro p l e R s m args below meth c cells slots Z cI ad D A hΓ X H locs lsA hP hD hS hl
  exact lv_i2s X.1 X.2.1 hd rfl (k p l e R s m args below meth c cells slots Z cI ad D A hΓ X H locs lsA hP hD hS hl)
theorem gw_lcmp {Γ : ow_Cx → Prop} {own : String} {cc : ByteArray} {nL pc : Nat} {ls : List (Option Value)} {st : List Value} {M : ow_M} {x y : Int64} (hd : decode cc pc = .ok (.lcmp, 1)) (k : ow_G Γ own cc nL (pc + 1) ls (.int (lg_cmp x y) :: st) M) : ow_G Γ own cc nL pc ls (.long y :: .long x :: st) M := by
  intro p l e R s m args below meth c cells slots Z cI ad D A hΓ X H locs lsA hP hD hS hl
  exact W.lcmp X.1 X.2.1 hd (k p l e R s m args below meth c cells slots Z cI ad D A hΓ X H locs lsA hP hD hS hl)
theorem gw_dup {Γ : ow_Cx → Prop} {own : String} {cc : ByteArray} {nL pc : Nat} {ls : List (Option Value)} {st : List Value} {M : ow_M} {v : Value} (hv : v.category = 1) (hd : decode cc pc = .ok (.dup, 1)) (k : ow_G Γ own cc nL (pc + 1) ls (v :: v :: st) M) : ow_G Γ own cc nL pc ls (v :: st) M := by
  intro p l e R s m args below meth c cells slots Z cI ad D A hΓ X H locs lsA hP hD hS hl
  exact lv_dup X.1 X.2.1 hd (by rw [ow_v_cat]; exact hv) (k p l e R s m args below meth c cells slots Z cI ad D A hΓ X H locs lsA hP hD hS hl)
theorem gw_dup2 {Γ : ow_Cx → Prop} {own : String} {cc : ByteArray} {nL pc : Nat} {ls : List (Option Value)} {st : List Value} {M : ow_M} {v u : Value} (hv : v.category = 1) (hu : u.category = 1) (hd : decode cc pc = .ok (.dup2, 1)) (k : ow_G Γ own cc nL (pc + 1) ls (v :: u :: v :: u :: st) M) : ow_G Γ own cc nL pc ls (v :: u :: st) M := by
  intro p l e R s m args below meth c cells slots Z cI ad D A hΓ X H locs lsA hP hD hS hl
  exact lv_dup2_11 X.1 X.2.1 hd (by rw [ow_v_cat]; exact hv) (by rw [ow_v_cat]; exact hu) (k p l e R s m args below meth c cells slots Z cI ad D A hΓ X H locs lsA hP hD hS hl)
theorem gw_goto {Γ : ow_Cx → Prop} {own : String} {cc : ByteArray} {nL pc : Nat} {ls : List (Option Value)} {st : List Value} {M : ow_M} {off : Int} {tgt : Nat} (ht : (pc : Int) + off = (tgt : Int)) (hd : decode cc pc = .ok (.goto off, 3)) (k : ow_G Γ own cc nL tgt ls st M) : ow_G Γ own cc nL pc ls st M := by
  intro p l e R s m args below meth c cells slots Z cI ad D A hΓ X H locs lsA hP hD hS hl
  exact lv_goto X.1 X.2.1 hd ht (k p l e R s m args below meth c cells slots Z cI ad D A hΓ X H locs lsA hP hD hS hl)
theorem gw_if_eq {Γ : ow_Cx → Prop} {own : String} {cc : ByteArray} {nL pc : Nat} {ls : List (Option Value)} {st : List Value} {M : ow_M} {tgt : Nat} {off : Int} {x : Int32} (hd : decode cc pc = .ok (.ifCond .eq off, 3)) (ht : (pc : Int) + off = (tgt : Int)) (kt : x = 0 → ow_G Γ own cc nL tgt ls st M) (kf : ¬ x = 0 → ow_G Γ own cc nL (pc + 3) ls st M) : ow_G Γ own cc nL pc ls (.int x :: st) M := by
  intro p l e R s m args below meth c cells slots Z cI ad D A hΓ X H locs lsA hP hD hS hl
  exact lv_if_eq X.1 X.2.1 hd ht (fun q => kt q p l e R s m args below meth c cells slots Z cI ad D A hΓ X H locs lsA hP hD hS hl) (fun q => kf q p l e R s m args below meth c cells slots Z cI ad D A hΓ X H locs lsA hP hD hS hl)
theorem gw_icmp_eq {Γ : ow_Cx → Prop} {own : String} {cc : ByteArray} {nL pc : Nat} {ls : List (Option Value)} {st : List Value} {M : ow_M} {tgt : Nat} {off : Int} {x y : Int32} (hd : decode cc pc = .ok (.if_icmp .eq off, 3)) (ht : (pc : Int) + off = (tgt : Int)) (kt : x = y → ow_G Γ own cc nL tgt ls st M) (kf : ¬ x = y → ow_G Γ own cc nL (pc + 3) ls st M) : ow_G Γ own cc nL pc ls (.int y :: .int x :: st) M := by
  intro p l e R s m args below meth c cells slots Z cI ad D A hΓ X H locs lsA hP hD hS hl
  exact lv_icmp_eq X.1 X.2.1 hd ht (fun q => kt q p l e R s m args below meth c cells slots Z cI ad D A hΓ X H locs lsA hP hD hS hl) (fun q => kf q p l e R s m args below meth c cells slots Z cI ad D A hΓ X H locs lsA hP hD hS hl)
theorem gw_if_ne {Γ : ow_Cx → Prop} {own : String} {cc : ByteArray} {nL pc : Nat} {ls : List (Option Value)} {st : List Value} {M : ow_M} {tgt : Nat} {off : Int} {x : Int32} (hd : decode cc pc = .ok (.ifCond .ne off, 3)) (ht : (pc : Int) + off = (tgt : Int)) (kt : ¬ x = 0 → ow_G Γ own cc nL tgt ls st M) (kf : x = 0 → ow_G Γ own cc nL (pc + 3) ls st M) : ow_G Γ own cc nL pc ls (.int x :: st) M := by
  intro p l e R s m args below meth c cells slots Z cI ad D A hΓ X H locs lsA hP hD hS hl
  exact lv_if_ne X.1 X.2.1 hd ht (fun q => kt q p l e R s m args below meth c cells slots Z cI ad D A hΓ X H locs lsA hP hD hS hl) (fun q => kf q p l e R s m args below meth c cells slots Z cI ad D A hΓ X H locs lsA hP hD hS hl)
theorem gw_icmp_ne {Γ : ow_Cx → Prop} {own : String} {cc : ByteArray} {nL pc : Nat} {ls : List (Option Value)} {st : List Value} {M : ow_M} {tgt : Nat} {off : Int} {x y : Int32} (hd : decode cc pc = .ok (.if_icmp .ne off, 3)) (ht : (pc : Int) + off = (tgt : Int)) (kt : ¬ x = y → ow_G Γ own cc nL tgt ls st M) (kf : x = y → ow_G Γ own cc nL (pc + 3) ls st M) : ow_G Γ own cc nL pc ls (.int y :: .int x :: st) M := by
  intro p l e R s m args below meth c cells slots Z cI ad D A hΓ X H locs lsA hP hD hS hl
  exact lv_icmp_ne X.1 X.2.1 hd ht (fun q => kt q p l e R s m args below meth c cells slots Z cI ad D A hΓ X H locs lsA hP hD hS hl) (fun q => kf q p l e R s m args below meth c cells slots Z cI ad D A hΓ X H locs lsA hP hD hS hl)
theorem gw_if_lt {Γ : ow_Cx → Prop} {own : String} {cc : ByteArray} {nL pc : Nat} {ls : List (Option Value)} {st : List Value} {M : ow_M} {tgt : Nat} {off : Int} {x : Int32} (hd : decode cc pc = .ok (.ifCond .lt off, 3)) (ht : (pc : Int) + off = (tgt : Int)) (kt : x < 0 → ow_G Γ own cc nL tgt ls st M) (kf : ¬ x < 0 → ow_G Γ own cc nL (pc + 3) ls st M) : ow_G Γ own cc nL pc ls (.int x :: st) M := by
  intro p l e R s m args below meth c cells slots Z cI ad D A hΓ X H locs lsA hP hD hS hl
  exact lv_if_lt X.1 X.2.1 hd ht (fun q => kt q p l e R s m args below meth c cells slots Z cI ad D A hΓ X H locs lsA hP hD hS hl) (fun q => kf q p l e R s m args below meth c cells slots Z cI ad D A hΓ X H locs lsA hP hD hS hl)
theorem gw_icmp_lt {Γ : ow_Cx → Prop} {own : String} {cc : ByteArray} {nL pc : Nat} {ls : List (Option Value)} {st : List Value} {M : ow_M} {tgt : Nat} {off : Int} {x y : Int32} (hd : decode cc pc = .ok (.if_icmp .lt off, 3)) (ht : (pc : Int) + off = (tgt : Int)) (kt : x < y → ow_G Γ own cc nL tgt ls st M) (kf : ¬ x < y → ow_G Γ own cc nL (pc + 3) ls st M) : ow_G Γ own cc nL pc ls (.int y :: .int x :: st) M := by
  intro p l e R s m args below meth c cells slots Z cI ad D A hΓ X H locs lsA hP hD hS hl
  exact lv_icmp_lt X.1 X.2.1 hd ht (fun q => kt q p l e R s m args below meth c cells slots Z cI ad D A hΓ X H locs lsA hP hD hS hl) (fun q => kf q p l e R s m args below meth c cells slots Z cI ad D A hΓ X H locs lsA hP hD hS hl)
theorem gw_if_ge {Γ : ow_Cx → Prop} {own : String} {cc : ByteArray} {nL pc : Nat} {ls : List (Option Value)} {st : List Value} {M : ow_M} {tgt : Nat} {off : Int} {x : Int32} (hd : decode cc pc = .ok (.ifCond .ge off, 3)) (ht : (pc : Int) + off = (tgt : Int)) (kt : 0 ≤ x → ow_G Γ own cc nL tgt ls st M) (kf : ¬ 0 ≤ x → ow_G Γ own cc nL (pc + 3) ls st M) : ow_G Γ own cc nL pc ls (.int x :: st) M := by
  intro p l e R s m args below meth c cells slots Z cI ad D A hΓ X H locs lsA hP hD hS hl
  exact lv_if_ge X.1 X.2.1 hd ht (fun q => kt q p l e R s m args below meth c cells slots Z cI ad D A hΓ X H locs lsA hP hD hS hl) (fun q => kf q p l e R s m args below meth c cells slots Z cI ad D A hΓ X H locs lsA hP hD hS hl)
theorem gw_icmp_ge {Γ : ow_Cx → Prop} {own : String} {cc : ByteArray} {nL pc : Nat} {ls : List (Option Value)} {st : List Value} {M : ow_M} {tgt : Nat} {off : Int} {x y : Int32} (hd : decode cc pc = .ok (.if_icmp .ge off, 3)) (ht : (pc : Int) + off = (tgt : Int)) (kt : y ≤ x → ow_G Γ own cc nL tgt ls st M) (kf : ¬ y ≤ x → ow_G Γ own cc nL (pc + 3) ls st M) : ow_G Γ own cc nL pc ls (.int y :: .int x :: st) M := by
  intro p l e R s m args below meth c cells slots Z cI ad D A hΓ X H locs lsA hP hD hS hl
  exact lv_icmp_ge X.1 X.2.1 hd ht (fun q => kt q p l e R s m args below meth c cells slots Z cI ad D A hΓ X H locs lsA hP hD hS hl) (fun q => kf q p l e R s m args below meth c cells slots Z cI ad D A hΓ X H locs lsA hP hD hS hl)
theorem gw_if_gt {Γ : ow_Cx → Prop} {own : String} {cc : ByteArray} {nL pc : Nat} {ls : List (Option Value)} {st : List Value} {M : ow_M} {tgt : Nat} {off : Int} {x : Int32} (hd : decode cc pc = .ok (.ifCond .gt off, 3)) (ht : (pc : Int) + off = (tgt : Int)) (kt : 0 < x → ow_G Γ own cc nL tgt ls st M) (kf : ¬ 0 < x → ow_G Γ own cc nL (pc + 3) ls st M) : ow_G Γ own cc nL pc ls (.int x :: st) M := by
  intro p l e R s m args below meth c cells slots Z cI ad D A hΓ X H locs lsA hP hD hS hl
  exact lv_if_gt X.1 X.2.1 hd ht (fun q => kt q p l e R s m args below meth c cells slots Z cI ad D A hΓ X H locs lsA hP hD hS hl) (fun q => kf q p l e R s m args below meth c cells slots Z cI ad D A hΓ X H locs lsA hP hD hS hl)
theorem gw_icmp_gt {Γ : ow_Cx → Prop} {own : String} {cc : ByteArray} {nL pc : Nat} {ls : List (Option Value)} {st : List Value} {M : ow_M} {tgt : Nat} {off : Int} {x y : Int32} (hd : decode cc pc = .ok (.if_icmp .gt off, 3)) (ht : (pc : Int) + off = (tgt : Int)) (kt : y < x → ow_G Γ own cc nL tgt ls st M) (kf : ¬ y < x → ow_G Γ own cc nL (pc + 3) ls st M) : ow_G Γ own cc nL pc ls (.int y :: .int x :: st) M := by
  intro p l e R s m args below meth c cells slots Z cI ad D A hΓ X H locs lsA hP hD hS hl
  exact lv_icmp_gt X.1 X.2.1 hd ht (fun q => kt q p l e R s m args below meth c cells slots Z cI ad D A hΓ X H locs lsA hP hD hS hl) (fun q => kf q p l e R s m args below meth c cells slots Z cI ad D A hΓ X H locs lsA hP hD hS hl)
theorem gw_if_le {Γ : ow_Cx → Prop} {own : String} {cc : ByteArray} {nL pc : Nat} {ls : List (Option Value)} {st : List Value} {M : ow_M} {tgt : Nat} {off : Int} {x : Int32} (hd : decode cc pc = .ok (.ifCond .le off, 3)) (ht : (pc : Int) + off = (tgt : Int)) (kt : x ≤ 0 → ow_G Γ own cc nL tgt ls st M) (kf : ¬ x ≤ 0 → ow_G Γ own cc nL (pc + 3) ls st M) : ow_G Γ own cc nL pc ls (.int x :: st) M := by
  intro p l e R s m args below meth c cells slots Z cI ad D A hΓ X H locs lsA hP hD hS hl
  exact lv_if_le X.1 X.2.1 hd ht (fun q => kt q p l e R s m args below meth c cells slots Z cI ad D A hΓ X H locs lsA hP hD hS hl) (fun q => kf q p l e R s m args below meth c cells slots Z cI ad D A hΓ X H locs lsA hP hD hS hl)
theorem gw_icmp_le {Γ : ow_Cx → Prop} {own : String} {cc : ByteArray} {nL pc : Nat} {ls : List (Option Value)} {st : List Value} {M : ow_M} {tgt : Nat} {off : Int} {x y : Int32} (hd : decode cc pc = .ok (.if_icmp .le off, 3)) (ht : (pc : Int) + off = (tgt : Int)) (kt : x ≤ y → ow_G Γ own cc nL tgt ls st M) (kf : ¬ x ≤ y → ow_G Γ own cc nL (pc + 3) ls st M) : ow_G Γ own cc nL pc ls (.int y :: .int x :: st) M := by
  intro p l e R s m args below meth c cells slots Z cI ad D A hΓ X H locs lsA hP hD hS hl
  exact lv_icmp_le X.1 X.2.1 hd ht (fun q => kt q p l e R s m args below meth c cells slots Z cI ad D A hΓ X H locs lsA hP hD hS hl) (fun q => kf q p l e R s m args below meth c cells slots Z cI ad D A hΓ X H locs lsA hP hD hS hl)
theorem gw_tableIn {Γ : ow_Cx → Prop} {own : String} {cc : ByteArray} {nL pc : Nat} {ls : List (Option Value)} {st : List Value} {M : ow_M} {dflt lo hi : Int} {offs : Array Int} {len : Nat} {x : Int32} {off : Int} {tgt : Nat} (hd : decode cc pc = .ok (.tableswitch dflt lo hi offs, len)) (h1 : ¬ x.toInt < lo) (h2 : ¬ hi < x.toInt) (ho : offs[(x.toInt - lo).toNat]? = some off) (ht : (pc : Int) + off = (tgt : Int)) (k : ow_G Γ own cc nL tgt ls st M) : ow_G Γ own cc nL pc ls (.int x :: st) M := by
  intro p l e R s m args below meth c cells slots Z cI ad D A hΓ X H locs lsA hP hD hS hl
  exact lv_tableIn X.1 X.2.1 hd h1 h2 ho ht (k p l e R s m args below meth c cells slots Z cI ad D A hΓ X H locs lsA hP hD hS hl)
theorem gw_tableOut {Γ : ow_Cx → Prop} {own : String} {cc : ByteArray} {nL pc : Nat} {ls : List (Option Value)} {st : List Value} {M : ow_M} {dflt lo hi : Int} {offs : Array Int} {len : Nat} {x : Int32} {tgt : Nat} (hd : decode cc pc = .ok (.tableswitch dflt lo hi offs, len)) (h : x.toInt < lo ∨ hi < x.toInt) (ht : (pc : Int) + dflt = (tgt : Int)) (k : ow_G Γ own cc nL tgt ls st M) : ow_G Γ own cc nL pc ls (.int x :: st) M := by
  intro p l e R s m args below meth c cells slots Z cI ad D A hΓ X H locs lsA hP hD hS hl
  exact lv_tableOut X.1 X.2.1 hd h ht (k p l e R s m args below meth c cells slots Z cI ad D A hΓ X H locs lsA hP hD hS hl)
theorem gw_lookup {Γ : ow_Cx → Prop} {own : String} {cc : ByteArray} {nL pc : Nat} {ls : List (Option Value)} {st : List Value} {M : ow_M} {dflt : Int} {ps : Array (Int × Int)} {len : Nat} {x : Int32} {off : Int} {tgt : Nat} (hd : decode cc pc = .ok (.lookupswitch dflt ps, len)) (hp : (ps.toList.zip (ps.toList.drop 1)).all (fun (a, next) => a.1 < next.1) = true) (ho : Op.lookupswitch.offset ps.toList dflt x.toInt = off) (ht : (pc : Int) + off = (tgt : Int)) (k : ow_G Γ own cc nL tgt ls st M) : ow_G Γ own cc nL pc ls (.int x :: st) M := by
  intro p l e R s m args below meth c cells slots Z cI ad D A hΓ X H locs lsA hP hD hS hl
  exact lv_lookup X.1 X.2.1 hd hp ho ht (k p l e R s m args below meth c cells slots Z cI ad D A hΓ X H locs lsA hP hD hS hl)
theorem gw_iload_n {Γ : ow_Cx → Prop} {own : String} {cc : ByteArray} {nL pc : Nat} {ls : List (Option Value)} {st : List Value} {M : ow_M} {j : Fin 4} {i : Nat} {x : Int32} (hd : decode cc pc = .ok (.iload_n j, 1)) (hj : (j : Nat) = i) (h : ls[i]? = some (some (.int x))) (k : ow_G Γ own cc nL (pc + 1) ls (.int x :: st) M) : ow_G Γ own cc nL pc ls st M := by
  intro p l e R s m args below meth c cells slots Z cI ad D A hΓ X H locs lsA hP hD hS hl
  exact lv_iload_n X.1 X.2.1 hd hj (ow_at hl h) (k p l e R s m args below meth c cells slots Z cI ad D A hΓ X H locs lsA hP hD hS hl)
theorem gw_iload {Γ : ow_Cx → Prop} {own : String} {cc : ByteArray} {nL pc : Nat} {ls : List (Option Value)} {st : List Value} {M : ow_M} {i : Nat} {x : Int32} (hd : decode cc pc = .ok (.iload i, 2)) (h : ls[i]? = some (some (.int x))) (k : ow_G Γ own cc nL (pc + 2) ls (.int x :: st) M) : ow_G Γ own cc nL pc ls st M := by
  intro p l e R s m args below meth c cells slots Z cI ad D A hΓ X H locs lsA hP hD hS hl
  exact lv_iload X.1 X.2.1 hd (ow_at hl h) (k p l e R s m args below meth c cells slots Z cI ad D A hΓ X H locs lsA hP hD hS hl)
theorem gw_istore_n {Γ : ow_Cx → Prop} {own : String} {cc : ByteArray} {nL pc : Nat} {ls : List (Option Value)} {st : List Value} {M : ow_M} {j : Fin 4} {i : Nat} {x : Int32} (hd : decode cc pc = .ok (.istore_n j, 1)) (hj : (j : Nat) = i) (hn : i < nL) (hc : ow_c1 ls i = true) (k : ow_G Γ own cc nL (pc + 1) (ls.set i (some (.int x))) st M) : ow_G Γ own cc nL pc ls (.int x :: st) M := by
  intro p l e R s m args below meth c cells slots Z cI ad D A hΓ X H locs lsA hP hD hS hl
  exact lv_istore_n X.1 X.2.1 hd hj hl hn rfl (fun lsB hB => k p l e R s m args below meth c cells slots Z cI ad D A hΓ X H locs lsB hP hD hS (ow_has_mono hB (ow_set1 hc)))
theorem gw_istore {Γ : ow_Cx → Prop} {own : String} {cc : ByteArray} {nL pc : Nat} {ls : List (Option Value)} {st : List Value} {M : ow_M} {i : Nat} {x : Int32} (hd : decode cc pc = .ok (.istore i, 2)) (hn : i < nL) (hc : ow_c1 ls i = true) (k : ow_G Γ own cc nL (pc + 2) (ls.set i (some (.int x))) st M) : ow_G Γ own cc nL pc ls (.int x :: st) M := by
  intro p l e R s m args below meth c cells slots Z cI ad D A hΓ X H locs lsA hP hD hS hl
  exact lv_istore X.1 X.2.1 hd hl hn rfl (fun lsB hB => k p l e R s m args below meth c cells slots Z cI ad D A hΓ X H locs lsB hP hD hS (ow_has_mono hB (ow_set1 hc)))
theorem gw_lload_n {Γ : ow_Cx → Prop} {own : String} {cc : ByteArray} {nL pc : Nat} {ls : List (Option Value)} {st : List Value} {M : ow_M} {j : Fin 4} {i : Nat} {x : Int64} (hd : decode cc pc = .ok (.lload_n j, 1)) (hj : (j : Nat) = i) (h : ls[i]? = some (some (.long x))) (k : ow_G Γ own cc nL (pc + 1) ls (.long x :: st) M) : ow_G Γ own cc nL pc ls st M := by
  intro p l e R s m args below meth c cells slots Z cI ad D A hΓ X H locs lsA hP hD hS hl
  exact lv_lload_n X.1 X.2.1 hd hj (ow_at hl h) (k p l e R s m args below meth c cells slots Z cI ad D A hΓ X H locs lsA hP hD hS hl)
theorem gw_lload {Γ : ow_Cx → Prop} {own : String} {cc : ByteArray} {nL pc : Nat} {ls : List (Option Value)} {st : List Value} {M : ow_M} {i : Nat} {x : Int64} (hd : decode cc pc = .ok (.lload i, 2)) (h : ls[i]? = some (some (.long x))) (k : ow_G Γ own cc nL (pc + 2) ls (.long x :: st) M) : ow_G Γ own cc nL pc ls st M := by
  intro p l e R s m args below meth c cells slots Z cI ad D A hΓ X H locs lsA hP hD hS hl
  exact lv_lload X.1 X.2.1 hd (ow_at hl h) (k p l e R s m args below meth c cells slots Z cI ad D A hΓ X H locs lsA hP hD hS hl)
theorem gw_lstore_n {Γ : ow_Cx → Prop} {own : String} {cc : ByteArray} {nL pc : Nat} {ls : List (Option Value)} {st : List Value} {M : ow_M} {j : Fin 4} {i : Nat} {x : Int64} (hd : decode cc pc = .ok (.lstore_n j, 1)) (hj : (j : Nat) = i) (hn : i + 1 < nL) (hc : ow_c1 ls i = true) (k : ow_G Γ own cc nL (pc + 1) ((ls.set i (some (.long x))).set (i + 1) none) st M) : ow_G Γ own cc nL pc ls (.long x :: st) M := by
  intro p l e R s m args below meth c cells slots Z cI ad D A hΓ X H locs lsA hP hD hS hl
  exact lv_lstore_n X.1 X.2.1 hd hj hl hn rfl (fun lsB hB => k p l e R s m args below meth c cells slots Z cI ad D A hΓ X H locs lsB hP hD hS (ow_has_mono hB (ow_set2 hc)))
theorem gw_lstore {Γ : ow_Cx → Prop} {own : String} {cc : ByteArray} {nL pc : Nat} {ls : List (Option Value)} {st : List Value} {M : ow_M} {i : Nat} {x : Int64} (hd : decode cc pc = .ok (.lstore i, 2)) (hn : i + 1 < nL) (hc : ow_c1 ls i = true) (k : ow_G Γ own cc nL (pc + 2) ((ls.set i (some (.long x))).set (i + 1) none) st M) : ow_G Γ own cc nL pc ls (.long x :: st) M := by
  intro p l e R s m args below meth c cells slots Z cI ad D A hΓ X H locs lsA hP hD hS hl
  exact lv_lstore X.1 X.2.1 hd hl hn rfl (fun lsB hB => k p l e R s m args below meth c cells slots Z cI ad D A hΓ X H locs lsB hP hD hS (ow_has_mono hB (ow_set2 hc)))
theorem gw_aload_n {Γ : ow_Cx → Prop} {own : String} {cc : ByteArray} {nL pc : Nat} {ls : List (Option Value)} {st : List Value} {M : ow_M} {j : Fin 4} {i : Nat} {x : Nat} (hd : decode cc pc = .ok (.aload_n j, 1)) (hj : (j : Nat) = i) (h : ls[i]? = some (some (.ref x))) (k : ow_G Γ own cc nL (pc + 1) ls (.ref x :: st) M) : ow_G Γ own cc nL pc ls st M := by
  intro p l e R s m args below meth c cells slots Z cI ad D A hΓ X H locs lsA hP hD hS hl
  exact lv_aload_n X.1 X.2.1 hd hj (ow_at hl h) (k p l e R s m args below meth c cells slots Z cI ad D A hΓ X H locs lsA hP hD hS hl)
theorem gw_aload {Γ : ow_Cx → Prop} {own : String} {cc : ByteArray} {nL pc : Nat} {ls : List (Option Value)} {st : List Value} {M : ow_M} {i : Nat} {x : Nat} (hd : decode cc pc = .ok (.aload i, 2)) (h : ls[i]? = some (some (.ref x))) (k : ow_G Γ own cc nL (pc + 2) ls (.ref x :: st) M) : ow_G Γ own cc nL pc ls st M := by
  intro p l e R s m args below meth c cells slots Z cI ad D A hΓ X H locs lsA hP hD hS hl
  exact lv_aload X.1 X.2.1 hd (ow_at hl h) (k p l e R s m args below meth c cells slots Z cI ad D A hΓ X H locs lsA hP hD hS hl)
theorem gw_astore_n {Γ : ow_Cx → Prop} {own : String} {cc : ByteArray} {nL pc : Nat} {ls : List (Option Value)} {st : List Value} {M : ow_M} {j : Fin 4} {i : Nat} {x : Nat} (hd : decode cc pc = .ok (.astore_n j, 1)) (hj : (j : Nat) = i) (hn : i < nL) (hc : ow_c1 ls i = true) (k : ow_G Γ own cc nL (pc + 1) (ls.set i (some (.ref x))) st M) : ow_G Γ own cc nL pc ls (.ref x :: st) M := by
  intro p l e R s m args below meth c cells slots Z cI ad D A hΓ X H locs lsA hP hD hS hl
  exact lv_astore_n X.1 X.2.1 hd hj hl hn rfl (fun lsB hB => k p l e R s m args below meth c cells slots Z cI ad D A hΓ X H locs lsB hP hD hS (ow_has_mono hB (ow_set1 hc)))
theorem gw_astore {Γ : ow_Cx → Prop} {own : String} {cc : ByteArray} {nL pc : Nat} {ls : List (Option Value)} {st : List Value} {M : ow_M} {i : Nat} {x : Nat} (hd : decode cc pc = .ok (.astore i, 2)) (hn : i < nL) (hc : ow_c1 ls i = true) (k : ow_G Γ own cc nL (pc + 2) (ls.set i (some (.ref x))) st M) : ow_G Γ own cc nL pc ls (.ref x :: st) M := by
  intro p l e R s m args below meth c cells slots Z cI ad D A hΓ X H locs lsA hP hD hS hl
  exact lv_astore X.1 X.2.1 hd hl hn rfl (fun lsB hB => k p l e R s m args below meth c cells slots Z cI ad D A hΓ X H locs lsB hP hD hS (ow_has_mono hB (ow_set1 hc)))
theorem ow_at_k {ad : Nat → Nat} {ls : List (Option Value)} {i : Nat} {v : Value} (h : ls[i]? = some (some v)) : ∃ k : Nat, (ow_lv ad 0 ls)[k]? = some (i, ow_v ad v) := by
  have h1 := ow_lv_mem (ad := ad) (j := 0) h
  rw [Nat.zero_add] at h1
  exact List.mem_iff_getElem?.mp h1
theorem gw_iinc {Γ : ow_Cx → Prop} {own : String} {cc : ByteArray} {nL pc : Nat} {ls : List (Option Value)} {st : List Value} {M : ow_M} {i : Nat} {n : Int} {x : Int32} (v : Int32) (hd : decode cc pc = .ok (.iinc i n, 3)) (hn : i < nL) (hc : ow_c1 ls i = true) (h : ls[i]? = some (some (.int x))) (hv : x + Int32.ofInt n = v) (k : ow_G Γ own cc nL (pc + 3) (ls.set i (some (.int v))) st M) : ow_G Γ own cc nL pc ls st M := by
  intro p l e R s m args below meth c cells slots Z cI ad D A hΓ X H locs lsA hP hD hS hl
  obtain ⟨kk, hk⟩ := ow_at_k (ad := ad) h
  exact lv_iinc X.1 X.2.1 hd hl hk hv hn rfl (fun lsB hB => k p l e R s m args below meth c cells slots Z cI ad D A hΓ X H locs lsB hP hD hS (ow_has_mono hB (ow_set1 hc)))
theorem gw_iload0 {Γ : ow_Cx → Prop} {own : String} {cc : ByteArray} {nL pc : Nat} {st : List Value} {M : ow_M} {u : List (Option Value)} {x : Int32} (hd : decode cc pc = .ok (.iload_n 0, 1)) (k : ow_G Γ own cc nL (pc + 1) (some (.int x) :: u) (.int x :: st) M) : ow_G Γ own cc nL pc (some (.int x) :: u) st M := gw_iload_n (ls := (some (.int x) :: u)) hd rfl rfl k
theorem gw_istore0 {Γ : ow_Cx → Prop} {own : String} {cc : ByteArray} {nL pc : Nat} {st : List Value} {M : ow_M} {b0 : Option Value} {u : List (Option Value)} {x : Int32} (hd : decode cc pc = .ok (.istore_n 0, 1)) (hn : 0 < nL) (k : ow_G Γ own cc nL (pc + 1) (some (.int x) :: u) st M) : ow_G Γ own cc nL pc (b0 :: u) (.int x :: st) M := gw_istore_n (ls := (b0 :: u)) hd rfl hn rfl k
theorem gw_iload1 {Γ : ow_Cx → Prop} {own : String} {cc : ByteArray} {nL pc : Nat} {st : List Value} {M : ow_M} {a0 : Option Value} {u : List (Option Value)} {x : Int32} (hd : decode cc pc = .ok (.iload_n 1, 1)) (k : ow_G Γ own cc nL (pc + 1) (a0 :: some (.int x) :: u) (.int x :: st) M) : ow_G Γ own cc nL pc (a0 :: some (.int x) :: u) st M := gw_iload_n (ls := (a0 :: some (.int x) :: u)) hd rfl rfl k
theorem gw_istore1 {Γ : ow_Cx → Prop} {own : String} {cc : ByteArray} {nL pc : Nat} {st : List Value} {M : ow_M} {a0 : Option Value} {b0 : Option Value} {u : List (Option Value)} {x : Int32} (hd : decode cc pc = .ok (.istore_n 1, 1)) (hn : 1 < nL) (hc : ow_k1 a0 = true) (k : ow_G Γ own cc nL (pc + 1) (a0 :: some (.int x) :: u) st M) : ow_G Γ own cc nL pc (a0 :: b0 :: u) (.int x :: st) M := gw_istore_n (ls := (a0 :: b0 :: u)) hd rfl hn hc k
theorem gw_iload2 {Γ : ow_Cx → Prop} {own : String} {cc : ByteArray} {nL pc : Nat} {st : List Value} {M : ow_M} {a0 : Option Value} {a1 : Option Value} {u : List (Option Value)} {x : Int32} (hd : decode cc pc = .ok (.iload_n 2, 1)) (k : ow_G Γ own cc nL (pc + 1) (a0 :: a1 :: some (.int x) :: u) (.int x :: st) M) : ow_G Γ own cc nL pc (a0 :: a1 :: some (.int x) :: u) st M := gw_iload_n (ls := (a0 :: a1 :: some (.int x) :: u)) hd rfl rfl k
theorem gw_istore2 {Γ : ow_Cx → Prop} {own : String} {cc : ByteArray} {nL pc : Nat} {st : List Value} {M : ow_M} {a0 : Option Value} {a1 : Option Value} {b0 : Option Value} {u : List (Option Value)} {x : Int32} (hd : decode cc pc = .ok (.istore_n 2, 1)) (hn : 2 < nL) (hc : ow_k1 a1 = true) (k : ow_G Γ own cc nL (pc + 1) (a0 :: a1 :: some (.int x) :: u) st M) : ow_G Γ own cc nL pc (a0 :: a1 :: b0 :: u) (.int x :: st) M := gw_istore_n (ls := (a0 :: a1 :: b0 :: u)) hd rfl hn hc k
theorem gw_iload3 {Γ : ow_Cx → Prop} {own : String} {cc : ByteArray} {nL pc : Nat} {st : List Value} {M : ow_M} {a0 : Option Value} {a1 : Option Value} {a2 : Option Value} {u : List (Option Value)} {x : Int32} (hd : decode cc pc = .ok (.iload_n 3, 1)) (k : ow_G Γ own cc nL (pc + 1) (a0 :: a1 :: a2 :: some (.int x) :: u) (.int x :: st) M) : ow_G Γ own cc nL pc (a0 :: a1 :: a2 :: some (.int x) :: u) st M := gw_iload_n (ls := (a0 :: a1 :: a2 :: some (.int x) :: u)) hd rfl rfl k
theorem gw_istore3 {Γ : ow_Cx → Prop} {own : String} {cc : ByteArray} {nL pc : Nat} {st : List Value} {M : ow_M} {a0 : Option Value} {a1 : Option Value} {a2 : Option Value} {b0 : Option Value} {u : List (Option Value)} {x : Int32} (hd : decode cc pc = .ok (.istore_n 3, 1)) (hn : 3 < nL) (hc : ow_k1 a2 = true) (k : ow_G Γ own cc nL (pc + 1) (a0 :: a1 :: a2 :: some (.int x) :: u) st M) : ow_G Γ own cc nL pc (a0 :: a1 :: a2 :: b0 :: u) (.int x :: st) M := gw_istore_n (ls := (a0 :: a1 :: a2 :: b0 :: u)) hd rfl hn hc k
theorem gw_iload4 {Γ : ow_Cx → Prop} {own : String} {cc : ByteArray} {nL pc : Nat} {st : List Value} {M : ow_M} {a0 : Option Value} {a1 : Option Value} {a2 : Option Value} {a3 : Option Value} {u : List (Option Value)} {x : Int32} (hd : decode cc pc = .ok (.iload 4, 2)) (k : ow_G Γ own cc nL (pc + 2) (a0 :: a1 :: a2 :: a3 :: some (.int x) :: u) (.int x :: st) M) : ow_G Γ own cc nL pc (a0 :: a1 :: a2 :: a3 :: some (.int x) :: u) st M := gw_iload (ls := (a0 :: a1 :: a2 :: a3 :: some (.int x) :: u)) hd rfl k
theorem gw_istore4 {Γ : ow_Cx → Prop} {own : String} {cc : ByteArray} {nL pc : Nat} {st : List Value} {M : ow_M} {a0 : Option Value} {a1 : Option Value} {a2 : Option Value} {a3 : Option Value} {b0 : Option Value} {u : List (Option Value)} {x : Int32} (hd : decode cc pc = .ok (.istore 4, 2)) (hn : 4 < nL) (hc : ow_k1 a3 = true) (k : ow_G Γ own cc nL (pc + 2) (a0 :: a1 :: a2 :: a3 :: some (.int x) :: u) st M) : ow_G Γ own cc nL pc (a0 :: a1 :: a2 :: a3 :: b0 :: u) (.int x :: st) M := gw_istore (ls := (a0 :: a1 :: a2 :: a3 :: b0 :: u)) hd hn hc k
theorem gw_iload5 {Γ : ow_Cx → Prop} {own : String} {cc : ByteArray} {nL pc : Nat} {st : List Value} {M : ow_M} {a0 : Option Value} {a1 : Option Value} {a2 : Option Value} {a3 : Option Value} {a4 : Option Value} {u : List (Option Value)} {x : Int32} (hd : decode cc pc = .ok (.iload 5, 2)) (k : ow_G Γ own cc nL (pc + 2) (a0 :: a1 :: a2 :: a3 :: a4 :: some (.int x) :: u) (.int x :: st) M) : ow_G Γ own cc nL pc (a0 :: a1 :: a2 :: a3 :: a4 :: some (.int x) :: u) st M := gw_iload (ls := (a0 :: a1 :: a2 :: a3 :: a4 :: some (.int x) :: u)) hd rfl k
theorem gw_istore5 {Γ : ow_Cx → Prop} {own : String} {cc : ByteArray} {nL pc : Nat} {st : List Value} {M : ow_M} {a0 : Option Value} {a1 : Option Value} {a2 : Option Value} {a3 : Option Value} {a4 : Option Value} {b0 : Option Value} {u : List (Option Value)} {x : Int32} (hd : decode cc pc = .ok (.istore 5, 2)) (hn : 5 < nL) (hc : ow_k1 a4 = true) (k : ow_G Γ own cc nL (pc + 2) (a0 :: a1 :: a2 :: a3 :: a4 :: some (.int x) :: u) st M) : ow_G Γ own cc nL pc (a0 :: a1 :: a2 :: a3 :: a4 :: b0 :: u) (.int x :: st) M := gw_istore (ls := (a0 :: a1 :: a2 :: a3 :: a4 :: b0 :: u)) hd hn hc k
theorem gw_iload6 {Γ : ow_Cx → Prop} {own : String} {cc : ByteArray} {nL pc : Nat} {st : List Value} {M : ow_M} {a0 : Option Value} {a1 : Option Value} {a2 : Option Value} {a3 : Option Value} {a4 : Option Value} {a5 : Option Value} {u : List (Option Value)} {x : Int32} (hd : decode cc pc = .ok (.iload 6, 2)) (k : ow_G Γ own cc nL (pc + 2) (a0 :: a1 :: a2 :: a3 :: a4 :: a5 :: some (.int x) :: u) (.int x :: st) M) : ow_G Γ own cc nL pc (a0 :: a1 :: a2 :: a3 :: a4 :: a5 :: some (.int x) :: u) st M := gw_iload (ls := (a0 :: a1 :: a2 :: a3 :: a4 :: a5 :: some (.int x) :: u)) hd rfl k
theorem gw_istore6 {Γ : ow_Cx → Prop} {own : String} {cc : ByteArray} {nL pc : Nat} {st : List Value} {M : ow_M} {a0 : Option Value} {a1 : Option Value} {a2 : Option Value} {a3 : Option Value} {a4 : Option Value} {a5 : Option Value} {b0 : Option Value} {u : List (Option Value)} {x : Int32} (hd : decode cc pc = .ok (.istore 6, 2)) (hn : 6 < nL) (hc : ow_k1 a5 = true) (k : ow_G Γ own cc nL (pc + 2) (a0 :: a1 :: a2 :: a3 :: a4 :: a5 :: some (.int x) :: u) st M) : ow_G Γ own cc nL pc (a0 :: a1 :: a2 :: a3 :: a4 :: a5 :: b0 :: u) (.int x :: st) M := gw_istore (ls := (a0 :: a1 :: a2 :: a3 :: a4 :: a5 :: b0 :: u)) hd hn hc k
theorem gw_iload7 {Γ : ow_Cx → Prop} {own : String} {cc : ByteArray} {nL pc : Nat} {st : List Value} {M : ow_M} {a0 : Option Value} {a1 : Option Value} {a2 : Option Value} {a3 : Option Value} {a4 : Option Value} {a5 : Option Value} {a6 : Option Value} {u : List (Option Value)} {x : Int32} (hd : decode cc pc = .ok (.iload 7, 2)) (k : ow_G Γ own cc nL (pc + 2) (a0 :: a1 :: a2 :: a3 :: a4 :: a5 :: a6 :: some (.int x) :: u) (.int x :: st) M) : ow_G Γ own cc nL pc (a0 :: a1 :: a2 :: a3 :: a4 :: a5 :: a6 :: some (.int x) :: u) st M := gw_iload (ls := (a0 :: a1 :: a2 :: a3 :: a4 :: a5 :: a6 :: some (.int x) :: u)) hd rfl k
theorem gw_istore7 {Γ : ow_Cx → Prop} {own : String} {cc : ByteArray} {nL pc : Nat} {st : List Value} {M : ow_M} {a0 : Option Value} {a1 : Option Value} {a2 : Option Value} {a3 : Option Value} {a4 : Option Value} {a5 : Option Value} {a6 : Option Value} {b0 : Option Value} {u : List (Option Value)} {x : Int32} (hd : decode cc pc = .ok (.istore 7, 2)) (hn : 7 < nL) (hc : ow_k1 a6 = true) (k : ow_G Γ own cc nL (pc + 2) (a0 :: a1 :: a2 :: a3 :: a4 :: a5 :: a6 :: some (.int x) :: u) st M) : ow_G Γ own cc nL pc (a0 :: a1 :: a2 :: a3 :: a4 :: a5 :: a6 :: b0 :: u) (.int x :: st) M := gw_istore (ls := (a0 :: a1 :: a2 :: a3 :: a4 :: a5 :: a6 :: b0 :: u)) hd hn hc k
theorem gw_iload8 {Γ : ow_Cx → Prop} {own : String} {cc : ByteArray} {nL pc : Nat} {st : List Value} {M : ow_M} {a0 : Option Value} {a1 : Option Value} {a2 : Option Value} {a3 : Option Value} {a4 : Option Value} {a5 : Option Value} {a6 : Option Value} {a7 : Option Value} {u : List (Option Value)} {x : Int32} (hd : decode cc pc = .ok (.iload 8, 2)) (k : ow_G Γ own cc nL (pc + 2) (a0 :: a1 :: a2 :: a3 :: a4 :: a5 :: a6 :: a7 :: some (.int x) :: u) (.int x :: st) M) : ow_G Γ own cc nL pc (a0 :: a1 :: a2 :: a3 :: a4 :: a5 :: a6 :: a7 :: some (.int x) :: u) st M := gw_iload (ls := (a0 :: a1 :: a2 :: a3 :: a4 :: a5 :: a6 :: a7 :: some (.int x) :: u)) hd rfl k
theorem gw_istore8 {Γ : ow_Cx → Prop} {own : String} {cc : ByteArray} {nL pc : Nat} {st : List Value} {M : ow_M} {a0 : Option Value} {a1 : Option Value} {a2 : Option Value} {a3 : Option Value} {a4 : Option Value} {a5 : Option Value} {a6 : Option Value} {a7 : Option Value} {b0 : Option Value} {u : List (Option Value)} {x : Int32} (hd : decode cc pc = .ok (.istore 8, 2)) (hn : 8 < nL) (hc : ow_k1 a7 = true) (k : ow_G Γ own cc nL (pc + 2) (a0 :: a1 :: a2 :: a3 :: a4 :: a5 :: a6 :: a7 :: some (.int x) :: u) st M) : ow_G Γ own cc nL pc (a0 :: a1 :: a2 :: a3 :: a4 :: a5 :: a6 :: a7 :: b0 :: u) (.int x :: st) M := gw_istore (ls := (a0 :: a1 :: a2 :: a3 :: a4 :: a5 :: a6 :: a7 :: b0 :: u)) hd hn hc k
theorem gw_iload9 {Γ : ow_Cx → Prop} {own : String} {cc : ByteArray} {nL pc : Nat} {st : List Value} {M : ow_M} {a0 : Option Value} {a1 : Option Value} {a2 : Option Value} {a3 : Option Value} {a4 : Option Value} {a5 : Option Value} {a6 : Option Value} {a7 : Option Value} {a8 : Option Value} {u : List (Option Value)} {x : Int32} (hd : decode cc pc = .ok (.iload 9, 2)) (k : ow_G Γ own cc nL (pc + 2) (a0 :: a1 :: a2 :: a3 :: a4 :: a5 :: a6 :: a7 :: a8 :: some (.int x) :: u) (.int x :: st) M) : ow_G Γ own cc nL pc (a0 :: a1 :: a2 :: a3 :: a4 :: a5 :: a6 :: a7 :: a8 :: some (.int x) :: u) st M := gw_iload (ls := (a0 :: a1 :: a2 :: a3 :: a4 :: a5 :: a6 :: a7 :: a8 :: some (.int x) :: u)) hd rfl k
theorem gw_istore9 {Γ : ow_Cx → Prop} {own : String} {cc : ByteArray} {nL pc : Nat} {st : List Value} {M : ow_M} {a0 : Option Value} {a1 : Option Value} {a2 : Option Value} {a3 : Option Value} {a4 : Option Value} {a5 : Option Value} {a6 : Option Value} {a7 : Option Value} {a8 : Option Value} {b0 : Option Value} {u : List (Option Value)} {x : Int32} (hd : decode cc pc = .ok (.istore 9, 2)) (hn : 9 < nL) (hc : ow_k1 a8 = true) (k : ow_G Γ own cc nL (pc + 2) (a0 :: a1 :: a2 :: a3 :: a4 :: a5 :: a6 :: a7 :: a8 :: some (.int x) :: u) st M) : ow_G Γ own cc nL pc (a0 :: a1 :: a2 :: a3 :: a4 :: a5 :: a6 :: a7 :: a8 :: b0 :: u) (.int x :: st) M := gw_istore (ls := (a0 :: a1 :: a2 :: a3 :: a4 :: a5 :: a6 :: a7 :: a8 :: b0 :: u)) hd hn hc k
theorem gw_iload10 {Γ : ow_Cx → Prop} {own : String} {cc : ByteArray} {nL pc : Nat} {st : List Value} {M : ow_M} {a0 : Option Value} {a1 : Option Value} {a2 : Option Value} {a3 : Option Value} {a4 : Option Value} {a5 : Option Value} {a6 : Option Value} {a7 : Option Value} {a8 : Option Value} {a9 : Option Value} {u : List (Option Value)} {x : Int32} (hd : decode cc pc = .ok (.iload 10, 2)) (k : ow_G Γ own cc nL (pc + 2) (a0 :: a1 :: a2 :: a3 :: a4 :: a5 :: a6 :: a7 :: a8 :: a9 :: some (.int x) :: u) (.int x :: st) M) : ow_G Γ own cc nL pc (a0 :: a1 :: a2 :: a3 :: a4 :: a5 :: a6 :: a7 :: a8 :: a9 :: some (.int x) :: u) st M := gw_iload (ls := (a0 :: a1 :: a2 :: a3 :: a4 :: a5 :: a6 :: a7 :: a8 :: a9 :: some (.int x) :: u)) hd rfl k
theorem gw_istore10 {Γ : ow_Cx → Prop} {own : String} {cc : ByteArray} {nL pc : Nat} {st : List Value} {M : ow_M} {a0 : Option Value} {a1 : Option Value} {a2 : Option Value} {a3 : Option Value} {a4 : Option Value} {a5 : Option Value} {a6 : Option Value} {a7 : Option Value} {a8 : Option Value} {a9 : Option Value} {b0 : Option Value} {u : List (Option Value)} {x : Int32} (hd : decode cc pc = .ok (.istore 10, 2)) (hn : 10 < nL) (hc : ow_k1 a9 = true) (k : ow_G Γ own cc nL (pc + 2) (a0 :: a1 :: a2 :: a3 :: a4 :: a5 :: a6 :: a7 :: a8 :: a9 :: some (.int x) :: u) st M) : ow_G Γ own cc nL pc (a0 :: a1 :: a2 :: a3 :: a4 :: a5 :: a6 :: a7 :: a8 :: a9 :: b0 :: u) (.int x :: st) M := gw_istore (ls := (a0 :: a1 :: a2 :: a3 :: a4 :: a5 :: a6 :: a7 :: a8 :: a9 :: b0 :: u)) hd hn hc k
theorem gw_iload11 {Γ : ow_Cx → Prop} {own : String} {cc : ByteArray} {nL pc : Nat} {st : List Value} {M : ow_M} {a0 : Option Value} {a1 : Option Value} {a2 : Option Value} {a3 : Option Value} {a4 : Option Value} {a5 : Option Value} {a6 : Option Value} {a7 : Option Value} {a8 : Option Value} {a9 : Option Value} {a10 : Option Value} {u : List (Option Value)} {x : Int32} (hd : decode cc pc = .ok (.iload 11, 2)) (k : ow_G Γ own cc nL (pc + 2) (a0 :: a1 :: a2 :: a3 :: a4 :: a5 :: a6 :: a7 :: a8 :: a9 :: a10 :: some (.int x) :: u) (.int x :: st) M) : ow_G Γ own cc nL pc (a0 :: a1 :: a2 :: a3 :: a4 :: a5 :: a6 :: a7 :: a8 :: a9 :: a10 :: some (.int x) :: u) st M := gw_iload (ls := (a0 :: a1 :: a2 :: a3 :: a4 :: a5 :: a6 :: a7 :: a8 :: a9 :: a10 :: some (.int x) :: u)) hd rfl k
theorem gw_istore11 {Γ : ow_Cx → Prop} {own : String} {cc : ByteArray} {nL pc : Nat} {st : List Value} {M : ow_M} {a0 : Option Value} {a1 : Option Value} {a2 : Option Value} {a3 : Option Value} {a4 : Option Value} {a5 : Option Value} {a6 : Option Value} {a7 : Option Value} {a8 : Option Value} {a9 : Option Value} {a10 : Option Value} {b0 : Option Value} {u : List (Option Value)} {x : Int32} (hd : decode cc pc = .ok (.istore 11, 2)) (hn : 11 < nL) (hc : ow_k1 a10 = true) (k : ow_G Γ own cc nL (pc + 2) (a0 :: a1 :: a2 :: a3 :: a4 :: a5 :: a6 :: a7 :: a8 :: a9 :: a10 :: some (.int x) :: u) st M) : ow_G Γ own cc nL pc (a0 :: a1 :: a2 :: a3 :: a4 :: a5 :: a6 :: a7 :: a8 :: a9 :: a10 :: b0 :: u) (.int x :: st) M := gw_istore (ls := (a0 :: a1 :: a2 :: a3 :: a4 :: a5 :: a6 :: a7 :: a8 :: a9 :: a10 :: b0 :: u)) hd hn hc k
theorem gw_iload12 {Γ : ow_Cx → Prop} {own : String} {cc : ByteArray} {nL pc : Nat} {st : List Value} {M : ow_M} {a0 : Option Value} {a1 : Option Value} {a2 : Option Value} {a3 : Option Value} {a4 : Option Value} {a5 : Option Value} {a6 : Option Value} {a7 : Option Value} {a8 : Option Value} {a9 : Option Value} {a10 : Option Value} {a11 : Option Value} {u : List (Option Value)} {x : Int32} (hd : decode cc pc = .ok (.iload 12, 2)) (k : ow_G Γ own cc nL (pc + 2) (a0 :: a1 :: a2 :: a3 :: a4 :: a5 :: a6 :: a7 :: a8 :: a9 :: a10 :: a11 :: some (.int x) :: u) (.int x :: st) M) : ow_G Γ own cc nL pc (a0 :: a1 :: a2 :: a3 :: a4 :: a5 :: a6 :: a7 :: a8 :: a9 :: a10 :: a11 :: some (.int x) :: u) st M := gw_iload (ls := (a0 :: a1 :: a2 :: a3 :: a4 :: a5 :: a6 :: a7 :: a8 :: a9 :: a10 :: a11 :: some (.int x) :: u)) hd rfl k
theorem gw_istore12 {Γ : ow_Cx → Prop} {own : String} {cc : ByteArray} {nL pc : Nat} {st : List Value} {M : ow_M} {a0 : Option Value} {a1 : Option Value} {a2 : Option Value} {a3 : Option Value} {a4 : Option Value} {a5 : Option Value} {a6 : Option Value} {a7 : Option Value} {a8 : Option Value} {a9 : Option Value} {a10 : Option Value} {a11 : Option Value} {b0 : Option Value} {u : List (Option Value)} {x : Int32} (hd : decode cc pc = .ok (.istore 12, 2)) (hn : 12 < nL) (hc : ow_k1 a11 = true) (k : ow_G Γ own cc nL (pc + 2) (a0 :: a1 :: a2 :: a3 :: a4 :: a5 :: a6 :: a7 :: a8 :: a9 :: a10 :: a11 :: some (.int x) :: u) st M) : ow_G Γ own cc nL pc (a0 :: a1 :: a2 :: a3 :: a4 :: a5 :: a6 :: a7 :: a8 :: a9 :: a10 :: a11 :: b0 :: u) (.int x :: st) M := gw_istore (ls := (a0 :: a1 :: a2 :: a3 :: a4 :: a5 :: a6 :: a7 :: a8 :: a9 :: a10 :: a11 :: b0 :: u)) hd hn hc k
theorem gw_iload13 {Γ : ow_Cx → Prop} {own : String} {cc : ByteArray} {nL pc : Nat} {st : List Value} {M : ow_M} {a0 : Option Value} {a1 : Option Value} {a2 : Option Value} {a3 : Option Value} {a4 : Option Value} {a5 : Option Value} {a6 : Option Value} {a7 : Option Value} {a8 : Option Value} {a9 : Option Value} {a10 : Option Value} {a11 : Option Value} {a12 : Option Value} {u : List (Option Value)} {x : Int32} (hd : decode cc pc = .ok (.iload 13, 2)) (k : ow_G Γ own cc nL (pc + 2) (a0 :: a1 :: a2 :: a3 :: a4 :: a5 :: a6 :: a7 :: a8 :: a9 :: a10 :: a11 :: a12 :: some (.int x) :: u) (.int x :: st) M) : ow_G Γ own cc nL pc (a0 :: a1 :: a2 :: a3 :: a4 :: a5 :: a6 :: a7 :: a8 :: a9 :: a10 :: a11 :: a12 :: some (.int x) :: u) st M := gw_iload (ls := (a0 :: a1 :: a2 :: a3 :: a4 :: a5 :: a6 :: a7 :: a8 :: a9 :: a10 :: a11 :: a12 :: some (.int x) :: u)) hd rfl k
theorem gw_istore13 {Γ : ow_Cx → Prop} {own : String} {cc : ByteArray} {nL pc : Nat} {st : List Value} {M : ow_M} {a0 : Option Value} {a1 : Option Value} {a2 : Option Value} {a3 : Option Value} {a4 : Option Value} {a5 : Option Value} {a6 : Option Value} {a7 : Option Value} {a8 : Option Value} {a9 : Option Value} {a10 : Option Value} {a11 : Option Value} {a12 : Option Value} {b0 : Option Value} {u : List (Option Value)} {x : Int32} (hd : decode cc pc = .ok (.istore 13, 2)) (hn : 13 < nL) (hc : ow_k1 a12 = true) (k : ow_G Γ own cc nL (pc + 2) (a0 :: a1 :: a2 :: a3 :: a4 :: a5 :: a6 :: a7 :: a8 :: a9 :: a10 :: a11 :: a12 :: some (.int x) :: u) st M) : ow_G Γ own cc nL pc (a0 :: a1 :: a2 :: a3 :: a4 :: a5 :: a6 :: a7 :: a8 :: a9 :: a10 :: a11 :: a12 :: b0 :: u) (.int x :: st) M := gw_istore (ls := (a0 :: a1 :: a2 :: a3 :: a4 :: a5 :: a6 :: a7 :: a8 :: a9 :: a10 :: a11 :: a12 :: b0 :: u)) hd hn hc k
theorem gw_lload0 {Γ : ow_Cx → Prop} {own : String} {cc : ByteArray} {nL pc : Nat} {st : List Value} {M : ow_M} {u : List (Option Value)} {x : Int64} (hd : decode cc pc = .ok (.lload_n 0, 1)) (k : ow_G Γ own cc nL (pc + 1) (some (.long x) :: u) (.long x :: st) M) : ow_G Γ own cc nL pc (some (.long x) :: u) st M := gw_lload_n (ls := (some (.long x) :: u)) hd rfl rfl k
theorem gw_lstore0 {Γ : ow_Cx → Prop} {own : String} {cc : ByteArray} {nL pc : Nat} {st : List Value} {M : ow_M} {b0 b1 : Option Value} {u : List (Option Value)} {x : Int64} (hd : decode cc pc = .ok (.lstore_n 0, 1)) (hn : 1 < nL) (k : ow_G Γ own cc nL (pc + 1) (some (.long x) :: none :: u) st M) : ow_G Γ own cc nL pc (b0 :: b1 :: u) (.long x :: st) M := gw_lstore_n (ls := (b0 :: b1 :: u)) hd rfl hn rfl k
theorem gw_lload1 {Γ : ow_Cx → Prop} {own : String} {cc : ByteArray} {nL pc : Nat} {st : List Value} {M : ow_M} {a0 : Option Value} {u : List (Option Value)} {x : Int64} (hd : decode cc pc = .ok (.lload_n 1, 1)) (k : ow_G Γ own cc nL (pc + 1) (a0 :: some (.long x) :: u) (.long x :: st) M) : ow_G Γ own cc nL pc (a0 :: some (.long x) :: u) st M := gw_lload_n (ls := (a0 :: some (.long x) :: u)) hd rfl rfl k
theorem gw_lstore1 {Γ : ow_Cx → Prop} {own : String} {cc : ByteArray} {nL pc : Nat} {st : List Value} {M : ow_M} {a0 : Option Value} {b0 b1 : Option Value} {u : List (Option Value)} {x : Int64} (hd : decode cc pc = .ok (.lstore_n 1, 1)) (hn : 2 < nL) (hc : ow_k1 a0 = true) (k : ow_G Γ own cc nL (pc + 1) (a0 :: some (.long x) :: none :: u) st M) : ow_G Γ own cc nL pc (a0 :: b0 :: b1 :: u) (.long x :: st) M := gw_lstore_n (ls := (a0 :: b0 :: b1 :: u)) hd rfl hn hc k
theorem gw_lload2 {Γ : ow_Cx → Prop} {own : String} {cc : ByteArray} {nL pc : Nat} {st : List Value} {M : ow_M} {a0 : Option Value} {a1 : Option Value} {u : List (Option Value)} {x : Int64} (hd : decode cc pc = .ok (.lload_n 2, 1)) (k : ow_G Γ own cc nL (pc + 1) (a0 :: a1 :: some (.long x) :: u) (.long x :: st) M) : ow_G Γ own cc nL pc (a0 :: a1 :: some (.long x) :: u) st M := gw_lload_n (ls := (a0 :: a1 :: some (.long x) :: u)) hd rfl rfl k
theorem gw_lstore2 {Γ : ow_Cx → Prop} {own : String} {cc : ByteArray} {nL pc : Nat} {st : List Value} {M : ow_M} {a0 : Option Value} {a1 : Option Value} {b0 b1 : Option Value} {u : List (Option Value)} {x : Int64} (hd : decode cc pc = .ok (.lstore_n 2, 1)) (hn : 3 < nL) (hc : ow_k1 a1 = true) (k : ow_G Γ own cc nL (pc + 1) (a0 :: a1 :: some (.long x) :: none :: u) st M) : ow_G Γ own cc nL pc (a0 :: a1 :: b0 :: b1 :: u) (.long x :: st) M := gw_lstore_n (ls := (a0 :: a1 :: b0 :: b1 :: u)) hd rfl hn hc k
theorem gw_lload3 {Γ : ow_Cx → Prop} {own : String} {cc : ByteArray} {nL pc : Nat} {st : List Value} {M : ow_M} {a0 : Option Value} {a1 : Option Value} {a2 : Option Value} {u : List (Option Value)} {x : Int64} (hd : decode cc pc = .ok (.lload_n 3, 1)) (k : ow_G Γ own cc nL (pc + 1) (a0 :: a1 :: a2 :: some (.long x) :: u) (.long x :: st) M) : ow_G Γ own cc nL pc (a0 :: a1 :: a2 :: some (.long x) :: u) st M := gw_lload_n (ls := (a0 :: a1 :: a2 :: some (.long x) :: u)) hd rfl rfl k
theorem gw_lstore3 {Γ : ow_Cx → Prop} {own : String} {cc : ByteArray} {nL pc : Nat} {st : List Value} {M : ow_M} {a0 : Option Value} {a1 : Option Value} {a2 : Option Value} {b0 b1 : Option Value} {u : List (Option Value)} {x : Int64} (hd : decode cc pc = .ok (.lstore_n 3, 1)) (hn : 4 < nL) (hc : ow_k1 a2 = true) (k : ow_G Γ own cc nL (pc + 1) (a0 :: a1 :: a2 :: some (.long x) :: none :: u) st M) : ow_G Γ own cc nL pc (a0 :: a1 :: a2 :: b0 :: b1 :: u) (.long x :: st) M := gw_lstore_n (ls := (a0 :: a1 :: a2 :: b0 :: b1 :: u)) hd rfl hn hc k
theorem gw_lload4 {Γ : ow_Cx → Prop} {own : String} {cc : ByteArray} {nL pc : Nat} {st : List Value} {M : ow_M} {a0 : Option Value} {a1 : Option Value} {a2 : Option Value} {a3 : Option Value} {u : List (Option Value)} {x : Int64} (hd : decode cc pc = .ok (.lload 4, 2)) (k : ow_G Γ own cc nL (pc + 2) (a0 :: a1 :: a2 :: a3 :: some (.long x) :: u) (.long x :: st) M) : ow_G Γ own cc nL pc (a0 :: a1 :: a2 :: a3 :: some (.long x) :: u) st M := gw_lload (ls := (a0 :: a1 :: a2 :: a3 :: some (.long x) :: u)) hd rfl k
theorem gw_lstore4 {Γ : ow_Cx → Prop} {own : String} {cc : ByteArray} {nL pc : Nat} {st : List Value} {M : ow_M} {a0 : Option Value} {a1 : Option Value} {a2 : Option Value} {a3 : Option Value} {b0 b1 : Option Value} {u : List (Option Value)} {x : Int64} (hd : decode cc pc = .ok (.lstore 4, 2)) (hn : 5 < nL) (hc : ow_k1 a3 = true) (k : ow_G Γ own cc nL (pc + 2) (a0 :: a1 :: a2 :: a3 :: some (.long x) :: none :: u) st M) : ow_G Γ own cc nL pc (a0 :: a1 :: a2 :: a3 :: b0 :: b1 :: u) (.long x :: st) M := gw_lstore (ls := (a0 :: a1 :: a2 :: a3 :: b0 :: b1 :: u)) hd hn hc k
theorem gw_lload5 {Γ : ow_Cx → Prop} {own : String} {cc : ByteArray} {nL pc : Nat} {st : List Value} {M : ow_M} {a0 : Option Value} {a1 : Option Value} {a2 : Option Value} {a3 : Option Value} {a4 : Option Value} {u : List (Option Value)} {x : Int64} (hd : decode cc pc = .ok (.lload 5, 2)) (k : ow_G Γ own cc nL (pc + 2) (a0 :: a1 :: a2 :: a3 :: a4 :: some (.long x) :: u) (.long x :: st) M) : ow_G Γ own cc nL pc (a0 :: a1 :: a2 :: a3 :: a4 :: some (.long x) :: u) st M := gw_lload (ls := (a0 :: a1 :: a2 :: a3 :: a4 :: some (.long x) :: u)) hd rfl k
theorem gw_lstore5 {Γ : ow_Cx → Prop} {own : String} {cc : ByteArray} {nL pc : Nat} {st : List Value} {M : ow_M} {a0 : Option Value} {a1 : Option Value} {a2 : Option Value} {a3 : Option Value} {a4 : Option Value} {b0 b1 : Option Value} {u : List (Option Value)} {x : Int64} (hd : decode cc pc = .ok (.lstore 5, 2)) (hn : 6 < nL) (hc : ow_k1 a4 = true) (k : ow_G Γ own cc nL (pc + 2) (a0 :: a1 :: a2 :: a3 :: a4 :: some (.long x) :: none :: u) st M) : ow_G Γ own cc nL pc (a0 :: a1 :: a2 :: a3 :: a4 :: b0 :: b1 :: u) (.long x :: st) M := gw_lstore (ls := (a0 :: a1 :: a2 :: a3 :: a4 :: b0 :: b1 :: u)) hd hn hc k
theorem gw_lload6 {Γ : ow_Cx → Prop} {own : String} {cc : ByteArray} {nL pc : Nat} {st : List Value} {M : ow_M} {a0 : Option Value} {a1 : Option Value} {a2 : Option Value} {a3 : Option Value} {a4 : Option Value} {a5 : Option Value} {u : List (Option Value)} {x : Int64} (hd : decode cc pc = .ok (.lload 6, 2)) (k : ow_G Γ own cc nL (pc + 2) (a0 :: a1 :: a2 :: a3 :: a4 :: a5 :: some (.long x) :: u) (.long x :: st) M) : ow_G Γ own cc nL pc (a0 :: a1 :: a2 :: a3 :: a4 :: a5 :: some (.long x) :: u) st M := gw_lload (ls := (a0 :: a1 :: a2 :: a3 :: a4 :: a5 :: some (.long x) :: u)) hd rfl k
theorem gw_lstore6 {Γ : ow_Cx → Prop} {own : String} {cc : ByteArray} {nL pc : Nat} {st : List Value} {M : ow_M} {a0 : Option Value} {a1 : Option Value} {a2 : Option Value} {a3 : Option Value} {a4 : Option Value} {a5 : Option Value} {b0 b1 : Option Value} {u : List (Option Value)} {x : Int64} (hd : decode cc pc = .ok (.lstore 6, 2)) (hn : 7 < nL) (hc : ow_k1 a5 = true) (k : ow_G Γ own cc nL (pc + 2) (a0 :: a1 :: a2 :: a3 :: a4 :: a5 :: some (.long x) :: none :: u) st M) : ow_G Γ own cc nL pc (a0 :: a1 :: a2 :: a3 :: a4 :: a5 :: b0 :: b1 :: u) (.long x :: st) M := gw_lstore (ls := (a0 :: a1 :: a2 :: a3 :: a4 :: a5 :: b0 :: b1 :: u)) hd hn hc k
theorem gw_lload7 {Γ : ow_Cx → Prop} {own : String} {cc : ByteArray} {nL pc : Nat} {st : List Value} {M : ow_M} {a0 : Option Value} {a1 : Option Value} {a2 : Option Value} {a3 : Option Value} {a4 : Option Value} {a5 : Option Value} {a6 : Option Value} {u : List (Option Value)} {x : Int64} (hd : decode cc pc = .ok (.lload 7, 2)) (k : ow_G Γ own cc nL (pc + 2) (a0 :: a1 :: a2 :: a3 :: a4 :: a5 :: a6 :: some (.long x) :: u) (.long x :: st) M) : ow_G Γ own cc nL pc (a0 :: a1 :: a2 :: a3 :: a4 :: a5 :: a6 :: some (.long x) :: u) st M := gw_lload (ls := (a0 :: a1 :: a2 :: a3 :: a4 :: a5 :: a6 :: some (.long x) :: u)) hd rfl k
theorem gw_lstore7 {Γ : ow_Cx → Prop} {own : String} {cc : ByteArray} {nL pc : Nat} {st : List Value} {M : ow_M} {a0 : Option Value} {a1 : Option Value} {a2 : Option Value} {a3 : Option Value} {a4 : Option Value} {a5 : Option Value} {a6 : Option Value} {b0 b1 : Option Value} {u : List (Option Value)} {x : Int64} (hd : decode cc pc = .ok (.lstore 7, 2)) (hn : 8 < nL) (hc : ow_k1 a6 = true) (k : ow_G Γ own cc nL (pc + 2) (a0 :: a1 :: a2 :: a3 :: a4 :: a5 :: a6 :: some (.long x) :: none :: u) st M) : ow_G Γ own cc nL pc (a0 :: a1 :: a2 :: a3 :: a4 :: a5 :: a6 :: b0 :: b1 :: u) (.long x :: st) M := gw_lstore (ls := (a0 :: a1 :: a2 :: a3 :: a4 :: a5 :: a6 :: b0 :: b1 :: u)) hd hn hc k
theorem gw_lload8 {Γ : ow_Cx → Prop} {own : String} {cc : ByteArray} {nL pc : Nat} {st : List Value} {M : ow_M} {a0 : Option Value} {a1 : Option Value} {a2 : Option Value} {a3 : Option Value} {a4 : Option Value} {a5 : Option Value} {a6 : Option Value} {a7 : Option Value} {u : List (Option Value)} {x : Int64} (hd : decode cc pc = .ok (.lload 8, 2)) (k : ow_G Γ own cc nL (pc + 2) (a0 :: a1 :: a2 :: a3 :: a4 :: a5 :: a6 :: a7 :: some (.long x) :: u) (.long x :: st) M) : ow_G Γ own cc nL pc (a0 :: a1 :: a2 :: a3 :: a4 :: a5 :: a6 :: a7 :: some (.long x) :: u) st M := gw_lload (ls := (a0 :: a1 :: a2 :: a3 :: a4 :: a5 :: a6 :: a7 :: some (.long x) :: u)) hd rfl k
theorem gw_lstore8 {Γ : ow_Cx → Prop} {own : String} {cc : ByteArray} {nL pc : Nat} {st : List Value} {M : ow_M} {a0 : Option Value} {a1 : Option Value} {a2 : Option Value} {a3 : Option Value} {a4 : Option Value} {a5 : Option Value} {a6 : Option Value} {a7 : Option Value} {b0 b1 : Option Value} {u : List (Option Value)} {x : Int64} (hd : decode cc pc = .ok (.lstore 8, 2)) (hn : 9 < nL) (hc : ow_k1 a7 = true) (k : ow_G Γ own cc nL (pc + 2) (a0 :: a1 :: a2 :: a3 :: a4 :: a5 :: a6 :: a7 :: some (.long x) :: none :: u) st M) : ow_G Γ own cc nL pc (a0 :: a1 :: a2 :: a3 :: a4 :: a5 :: a6 :: a7 :: b0 :: b1 :: u) (.long x :: st) M := gw_lstore (ls := (a0 :: a1 :: a2 :: a3 :: a4 :: a5 :: a6 :: a7 :: b0 :: b1 :: u)) hd hn hc k
theorem gw_lload9 {Γ : ow_Cx → Prop} {own : String} {cc : ByteArray} {nL pc : Nat} {st : List Value} {M : ow_M} {a0 : Option Value} {a1 : Option Value} {a2 : Option Value} {a3 : Option Value} {a4 : Option Value} {a5 : Option Value} {a6 : Option Value} {a7 : Option Value} {a8 : Option Value} {u : List (Option Value)} {x : Int64} (hd : decode cc pc = .ok (.lload 9, 2)) (k : ow_G Γ own cc nL (pc + 2) (a0 :: a1 :: a2 :: a3 :: a4 :: a5 :: a6 :: a7 :: a8 :: some (.long x) :: u) (.long x :: st) M) : ow_G Γ own cc nL pc (a0 :: a1 :: a2 :: a3 :: a4 :: a5 :: a6 :: a7 :: a8 :: some (.long x) :: u) st M := gw_lload (ls := (a0 :: a1 :: a2 :: a3 :: a4 :: a5 :: a6 :: a7 :: a8 :: some (.long x) :: u)) hd rfl k
theorem gw_lstore9 {Γ : ow_Cx → Prop} {own : String} {cc : ByteArray} {nL pc : Nat} {st : List Value} {M : ow_M} {a0 : Option Value} {a1 : Option Value} {a2 : Option Value} {a3 : Option Value} {a4 : Option Value} {a5 : Option Value} {a6 : Option Value} {a7 : Option Value} {a8 : Option Value} {b0 b1 : Option Value} {u : List (Option Value)} {x : Int64} (hd : decode cc pc = .ok (.lstore 9, 2)) (hn : 10 < nL) (hc : ow_k1 a8 = true) (k : ow_G Γ own cc nL (pc + 2) (a0 :: a1 :: a2 :: a3 :: a4 :: a5 :: a6 :: a7 :: a8 :: some (.long x) :: none :: u) st M) : ow_G Γ own cc nL pc (a0 :: a1 :: a2 :: a3 :: a4 :: a5 :: a6 :: a7 :: a8 :: b0 :: b1 :: u) (.long x :: st) M := gw_lstore (ls := (a0 :: a1 :: a2 :: a3 :: a4 :: a5 :: a6 :: a7 :: a8 :: b0 :: b1 :: u)) hd hn hc k
theorem gw_lload10 {Γ : ow_Cx → Prop} {own : String} {cc : ByteArray} {nL pc : Nat} {st : List Value} {M : ow_M} {a0 : Option Value} {a1 : Option Value} {a2 : Option Value} {a3 : Option Value} {a4 : Option Value} {a5 : Option Value} {a6 : Option Value} {a7 : Option Value} {a8 : Option Value} {a9 : Option Value} {u : List (Option Value)} {x : Int64} (hd : decode cc pc = .ok (.lload 10, 2)) (k : ow_G Γ own cc nL (pc + 2) (a0 :: a1 :: a2 :: a3 :: a4 :: a5 :: a6 :: a7 :: a8 :: a9 :: some (.long x) :: u) (.long x :: st) M) : ow_G Γ own cc nL pc (a0 :: a1 :: a2 :: a3 :: a4 :: a5 :: a6 :: a7 :: a8 :: a9 :: some (.long x) :: u) st M := gw_lload (ls := (a0 :: a1 :: a2 :: a3 :: a4 :: a5 :: a6 :: a7 :: a8 :: a9 :: some (.long x) :: u)) hd rfl k
theorem gw_lstore10 {Γ : ow_Cx → Prop} {own : String} {cc : ByteArray} {nL pc : Nat} {st : List Value} {M : ow_M} {a0 : Option Value} {a1 : Option Value} {a2 : Option Value} {a3 : Option Value} {a4 : Option Value} {a5 : Option Value} {a6 : Option Value} {a7 : Option Value} {a8 : Option Value} {a9 : Option Value} {b0 b1 : Option Value} {u : List (Option Value)} {x : Int64} (hd : decode cc pc = .ok (.lstore 10, 2)) (hn : 11 < nL) (hc : ow_k1 a9 = true) (k : ow_G Γ own cc nL (pc + 2) (a0 :: a1 :: a2 :: a3 :: a4 :: a5 :: a6 :: a7 :: a8 :: a9 :: some (.long x) :: none :: u) st M) : ow_G Γ own cc nL pc (a0 :: a1 :: a2 :: a3 :: a4 :: a5 :: a6 :: a7 :: a8 :: a9 :: b0 :: b1 :: u) (.long x :: st) M := gw_lstore (ls := (a0 :: a1 :: a2 :: a3 :: a4 :: a5 :: a6 :: a7 :: a8 :: a9 :: b0 :: b1 :: u)) hd hn hc k
theorem gw_lload11 {Γ : ow_Cx → Prop} {own : String} {cc : ByteArray} {nL pc : Nat} {st : List Value} {M : ow_M} {a0 : Option Value} {a1 : Option Value} {a2 : Option Value} {a3 : Option Value} {a4 : Option Value} {a5 : Option Value} {a6 : Option Value} {a7 : Option Value} {a8 : Option Value} {a9 : Option Value} {a10 : Option Value} {u : List (Option Value)} {x : Int64} (hd : decode cc pc = .ok (.lload 11, 2)) (k : ow_G Γ own cc nL (pc + 2) (a0 :: a1 :: a2 :: a3 :: a4 :: a5 :: a6 :: a7 :: a8 :: a9 :: a10 :: some (.long x) :: u) (.long x :: st) M) : ow_G Γ own cc nL pc (a0 :: a1 :: a2 :: a3 :: a4 :: a5 :: a6 :: a7 :: a8 :: a9 :: a10 :: some (.long x) :: u) st M := gw_lload (ls := (a0 :: a1 :: a2 :: a3 :: a4 :: a5 :: a6 :: a7 :: a8 :: a9 :: a10 :: some (.long x) :: u)) hd rfl k
theorem gw_lstore11 {Γ : ow_Cx → Prop} {own : String} {cc : ByteArray} {nL pc : Nat} {st : List Value} {M : ow_M} {a0 : Option Value} {a1 : Option Value} {a2 : Option Value} {a3 : Option Value} {a4 : Option Value} {a5 : Option Value} {a6 : Option Value} {a7 : Option Value} {a8 : Option Value} {a9 : Option Value} {a10 : Option Value} {b0 b1 : Option Value} {u : List (Option Value)} {x : Int64} (hd : decode cc pc = .ok (.lstore 11, 2)) (hn : 12 < nL) (hc : ow_k1 a10 = true) (k : ow_G Γ own cc nL (pc + 2) (a0 :: a1 :: a2 :: a3 :: a4 :: a5 :: a6 :: a7 :: a8 :: a9 :: a10 :: some (.long x) :: none :: u) st M) : ow_G Γ own cc nL pc (a0 :: a1 :: a2 :: a3 :: a4 :: a5 :: a6 :: a7 :: a8 :: a9 :: a10 :: b0 :: b1 :: u) (.long x :: st) M := gw_lstore (ls := (a0 :: a1 :: a2 :: a3 :: a4 :: a5 :: a6 :: a7 :: a8 :: a9 :: a10 :: b0 :: b1 :: u)) hd hn hc k
theorem gw_lload12 {Γ : ow_Cx → Prop} {own : String} {cc : ByteArray} {nL pc : Nat} {st : List Value} {M : ow_M} {a0 : Option Value} {a1 : Option Value} {a2 : Option Value} {a3 : Option Value} {a4 : Option Value} {a5 : Option Value} {a6 : Option Value} {a7 : Option Value} {a8 : Option Value} {a9 : Option Value} {a10 : Option Value} {a11 : Option Value} {u : List (Option Value)} {x : Int64} (hd : decode cc pc = .ok (.lload 12, 2)) (k : ow_G Γ own cc nL (pc + 2) (a0 :: a1 :: a2 :: a3 :: a4 :: a5 :: a6 :: a7 :: a8 :: a9 :: a10 :: a11 :: some (.long x) :: u) (.long x :: st) M) : ow_G Γ own cc nL pc (a0 :: a1 :: a2 :: a3 :: a4 :: a5 :: a6 :: a7 :: a8 :: a9 :: a10 :: a11 :: some (.long x) :: u) st M := gw_lload (ls := (a0 :: a1 :: a2 :: a3 :: a4 :: a5 :: a6 :: a7 :: a8 :: a9 :: a10 :: a11 :: some (.long x) :: u)) hd rfl k
theorem gw_lstore12 {Γ : ow_Cx → Prop} {own : String} {cc : ByteArray} {nL pc : Nat} {st : List Value} {M : ow_M} {a0 : Option Value} {a1 : Option Value} {a2 : Option Value} {a3 : Option Value} {a4 : Option Value} {a5 : Option Value} {a6 : Option Value} {a7 : Option Value} {a8 : Option Value} {a9 : Option Value} {a10 : Option Value} {a11 : Option Value} {b0 b1 : Option Value} {u : List (Option Value)} {x : Int64} (hd : decode cc pc = .ok (.lstore 12, 2)) (hn : 13 < nL) (hc : ow_k1 a11 = true) (k : ow_G Γ own cc nL (pc + 2) (a0 :: a1 :: a2 :: a3 :: a4 :: a5 :: a6 :: a7 :: a8 :: a9 :: a10 :: a11 :: some (.long x) :: none :: u) st M) : ow_G Γ own cc nL pc (a0 :: a1 :: a2 :: a3 :: a4 :: a5 :: a6 :: a7 :: a8 :: a9 :: a10 :: a11 :: b0 :: b1 :: u) (.long x :: st) M := gw_lstore (ls := (a0 :: a1 :: a2 :: a3 :: a4 :: a5 :: a6 :: a7 :: a8 :: a9 :: a10 :: a11 :: b0 :: b1 :: u)) hd hn hc k
theorem gw_lload13 {Γ : ow_Cx → Prop} {own : String} {cc : ByteArray} {nL pc : Nat} {st : List Value} {M : ow_M} {a0 : Option Value} {a1 : Option Value} {a2 : Option Value} {a3 : Option Value} {a4 : Option Value} {a5 : Option Value} {a6 : Option Value} {a7 : Option Value} {a8 : Option Value} {a9 : Option Value} {a10 : Option Value} {a11 : Option Value} {a12 : Option Value} {u : List (Option Value)} {x : Int64} (hd : decode cc pc = .ok (.lload 13, 2)) (k : ow_G Γ own cc nL (pc + 2) (a0 :: a1 :: a2 :: a3 :: a4 :: a5 :: a6 :: a7 :: a8 :: a9 :: a10 :: a11 :: a12 :: some (.long x) :: u) (.long x :: st) M) : ow_G Γ own cc nL pc (a0 :: a1 :: a2 :: a3 :: a4 :: a5 :: a6 :: a7 :: a8 :: a9 :: a10 :: a11 :: a12 :: some (.long x) :: u) st M := gw_lload (ls := (a0 :: a1 :: a2 :: a3 :: a4 :: a5 :: a6 :: a7 :: a8 :: a9 :: a10 :: a11 :: a12 :: some (.long x) :: u)) hd rfl k
theorem gw_lstore13 {Γ : ow_Cx → Prop} {own : String} {cc : ByteArray} {nL pc : Nat} {st : List Value} {M : ow_M} {a0 : Option Value} {a1 : Option Value} {a2 : Option Value} {a3 : Option Value} {a4 : Option Value} {a5 : Option Value} {a6 : Option Value} {a7 : Option Value} {a8 : Option Value} {a9 : Option Value} {a10 : Option Value} {a11 : Option Value} {a12 : Option Value} {b0 b1 : Option Value} {u : List (Option Value)} {x : Int64} (hd : decode cc pc = .ok (.lstore 13, 2)) (hn : 14 < nL) (hc : ow_k1 a12 = true) (k : ow_G Γ own cc nL (pc + 2) (a0 :: a1 :: a2 :: a3 :: a4 :: a5 :: a6 :: a7 :: a8 :: a9 :: a10 :: a11 :: a12 :: some (.long x) :: none :: u) st M) : ow_G Γ own cc nL pc (a0 :: a1 :: a2 :: a3 :: a4 :: a5 :: a6 :: a7 :: a8 :: a9 :: a10 :: a11 :: a12 :: b0 :: b1 :: u) (.long x :: st) M := gw_lstore (ls := (a0 :: a1 :: a2 :: a3 :: a4 :: a5 :: a6 :: a7 :: a8 :: a9 :: a10 :: a11 :: a12 :: b0 :: b1 :: u)) hd hn hc k
theorem gw_aload0 {Γ : ow_Cx → Prop} {own : String} {cc : ByteArray} {nL pc : Nat} {st : List Value} {M : ow_M} {u : List (Option Value)} {x : Nat} (hd : decode cc pc = .ok (.aload_n 0, 1)) (k : ow_G Γ own cc nL (pc + 1) (some (.ref x) :: u) (.ref x :: st) M) : ow_G Γ own cc nL pc (some (.ref x) :: u) st M := gw_aload_n (ls := (some (.ref x) :: u)) hd rfl rfl k
theorem gw_astore0 {Γ : ow_Cx → Prop} {own : String} {cc : ByteArray} {nL pc : Nat} {st : List Value} {M : ow_M} {b0 : Option Value} {u : List (Option Value)} {x : Nat} (hd : decode cc pc = .ok (.astore_n 0, 1)) (hn : 0 < nL) (k : ow_G Γ own cc nL (pc + 1) (some (.ref x) :: u) st M) : ow_G Γ own cc nL pc (b0 :: u) (.ref x :: st) M := gw_astore_n (ls := (b0 :: u)) hd rfl hn rfl k
theorem gw_aload1 {Γ : ow_Cx → Prop} {own : String} {cc : ByteArray} {nL pc : Nat} {st : List Value} {M : ow_M} {a0 : Option Value} {u : List (Option Value)} {x : Nat} (hd : decode cc pc = .ok (.aload_n 1, 1)) (k : ow_G Γ own cc nL (pc + 1) (a0 :: some (.ref x) :: u) (.ref x :: st) M) : ow_G Γ own cc nL pc (a0 :: some (.ref x) :: u) st M := gw_aload_n (ls := (a0 :: some (.ref x) :: u)) hd rfl rfl k
theorem gw_astore1 {Γ : ow_Cx → Prop} {own : String} {cc : ByteArray} {nL pc : Nat} {st : List Value} {M : ow_M} {a0 : Option Value} {b0 : Option Value} {u : List (Option Value)} {x : Nat} (hd : decode cc pc = .ok (.astore_n 1, 1)) (hn : 1 < nL) (hc : ow_k1 a0 = true) (k : ow_G Γ own cc nL (pc + 1) (a0 :: some (.ref x) :: u) st M) : ow_G Γ own cc nL pc (a0 :: b0 :: u) (.ref x :: st) M := gw_astore_n (ls := (a0 :: b0 :: u)) hd rfl hn hc k
theorem gw_aload2 {Γ : ow_Cx → Prop} {own : String} {cc : ByteArray} {nL pc : Nat} {st : List Value} {M : ow_M} {a0 : Option Value} {a1 : Option Value} {u : List (Option Value)} {x : Nat} (hd : decode cc pc = .ok (.aload_n 2, 1)) (k : ow_G Γ own cc nL (pc + 1) (a0 :: a1 :: some (.ref x) :: u) (.ref x :: st) M) : ow_G Γ own cc nL pc (a0 :: a1 :: some (.ref x) :: u) st M := gw_aload_n (ls := (a0 :: a1 :: some (.ref x) :: u)) hd rfl rfl k
theorem gw_astore2 {Γ : ow_Cx → Prop} {own : String} {cc : ByteArray} {nL pc : Nat} {st : List Value} {M : ow_M} {a0 : Option Value} {a1 : Option Value} {b0 : Option Value} {u : List (Option Value)} {x : Nat} (hd : decode cc pc = .ok (.astore_n 2, 1)) (hn : 2 < nL) (hc : ow_k1 a1 = true) (k : ow_G Γ own cc nL (pc + 1) (a0 :: a1 :: some (.ref x) :: u) st M) : ow_G Γ own cc nL pc (a0 :: a1 :: b0 :: u) (.ref x :: st) M := gw_astore_n (ls := (a0 :: a1 :: b0 :: u)) hd rfl hn hc k
theorem gw_aload3 {Γ : ow_Cx → Prop} {own : String} {cc : ByteArray} {nL pc : Nat} {st : List Value} {M : ow_M} {a0 : Option Value} {a1 : Option Value} {a2 : Option Value} {u : List (Option Value)} {x : Nat} (hd : decode cc pc = .ok (.aload_n 3, 1)) (k : ow_G Γ own cc nL (pc + 1) (a0 :: a1 :: a2 :: some (.ref x) :: u) (.ref x :: st) M) : ow_G Γ own cc nL pc (a0 :: a1 :: a2 :: some (.ref x) :: u) st M := gw_aload_n (ls := (a0 :: a1 :: a2 :: some (.ref x) :: u)) hd rfl rfl k
theorem gw_astore3 {Γ : ow_Cx → Prop} {own : String} {cc : ByteArray} {nL pc : Nat} {st : List Value} {M : ow_M} {a0 : Option Value} {a1 : Option Value} {a2 : Option Value} {b0 : Option Value} {u : List (Option Value)} {x : Nat} (hd : decode cc pc = .ok (.astore_n 3, 1)) (hn : 3 < nL) (hc : ow_k1 a2 = true) (k : ow_G Γ own cc nL (pc + 1) (a0 :: a1 :: a2 :: some (.ref x) :: u) st M) : ow_G Γ own cc nL pc (a0 :: a1 :: a2 :: b0 :: u) (.ref x :: st) M := gw_astore_n (ls := (a0 :: a1 :: a2 :: b0 :: u)) hd rfl hn hc k
theorem gw_aload4 {Γ : ow_Cx → Prop} {own : String} {cc : ByteArray} {nL pc : Nat} {st : List Value} {M : ow_M} {a0 : Option Value} {a1 : Option Value} {a2 : Option Value} {a3 : Option Value} {u : List (Option Value)} {x : Nat} (hd : decode cc pc = .ok (.aload 4, 2)) (k : ow_G Γ own cc nL (pc + 2) (a0 :: a1 :: a2 :: a3 :: some (.ref x) :: u) (.ref x :: st) M) : ow_G Γ own cc nL pc (a0 :: a1 :: a2 :: a3 :: some (.ref x) :: u) st M := gw_aload (ls := (a0 :: a1 :: a2 :: a3 :: some (.ref x) :: u)) hd rfl k
theorem gw_astore4 {Γ : ow_Cx → Prop} {own : String} {cc : ByteArray} {nL pc : Nat} {st : List Value} {M : ow_M} {a0 : Option Value} {a1 : Option Value} {a2 : Option Value} {a3 : Option Value} {b0 : Option Value} {u : List (Option Value)} {x : Nat} (hd : decode cc pc = .ok (.astore 4, 2)) (hn : 4 < nL) (hc : ow_k1 a3 = true) (k : ow_G Γ own cc nL (pc + 2) (a0 :: a1 :: a2 :: a3 :: some (.ref x) :: u) st M) : ow_G Γ own cc nL pc (a0 :: a1 :: a2 :: a3 :: b0 :: u) (.ref x :: st) M := gw_astore (ls := (a0 :: a1 :: a2 :: a3 :: b0 :: u)) hd hn hc k
theorem gw_aload5 {Γ : ow_Cx → Prop} {own : String} {cc : ByteArray} {nL pc : Nat} {st : List Value} {M : ow_M} {a0 : Option Value} {a1 : Option Value} {a2 : Option Value} {a3 : Option Value} {a4 : Option Value} {u : List (Option Value)} {x : Nat} (hd : decode cc pc = .ok (.aload 5, 2)) (k : ow_G Γ own cc nL (pc + 2) (a0 :: a1 :: a2 :: a3 :: a4 :: some (.ref x) :: u) (.ref x :: st) M) : ow_G Γ own cc nL pc (a0 :: a1 :: a2 :: a3 :: a4 :: some (.ref x) :: u) st M := gw_aload (ls := (a0 :: a1 :: a2 :: a3 :: a4 :: some (.ref x) :: u)) hd rfl k
theorem gw_astore5 {Γ : ow_Cx → Prop} {own : String} {cc : ByteArray} {nL pc : Nat} {st : List Value} {M : ow_M} {a0 : Option Value} {a1 : Option Value} {a2 : Option Value} {a3 : Option Value} {a4 : Option Value} {b0 : Option Value} {u : List (Option Value)} {x : Nat} (hd : decode cc pc = .ok (.astore 5, 2)) (hn : 5 < nL) (hc : ow_k1 a4 = true) (k : ow_G Γ own cc nL (pc + 2) (a0 :: a1 :: a2 :: a3 :: a4 :: some (.ref x) :: u) st M) : ow_G Γ own cc nL pc (a0 :: a1 :: a2 :: a3 :: a4 :: b0 :: u) (.ref x :: st) M := gw_astore (ls := (a0 :: a1 :: a2 :: a3 :: a4 :: b0 :: u)) hd hn hc k
theorem gw_aload6 {Γ : ow_Cx → Prop} {own : String} {cc : ByteArray} {nL pc : Nat} {st : List Value} {M : ow_M} {a0 : Option Value} {a1 : Option Value} {a2 : Option Value} {a3 : Option Value} {a4 : Option Value} {a5 : Option Value} {u : List (Option Value)} {x : Nat} (hd : decode cc pc = .ok (.aload 6, 2)) (k : ow_G Γ own cc nL (pc + 2) (a0 :: a1 :: a2 :: a3 :: a4 :: a5 :: some (.ref x) :: u) (.ref x :: st) M) : ow_G Γ own cc nL pc (a0 :: a1 :: a2 :: a3 :: a4 :: a5 :: some (.ref x) :: u) st M := gw_aload (ls := (a0 :: a1 :: a2 :: a3 :: a4 :: a5 :: some (.ref x) :: u)) hd rfl k
theorem gw_astore6 {Γ : ow_Cx → Prop} {own : String} {cc : ByteArray} {nL pc : Nat} {st : List Value} {M : ow_M} {a0 : Option Value} {a1 : Option Value} {a2 : Option Value} {a3 : Option Value} {a4 : Option Value} {a5 : Option Value} {b0 : Option Value} {u : List (Option Value)} {x : Nat} (hd : decode cc pc = .ok (.astore 6, 2)) (hn : 6 < nL) (hc : ow_k1 a5 = true) (k : ow_G Γ own cc nL (pc + 2) (a0 :: a1 :: a2 :: a3 :: a4 :: a5 :: some (.ref x) :: u) st M) : ow_G Γ own cc nL pc (a0 :: a1 :: a2 :: a3 :: a4 :: a5 :: b0 :: u) (.ref x :: st) M := gw_astore (ls := (a0 :: a1 :: a2 :: a3 :: a4 :: a5 :: b0 :: u)) hd hn hc k
theorem gw_aload7 {Γ : ow_Cx → Prop} {own : String} {cc : ByteArray} {nL pc : Nat} {st : List Value} {M : ow_M} {a0 : Option Value} {a1 : Option Value} {a2 : Option Value} {a3 : Option Value} {a4 : Option Value} {a5 : Option Value} {a6 : Option Value} {u : List (Option Value)} {x : Nat} (hd : decode cc pc = .ok (.aload 7, 2)) (k : ow_G Γ own cc nL (pc + 2) (a0 :: a1 :: a2 :: a3 :: a4 :: a5 :: a6 :: some (.ref x) :: u) (.ref x :: st) M) : ow_G Γ own cc nL pc (a0 :: a1 :: a2 :: a3 :: a4 :: a5 :: a6 :: some (.ref x) :: u) st M := gw_aload (ls := (a0 :: a1 :: a2 :: a3 :: a4 :: a5 :: a6 :: some (.ref x) :: u)) hd rfl k
theorem gw_astore7 {Γ : ow_Cx → Prop} {own : String} {cc : ByteArray} {nL pc : Nat} {st : List Value} {M : ow_M} {a0 : Option Value} {a1 : Option Value} {a2 : Option Value} {a3 : Option Value} {a4 : Option Value} {a5 : Option Value} {a6 : Option Value} {b0 : Option Value} {u : List (Option Value)} {x : Nat} (hd : decode cc pc = .ok (.astore 7, 2)) (hn : 7 < nL) (hc : ow_k1 a6 = true) (k : ow_G Γ own cc nL (pc + 2) (a0 :: a1 :: a2 :: a3 :: a4 :: a5 :: a6 :: some (.ref x) :: u) st M) : ow_G Γ own cc nL pc (a0 :: a1 :: a2 :: a3 :: a4 :: a5 :: a6 :: b0 :: u) (.ref x :: st) M := gw_astore (ls := (a0 :: a1 :: a2 :: a3 :: a4 :: a5 :: a6 :: b0 :: u)) hd hn hc k
theorem gw_aload8 {Γ : ow_Cx → Prop} {own : String} {cc : ByteArray} {nL pc : Nat} {st : List Value} {M : ow_M} {a0 : Option Value} {a1 : Option Value} {a2 : Option Value} {a3 : Option Value} {a4 : Option Value} {a5 : Option Value} {a6 : Option Value} {a7 : Option Value} {u : List (Option Value)} {x : Nat} (hd : decode cc pc = .ok (.aload 8, 2)) (k : ow_G Γ own cc nL (pc + 2) (a0 :: a1 :: a2 :: a3 :: a4 :: a5 :: a6 :: a7 :: some (.ref x) :: u) (.ref x :: st) M) : ow_G Γ own cc nL pc (a0 :: a1 :: a2 :: a3 :: a4 :: a5 :: a6 :: a7 :: some (.ref x) :: u) st M := gw_aload (ls := (a0 :: a1 :: a2 :: a3 :: a4 :: a5 :: a6 :: a7 :: some (.ref x) :: u)) hd rfl k
theorem gw_astore8 {Γ : ow_Cx → Prop} {own : String} {cc : ByteArray} {nL pc : Nat} {st : List Value} {M : ow_M} {a0 : Option Value} {a1 : Option Value} {a2 : Option Value} {a3 : Option Value} {a4 : Option Value} {a5 : Option Value} {a6 : Option Value} {a7 : Option Value} {b0 : Option Value} {u : List (Option Value)} {x : Nat} (hd : decode cc pc = .ok (.astore 8, 2)) (hn : 8 < nL) (hc : ow_k1 a7 = true) (k : ow_G Γ own cc nL (pc + 2) (a0 :: a1 :: a2 :: a3 :: a4 :: a5 :: a6 :: a7 :: some (.ref x) :: u) st M) : ow_G Γ own cc nL pc (a0 :: a1 :: a2 :: a3 :: a4 :: a5 :: a6 :: a7 :: b0 :: u) (.ref x :: st) M := gw_astore (ls := (a0 :: a1 :: a2 :: a3 :: a4 :: a5 :: a6 :: a7 :: b0 :: u)) hd hn hc k
theorem gw_aload9 {Γ : ow_Cx → Prop} {own : String} {cc : ByteArray} {nL pc : Nat} {st : List Value} {M : ow_M} {a0 : Option Value} {a1 : Option Value} {a2 : Option Value} {a3 : Option Value} {a4 : Option Value} {a5 : Option Value} {a6 : Option Value} {a7 : Option Value} {a8 : Option Value} {u : List (Option Value)} {x : Nat} (hd : decode cc pc = .ok (.aload 9, 2)) (k : ow_G Γ own cc nL (pc + 2) (a0 :: a1 :: a2 :: a3 :: a4 :: a5 :: a6 :: a7 :: a8 :: some (.ref x) :: u) (.ref x :: st) M) : ow_G Γ own cc nL pc (a0 :: a1 :: a2 :: a3 :: a4 :: a5 :: a6 :: a7 :: a8 :: some (.ref x) :: u) st M := gw_aload (ls := (a0 :: a1 :: a2 :: a3 :: a4 :: a5 :: a6 :: a7 :: a8 :: some (.ref x) :: u)) hd rfl k
theorem gw_astore9 {Γ : ow_Cx → Prop} {own : String} {cc : ByteArray} {nL pc : Nat} {st : List Value} {M : ow_M} {a0 : Option Value} {a1 : Option Value} {a2 : Option Value} {a3 : Option Value} {a4 : Option Value} {a5 : Option Value} {a6 : Option Value} {a7 : Option Value} {a8 : Option Value} {b0 : Option Value} {u : List (Option Value)} {x : Nat} (hd : decode cc pc = .ok (.astore 9, 2)) (hn : 9 < nL) (hc : ow_k1 a8 = true) (k : ow_G Γ own cc nL (pc + 2) (a0 :: a1 :: a2 :: a3 :: a4 :: a5 :: a6 :: a7 :: a8 :: some (.ref x) :: u) st M) : ow_G Γ own cc nL pc (a0 :: a1 :: a2 :: a3 :: a4 :: a5 :: a6 :: a7 :: a8 :: b0 :: u) (.ref x :: st) M := gw_astore (ls := (a0 :: a1 :: a2 :: a3 :: a4 :: a5 :: a6 :: a7 :: a8 :: b0 :: u)) hd hn hc k
theorem gw_aload10 {Γ : ow_Cx → Prop} {own : String} {cc : ByteArray} {nL pc : Nat} {st : List Value} {M : ow_M} {a0 : Option Value} {a1 : Option Value} {a2 : Option Value} {a3 : Option Value} {a4 : Option Value} {a5 : Option Value} {a6 : Option Value} {a7 : Option Value} {a8 : Option Value} {a9 : Option Value} {u : List (Option Value)} {x : Nat} (hd : decode cc pc = .ok (.aload 10, 2)) (k : ow_G Γ own cc nL (pc + 2) (a0 :: a1 :: a2 :: a3 :: a4 :: a5 :: a6 :: a7 :: a8 :: a9 :: some (.ref x) :: u) (.ref x :: st) M) : ow_G Γ own cc nL pc (a0 :: a1 :: a2 :: a3 :: a4 :: a5 :: a6 :: a7 :: a8 :: a9 :: some (.ref x) :: u) st M := gw_aload (ls := (a0 :: a1 :: a2 :: a3 :: a4 :: a5 :: a6 :: a7 :: a8 :: a9 :: some (.ref x) :: u)) hd rfl k
theorem gw_astore10 {Γ : ow_Cx → Prop} {own : String} {cc : ByteArray} {nL pc : Nat} {st : List Value} {M : ow_M} {a0 : Option Value} {a1 : Option Value} {a2 : Option Value} {a3 : Option Value} {a4 : Option Value} {a5 : Option Value} {a6 : Option Value} {a7 : Option Value} {a8 : Option Value} {a9 : Option Value} {b0 : Option Value} {u : List (Option Value)} {x : Nat} (hd : decode cc pc = .ok (.astore 10, 2)) (hn : 10 < nL) (hc : ow_k1 a9 = true) (k : ow_G Γ own cc nL (pc + 2) (a0 :: a1 :: a2 :: a3 :: a4 :: a5 :: a6 :: a7 :: a8 :: a9 :: some (.ref x) :: u) st M) : ow_G Γ own cc nL pc (a0 :: a1 :: a2 :: a3 :: a4 :: a5 :: a6 :: a7 :: a8 :: a9 :: b0 :: u) (.ref x :: st) M := gw_astore (ls := (a0 :: a1 :: a2 :: a3 :: a4 :: a5 :: a6 :: a7 :: a8 :: a9 :: b0 :: u)) hd hn hc k
theorem gw_aload11 {Γ : ow_Cx → Prop} {own : String} {cc : ByteArray} {nL pc : Nat} {st : List Value} {M : ow_M} {a0 : Option Value} {a1 : Option Value} {a2 : Option Value} {a3 : Option Value} {a4 : Option Value} {a5 : Option Value} {a6 : Option Value} {a7 : Option Value} {a8 : Option Value} {a9 : Option Value} {a10 : Option Value} {u : List (Option Value)} {x : Nat} (hd : decode cc pc = .ok (.aload 11, 2)) (k : ow_G Γ own cc nL (pc + 2) (a0 :: a1 :: a2 :: a3 :: a4 :: a5 :: a6 :: a7 :: a8 :: a9 :: a10 :: some (.ref x) :: u) (.ref x :: st) M) : ow_G Γ own cc nL pc (a0 :: a1 :: a2 :: a3 :: a4 :: a5 :: a6 :: a7 :: a8 :: a9 :: a10 :: some (.ref x) :: u) st M := gw_aload (ls := (a0 :: a1 :: a2 :: a3 :: a4 :: a5 :: a6 :: a7 :: a8 :: a9 :: a10 :: some (.ref x) :: u)) hd rfl k
theorem gw_astore11 {Γ : ow_Cx → Prop} {own : String} {cc : ByteArray} {nL pc : Nat} {st : List Value} {M : ow_M} {a0 : Option Value} {a1 : Option Value} {a2 : Option Value} {a3 : Option Value} {a4 : Option Value} {a5 : Option Value} {a6 : Option Value} {a7 : Option Value} {a8 : Option Value} {a9 : Option Value} {a10 : Option Value} {b0 : Option Value} {u : List (Option Value)} {x : Nat} (hd : decode cc pc = .ok (.astore 11, 2)) (hn : 11 < nL) (hc : ow_k1 a10 = true) (k : ow_G Γ own cc nL (pc + 2) (a0 :: a1 :: a2 :: a3 :: a4 :: a5 :: a6 :: a7 :: a8 :: a9 :: a10 :: some (.ref x) :: u) st M) : ow_G Γ own cc nL pc (a0 :: a1 :: a2 :: a3 :: a4 :: a5 :: a6 :: a7 :: a8 :: a9 :: a10 :: b0 :: u) (.ref x :: st) M := gw_astore (ls := (a0 :: a1 :: a2 :: a3 :: a4 :: a5 :: a6 :: a7 :: a8 :: a9 :: a10 :: b0 :: u)) hd hn hc k
theorem gw_aload12 {Γ : ow_Cx → Prop} {own : String} {cc : ByteArray} {nL pc : Nat} {st : List Value} {M : ow_M} {a0 : Option Value} {a1 : Option Value} {a2 : Option Value} {a3 : Option Value} {a4 : Option Value} {a5 : Option Value} {a6 : Option Value} {a7 : Option Value} {a8 : Option Value} {a9 : Option Value} {a10 : Option Value} {a11 : Option Value} {u : List (Option Value)} {x : Nat} (hd : decode cc pc = .ok (.aload 12, 2)) (k : ow_G Γ own cc nL (pc + 2) (a0 :: a1 :: a2 :: a3 :: a4 :: a5 :: a6 :: a7 :: a8 :: a9 :: a10 :: a11 :: some (.ref x) :: u) (.ref x :: st) M) : ow_G Γ own cc nL pc (a0 :: a1 :: a2 :: a3 :: a4 :: a5 :: a6 :: a7 :: a8 :: a9 :: a10 :: a11 :: some (.ref x) :: u) st M := gw_aload (ls := (a0 :: a1 :: a2 :: a3 :: a4 :: a5 :: a6 :: a7 :: a8 :: a9 :: a10 :: a11 :: some (.ref x) :: u)) hd rfl k
theorem gw_astore12 {Γ : ow_Cx → Prop} {own : String} {cc : ByteArray} {nL pc : Nat} {st : List Value} {M : ow_M} {a0 : Option Value} {a1 : Option Value} {a2 : Option Value} {a3 : Option Value} {a4 : Option Value} {a5 : Option Value} {a6 : Option Value} {a7 : Option Value} {a8 : Option Value} {a9 : Option Value} {a10 : Option Value} {a11 : Option Value} {b0 : Option Value} {u : List (Option Value)} {x : Nat} (hd : decode cc pc = .ok (.astore 12, 2)) (hn : 12 < nL) (hc : ow_k1 a11 = true) (k : ow_G Γ own cc nL (pc + 2) (a0 :: a1 :: a2 :: a3 :: a4 :: a5 :: a6 :: a7 :: a8 :: a9 :: a10 :: a11 :: some (.ref x) :: u) st M) : ow_G Γ own cc nL pc (a0 :: a1 :: a2 :: a3 :: a4 :: a5 :: a6 :: a7 :: a8 :: a9 :: a10 :: a11 :: b0 :: u) (.ref x :: st) M := gw_astore (ls := (a0 :: a1 :: a2 :: a3 :: a4 :: a5 :: a6 :: a7 :: a8 :: a9 :: a10 :: a11 :: b0 :: u)) hd hn hc k
theorem gw_aload13 {Γ : ow_Cx → Prop} {own : String} {cc : ByteArray} {nL pc : Nat} {st : List Value} {M : ow_M} {a0 : Option Value} {a1 : Option Value} {a2 : Option Value} {a3 : Option Value} {a4 : Option Value} {a5 : Option Value} {a6 : Option Value} {a7 : Option Value} {a8 : Option Value} {a9 : Option Value} {a10 : Option Value} {a11 : Option Value} {a12 : Option Value} {u : List (Option Value)} {x : Nat} (hd : decode cc pc = .ok (.aload 13, 2)) (k : ow_G Γ own cc nL (pc + 2) (a0 :: a1 :: a2 :: a3 :: a4 :: a5 :: a6 :: a7 :: a8 :: a9 :: a10 :: a11 :: a12 :: some (.ref x) :: u) (.ref x :: st) M) : ow_G Γ own cc nL pc (a0 :: a1 :: a2 :: a3 :: a4 :: a5 :: a6 :: a7 :: a8 :: a9 :: a10 :: a11 :: a12 :: some (.ref x) :: u) st M := gw_aload (ls := (a0 :: a1 :: a2 :: a3 :: a4 :: a5 :: a6 :: a7 :: a8 :: a9 :: a10 :: a11 :: a12 :: some (.ref x) :: u)) hd rfl k
theorem gw_astore13 {Γ : ow_Cx → Prop} {own : String} {cc : ByteArray} {nL pc : Nat} {st : List Value} {M : ow_M} {a0 : Option Value} {a1 : Option Value} {a2 : Option Value} {a3 : Option Value} {a4 : Option Value} {a5 : Option Value} {a6 : Option Value} {a7 : Option Value} {a8 : Option Value} {a9 : Option Value} {a10 : Option Value} {a11 : Option Value} {a12 : Option Value} {b0 : Option Value} {u : List (Option Value)} {x : Nat} (hd : decode cc pc = .ok (.astore 13, 2)) (hn : 13 < nL) (hc : ow_k1 a12 = true) (k : ow_G Γ own cc nL (pc + 2) (a0 :: a1 :: a2 :: a3 :: a4 :: a5 :: a6 :: a7 :: a8 :: a9 :: a10 :: a11 :: a12 :: some (.ref x) :: u) st M) : ow_G Γ own cc nL pc (a0 :: a1 :: a2 :: a3 :: a4 :: a5 :: a6 :: a7 :: a8 :: a9 :: a10 :: a11 :: a12 :: b0 :: u) (.ref x :: st) M := gw_astore (ls := (a0 :: a1 :: a2 :: a3 :: a4 :: a5 :: a6 :: a7 :: a8 :: a9 :: a10 :: a11 :: a12 :: b0 :: u)) hd hn hc k
theorem gw_iinc0 {Γ : ow_Cx → Prop} {own : String} {cc : ByteArray} {nL pc : Nat} {st : List Value} {M : ow_M} {u : List (Option Value)} {n : Int} {x : Int32} (v : Int32) (hd : decode cc pc = .ok (.iinc 0 n, 3)) (hn : 0 < nL) (hv : Int32.ofInt n = v) (k : ow_G Γ own cc nL (pc + 3) (some (.int (x + v)) :: u) st M) : ow_G Γ own cc nL pc (some (.int x) :: u) st M := gw_iinc (ls := (some (.int x) :: u)) (x + v) hd hn rfl rfl (by rw [hv]) k
theorem gw_iinc1 {Γ : ow_Cx → Prop} {own : String} {cc : ByteArray} {nL pc : Nat} {st : List Value} {M : ow_M} {a0 : Option Value} {u : List (Option Value)} {n : Int} {x : Int32} (v : Int32) (hd : decode cc pc = .ok (.iinc 1 n, 3)) (hn : 1 < nL) (hc : ow_k1 a0 = true) (hv : Int32.ofInt n = v) (k : ow_G Γ own cc nL (pc + 3) (a0 :: some (.int (x + v)) :: u) st M) : ow_G Γ own cc nL pc (a0 :: some (.int x) :: u) st M := gw_iinc (ls := (a0 :: some (.int x) :: u)) (x + v) hd hn hc rfl (by rw [hv]) k
theorem gw_iinc2 {Γ : ow_Cx → Prop} {own : String} {cc : ByteArray} {nL pc : Nat} {st : List Value} {M : ow_M} {a0 : Option Value} {a1 : Option Value} {u : List (Option Value)} {n : Int} {x : Int32} (v : Int32) (hd : decode cc pc = .ok (.iinc 2 n, 3)) (hn : 2 < nL) (hc : ow_k1 a1 = true) (hv : Int32.ofInt n = v) (k : ow_G Γ own cc nL (pc + 3) (a0 :: a1 :: some (.int (x + v)) :: u) st M) : ow_G Γ own cc nL pc (a0 :: a1 :: some (.int x) :: u) st M := gw_iinc (ls := (a0 :: a1 :: some (.int x) :: u)) (x + v) hd hn hc rfl (by rw [hv]) k
theorem gw_iinc3 {Γ : ow_Cx → Prop} {own : String} {cc : ByteArray} {nL pc : Nat} {st : List Value} {M : ow_M} {a0 : Option Value} {a1 : Option Value} {a2 : Option Value} {u : List (Option Value)} {n : Int} {x : Int32} (v : Int32) (hd : decode cc pc = .ok (.iinc 3 n, 3)) (hn : 3 < nL) (hc : ow_k1 a2 = true) (hv : Int32.ofInt n = v) (k : ow_G Γ own cc nL (pc + 3) (a0 :: a1 :: a2 :: some (.int (x + v)) :: u) st M) : ow_G Γ own cc nL pc (a0 :: a1 :: a2 :: some (.int x) :: u) st M := gw_iinc (ls := (a0 :: a1 :: a2 :: some (.int x) :: u)) (x + v) hd hn hc rfl (by rw [hv]) k
theorem gw_iinc4 {Γ : ow_Cx → Prop} {own : String} {cc : ByteArray} {nL pc : Nat} {st : List Value} {M : ow_M} {a0 : Option Value} {a1 : Option Value} {a2 : Option Value} {a3 : Option Value} {u : List (Option Value)} {n : Int} {x : Int32} (v : Int32) (hd : decode cc pc = .ok (.iinc 4 n, 3)) (hn : 4 < nL) (hc : ow_k1 a3 = true) (hv : Int32.ofInt n = v) (k : ow_G Γ own cc nL (pc + 3) (a0 :: a1 :: a2 :: a3 :: some (.int (x + v)) :: u) st M) : ow_G Γ own cc nL pc (a0 :: a1 :: a2 :: a3 :: some (.int x) :: u) st M := gw_iinc (ls := (a0 :: a1 :: a2 :: a3 :: some (.int x) :: u)) (x + v) hd hn hc rfl (by rw [hv]) k
theorem gw_iinc5 {Γ : ow_Cx → Prop} {own : String} {cc : ByteArray} {nL pc : Nat} {st : List Value} {M : ow_M} {a0 : Option Value} {a1 : Option Value} {a2 : Option Value} {a3 : Option Value} {a4 : Option Value} {u : List (Option Value)} {n : Int} {x : Int32} (v : Int32) (hd : decode cc pc = .ok (.iinc 5 n, 3)) (hn : 5 < nL) (hc : ow_k1 a4 = true) (hv : Int32.ofInt n = v) (k : ow_G Γ own cc nL (pc + 3) (a0 :: a1 :: a2 :: a3 :: a4 :: some (.int (x + v)) :: u) st M) : ow_G Γ own cc nL pc (a0 :: a1 :: a2 :: a3 :: a4 :: some (.int x) :: u) st M := gw_iinc (ls := (a0 :: a1 :: a2 :: a3 :: a4 :: some (.int x) :: u)) (x + v) hd hn hc rfl (by rw [hv]) k
theorem gw_iinc6 {Γ : ow_Cx → Prop} {own : String} {cc : ByteArray} {nL pc : Nat} {st : List Value} {M : ow_M} {a0 : Option Value} {a1 : Option Value} {a2 : Option Value} {a3 : Option Value} {a4 : Option Value} {a5 : Option Value} {u : List (Option Value)} {n : Int} {x : Int32} (v : Int32) (hd : decode cc pc = .ok (.iinc 6 n, 3)) (hn : 6 < nL) (hc : ow_k1 a5 = true) (hv : Int32.ofInt n = v) (k : ow_G Γ own cc nL (pc + 3) (a0 :: a1 :: a2 :: a3 :: a4 :: a5 :: some (.int (x + v)) :: u) st M) : ow_G Γ own cc nL pc (a0 :: a1 :: a2 :: a3 :: a4 :: a5 :: some (.int x) :: u) st M := gw_iinc (ls := (a0 :: a1 :: a2 :: a3 :: a4 :: a5 :: some (.int x) :: u)) (x + v) hd hn hc rfl (by rw [hv]) k
theorem gw_iinc7 {Γ : ow_Cx → Prop} {own : String} {cc : ByteArray} {nL pc : Nat} {st : List Value} {M : ow_M} {a0 : Option Value} {a1 : Option Value} {a2 : Option Value} {a3 : Option Value} {a4 : Option Value} {a5 : Option Value} {a6 : Option Value} {u : List (Option Value)} {n : Int} {x : Int32} (v : Int32) (hd : decode cc pc = .ok (.iinc 7 n, 3)) (hn : 7 < nL) (hc : ow_k1 a6 = true) (hv : Int32.ofInt n = v) (k : ow_G Γ own cc nL (pc + 3) (a0 :: a1 :: a2 :: a3 :: a4 :: a5 :: a6 :: some (.int (x + v)) :: u) st M) : ow_G Γ own cc nL pc (a0 :: a1 :: a2 :: a3 :: a4 :: a5 :: a6 :: some (.int x) :: u) st M := gw_iinc (ls := (a0 :: a1 :: a2 :: a3 :: a4 :: a5 :: a6 :: some (.int x) :: u)) (x + v) hd hn hc rfl (by rw [hv]) k
theorem gw_iinc8 {Γ : ow_Cx → Prop} {own : String} {cc : ByteArray} {nL pc : Nat} {st : List Value} {M : ow_M} {a0 : Option Value} {a1 : Option Value} {a2 : Option Value} {a3 : Option Value} {a4 : Option Value} {a5 : Option Value} {a6 : Option Value} {a7 : Option Value} {u : List (Option Value)} {n : Int} {x : Int32} (v : Int32) (hd : decode cc pc = .ok (.iinc 8 n, 3)) (hn : 8 < nL) (hc : ow_k1 a7 = true) (hv : Int32.ofInt n = v) (k : ow_G Γ own cc nL (pc + 3) (a0 :: a1 :: a2 :: a3 :: a4 :: a5 :: a6 :: a7 :: some (.int (x + v)) :: u) st M) : ow_G Γ own cc nL pc (a0 :: a1 :: a2 :: a3 :: a4 :: a5 :: a6 :: a7 :: some (.int x) :: u) st M := gw_iinc (ls := (a0 :: a1 :: a2 :: a3 :: a4 :: a5 :: a6 :: a7 :: some (.int x) :: u)) (x + v) hd hn hc rfl (by rw [hv]) k
theorem gw_iinc9 {Γ : ow_Cx → Prop} {own : String} {cc : ByteArray} {nL pc : Nat} {st : List Value} {M : ow_M} {a0 : Option Value} {a1 : Option Value} {a2 : Option Value} {a3 : Option Value} {a4 : Option Value} {a5 : Option Value} {a6 : Option Value} {a7 : Option Value} {a8 : Option Value} {u : List (Option Value)} {n : Int} {x : Int32} (v : Int32) (hd : decode cc pc = .ok (.iinc 9 n, 3)) (hn : 9 < nL) (hc : ow_k1 a8 = true) (hv : Int32.ofInt n = v) (k : ow_G Γ own cc nL (pc + 3) (a0 :: a1 :: a2 :: a3 :: a4 :: a5 :: a6 :: a7 :: a8 :: some (.int (x + v)) :: u) st M) : ow_G Γ own cc nL pc (a0 :: a1 :: a2 :: a3 :: a4 :: a5 :: a6 :: a7 :: a8 :: some (.int x) :: u) st M := gw_iinc (ls := (a0 :: a1 :: a2 :: a3 :: a4 :: a5 :: a6 :: a7 :: a8 :: some (.int x) :: u)) (x + v) hd hn hc rfl (by rw [hv]) k
theorem gw_iinc10 {Γ : ow_Cx → Prop} {own : String} {cc : ByteArray} {nL pc : Nat} {st : List Value} {M : ow_M} {a0 : Option Value} {a1 : Option Value} {a2 : Option Value} {a3 : Option Value} {a4 : Option Value} {a5 : Option Value} {a6 : Option Value} {a7 : Option Value} {a8 : Option Value} {a9 : Option Value} {u : List (Option Value)} {n : Int} {x : Int32} (v : Int32) (hd : decode cc pc = .ok (.iinc 10 n, 3)) (hn : 10 < nL) (hc : ow_k1 a9 = true) (hv : Int32.ofInt n = v) (k : ow_G Γ own cc nL (pc + 3) (a0 :: a1 :: a2 :: a3 :: a4 :: a5 :: a6 :: a7 :: a8 :: a9 :: some (.int (x + v)) :: u) st M) : ow_G Γ own cc nL pc (a0 :: a1 :: a2 :: a3 :: a4 :: a5 :: a6 :: a7 :: a8 :: a9 :: some (.int x) :: u) st M := gw_iinc (ls := (a0 :: a1 :: a2 :: a3 :: a4 :: a5 :: a6 :: a7 :: a8 :: a9 :: some (.int x) :: u)) (x + v) hd hn hc rfl (by rw [hv]) k
theorem gw_iinc11 {Γ : ow_Cx → Prop} {own : String} {cc : ByteArray} {nL pc : Nat} {st : List Value} {M : ow_M} {a0 : Option Value} {a1 : Option Value} {a2 : Option Value} {a3 : Option Value} {a4 : Option Value} {a5 : Option Value} {a6 : Option Value} {a7 : Option Value} {a8 : Option Value} {a9 : Option Value} {a10 : Option Value} {u : List (Option Value)} {n : Int} {x : Int32} (v : Int32) (hd : decode cc pc = .ok (.iinc 11 n, 3)) (hn : 11 < nL) (hc : ow_k1 a10 = true) (hv : Int32.ofInt n = v) (k : ow_G Γ own cc nL (pc + 3) (a0 :: a1 :: a2 :: a3 :: a4 :: a5 :: a6 :: a7 :: a8 :: a9 :: a10 :: some (.int (x + v)) :: u) st M) : ow_G Γ own cc nL pc (a0 :: a1 :: a2 :: a3 :: a4 :: a5 :: a6 :: a7 :: a8 :: a9 :: a10 :: some (.int x) :: u) st M := gw_iinc (ls := (a0 :: a1 :: a2 :: a3 :: a4 :: a5 :: a6 :: a7 :: a8 :: a9 :: a10 :: some (.int x) :: u)) (x + v) hd hn hc rfl (by rw [hv]) k
theorem gw_iinc12 {Γ : ow_Cx → Prop} {own : String} {cc : ByteArray} {nL pc : Nat} {st : List Value} {M : ow_M} {a0 : Option Value} {a1 : Option Value} {a2 : Option Value} {a3 : Option Value} {a4 : Option Value} {a5 : Option Value} {a6 : Option Value} {a7 : Option Value} {a8 : Option Value} {a9 : Option Value} {a10 : Option Value} {a11 : Option Value} {u : List (Option Value)} {n : Int} {x : Int32} (v : Int32) (hd : decode cc pc = .ok (.iinc 12 n, 3)) (hn : 12 < nL) (hc : ow_k1 a11 = true) (hv : Int32.ofInt n = v) (k : ow_G Γ own cc nL (pc + 3) (a0 :: a1 :: a2 :: a3 :: a4 :: a5 :: a6 :: a7 :: a8 :: a9 :: a10 :: a11 :: some (.int (x + v)) :: u) st M) : ow_G Γ own cc nL pc (a0 :: a1 :: a2 :: a3 :: a4 :: a5 :: a6 :: a7 :: a8 :: a9 :: a10 :: a11 :: some (.int x) :: u) st M := gw_iinc (ls := (a0 :: a1 :: a2 :: a3 :: a4 :: a5 :: a6 :: a7 :: a8 :: a9 :: a10 :: a11 :: some (.int x) :: u)) (x + v) hd hn hc rfl (by rw [hv]) k
theorem gw_iinc13 {Γ : ow_Cx → Prop} {own : String} {cc : ByteArray} {nL pc : Nat} {st : List Value} {M : ow_M} {a0 : Option Value} {a1 : Option Value} {a2 : Option Value} {a3 : Option Value} {a4 : Option Value} {a5 : Option Value} {a6 : Option Value} {a7 : Option Value} {a8 : Option Value} {a9 : Option Value} {a10 : Option Value} {a11 : Option Value} {a12 : Option Value} {u : List (Option Value)} {n : Int} {x : Int32} (v : Int32) (hd : decode cc pc = .ok (.iinc 13 n, 3)) (hn : 13 < nL) (hc : ow_k1 a12 = true) (hv : Int32.ofInt n = v) (k : ow_G Γ own cc nL (pc + 3) (a0 :: a1 :: a2 :: a3 :: a4 :: a5 :: a6 :: a7 :: a8 :: a9 :: a10 :: a11 :: a12 :: some (.int (x + v)) :: u) st M) : ow_G Γ own cc nL pc (a0 :: a1 :: a2 :: a3 :: a4 :: a5 :: a6 :: a7 :: a8 :: a9 :: a10 :: a11 :: a12 :: some (.int x) :: u) st M := gw_iinc (ls := (a0 :: a1 :: a2 :: a3 :: a4 :: a5 :: a6 :: a7 :: a8 :: a9 :: a10 :: a11 :: a12 :: some (.int x) :: u)) (x + v) hd hn hc rfl (by rw [hv]) k
def ow_le : List (Option Value) → List (Option Value) → Prop
  | [], _ => True
  | none :: t, _ :: u => ow_le t u
  | some v :: t, some x :: u => v = x ∧ ow_le t u
  | _, _ => False
theorem ow_le_get : ∀ {a b : List (Option Value)}, ow_le a b → ∀ {i : Nat} {v : Value}, a[i]? = some (some v) → b[i]? = some (some v) := by
  intro a
  induction a with
  | nil => intro b _ i v h; simp at h
  | cons x t ih =>
    intro b hb i v h
    cases b with
    | nil => cases x <;> exact hb.elim
    | cons z u =>
      cases x with
      | none =>
        cases i with
        | zero => simp at h
        | succ i => exact ih (b := u) hb (by simpa using h)
      | some x =>
        cases z with
        | none => exact hb.elim
        | some z =>
          cases i with
          | zero => simp at h ⊢; rw [← h]; exact hb.1.symm
          | succ i => exact ih (b := u) hb.2 (by simpa using h)
theorem gw_drop {Γ : ow_Cx → Prop} {own : String} {cc : ByteArray} {nL pc : Nat} {ls : List (Option Value)} {st : List Value} {M : ow_M} {ls2 : List (Option Value)} (h : ow_le ls2 ls) (k : ow_G Γ own cc nL pc ls2 st M) : ow_G Γ own cc nL pc ls st M := by
  intro p l e R s m args below meth c cells slots Z cI ad D A hΓ X H locs lsA hP hD hS hl
  refine k p l e R s m args below meth c cells slots Z cI ad D A hΓ X H locs lsA hP hD hS (ow_has_mono hl fun q hq => ?_)
  obtain ⟨i, v, rfl, h1⟩ := ow_lv_inv hq
  exact ow_lv_mem (ow_le_get h h1)
def ow_CF (C : String) (T : u_T) (N : Nat) : Prop := (∀ w ∈ u_ws C T N, w ∈ ow_base) ∧ ∃ ty0 : Nat → FieldType, (∀ k, k < N → parseFieldDescriptor (T k).2.2.1 = some (ty0 k)) ∧ ∀ a, a < N → ∀ b, b < N → a ≠ b → (T a).2.1 ≠ (T b).2.1
def ow_fl (own : String) (idx ci k : Nat) : Prop := ∃ (C : String) (T : u_T) (N : Nat), vwCl[ci]? = some (C, T, N) ∧ ow_CF C T N ∧ k < N ∧ (T k).1 = C ∧ (Cond.fieldLink own idx C (T k).2.1 (T k).2.2.1 ∈ ow_base ∨ ∃ host, Cond.fieldLinkNest own idx C (T k).2.1 (T k).2.2.1 host ∈ ow_nest)
def ow_fp (ci k : Nat) (ty : FieldType) : Prop := ∃ (C : String) (T : u_T) (N : Nat), vwCl[ci]? = some (C, T, N) ∧ (T k).2.2.2 = false ∧ parseFieldDescriptor (T k).2.2.1 = some ty
theorem gw_get {Γ : ow_Cx → Prop} {own : String} {cc : ByteArray} {nL pc : Nat} {ls : List (Option Value)} {st : List Value} {M : ow_M} {idx o ci j : Nat} {fs : List (Option Nat)} {x : Option Nat} {v : Value} (hd : decode cc pc = .ok (.getfield idx, 3)) (hf : ow_fl own idx ci j) (hs : ow_sh[o]? = some (.inr (ci, fs))) (hj : fs[j]? = some x) (hv : ∀ ad, ow_v ad v = ow_fv ad (M.1 o) j x) (k : ow_G Γ own cc nL (pc + 3) ls (v :: st) M) : ow_G Γ own cc nL pc ls (.ref o :: st) M := by
  intro p l e R s m args below meth c cells slots Z cI ad D A hΓ X H locs lsA hP hD hS hl
  obtain ⟨C, T, N, h1, h2, h3, h4, h5⟩ := hf
  have hg := ow_fs_get (ad := ad) (f := M.1 o) hj
  rcases h5 with h5 | ⟨host, h5⟩
  · exact va_get X.1 X.2.1 X.2.2.2.2.1 h2.1 X.2.2.2.1 X.2.2.2.2.2.2.1 hP o (ow_w_get hs) h1 j h3 (X.2.2.2.2.1 _ h5) (by rw [h4]; exact fun _ h => h) (v := ow_v ad v) (by rw [hv ad]; exact hg) hd (k p l e R s m args below meth c cells slots Z cI ad D A hΓ X H locs lsA hP hD hS hl)
  · exact va_getN X.1 X.2.1 X.2.2.2.2.1 h2.1 X.2.2.2.1 X.2.2.2.2.2.2.1 hP o (ow_w_get hs) h1 j h3 (va_Nw.use rfl (X.2.2.2.2.2.1 _ h5)) (by rw [h4]; exact fun _ h => h) (v := ow_v ad v) (by rw [hv ad]; exact hg) hd (k p l e R s m args below meth c cells slots Z cI ad D A hΓ X H locs lsA hP hD hS hl)
theorem gw_getI {Γ : ow_Cx → Prop} {own : String} {cc : ByteArray} {nL pc : Nat} {ls : List (Option Value)} {st : List Value} {M : ow_M} {idx o ci j : Nat} {fs : List (Option Nat)} (hd : decode cc pc = .ok (.getfield idx, 3)) (hf : ow_fl own idx ci j) (hs : ow_sh[o]? = some (.inr (ci, fs))) (hj : fs[j]? = some none) (k : ow_G Γ own cc nL (pc + 3) ls (.int (M.1 o j) :: st) M) : ow_G Γ own cc nL pc ls (.ref o :: st) M := gw_get hd hf hs hj (fun _ => rfl) k
theorem gw_getR {Γ : ow_Cx → Prop} {own : String} {cc : ByteArray} {nL pc : Nat} {ls : List (Option Value)} {st : List Value} {M : ow_M} {idx o ci j r : Nat} {fs : List (Option Nat)} (hd : decode cc pc = .ok (.getfield idx, 3)) (hf : ow_fl own idx ci j) (hs : ow_sh[o]? = some (.inr (ci, fs))) (hj : fs[j]? = some (some r)) (k : ow_G Γ own cc nL (pc + 3) ls (.ref r :: st) M) : ow_G Γ own cc nL pc ls (.ref o :: st) M := gw_get hd hf hs hj (fun _ => rfl) k
theorem gw_put {Γ : ow_Cx → Prop} {own : String} {cc : ByteArray} {nL pc : Nat} {ls : List (Option Value)} {st : List Value} {M : ow_M} {idx o ci j : Nat} {fs : List (Option Nat)} {x : Int32} {ty : FieldType} (hd : decode cc pc = .ok (.putfield idx, 3)) (hf : ow_fl own idx ci j) (hp : ow_fp ci j ty) (hs : ow_sh[o]? = some (.inr (ci, fs))) (hj : fs[j]? = some none) (hn : narrow ty (.int x) = .int x) (hfit : fits ty (.int x) = true) (k : ow_G Γ own cc nL (pc + 3) ls st (ow_up M o j x)) : ow_G Γ own cc nL pc ls (.int x :: .ref o :: st) M := by
  intro p l e R s m args below meth c cells slots Z cI ad D A hΓ X H locs lsA hP hD hS hl
  obtain ⟨C, T, N, h1, h2, h3, h4, h5⟩ := hf
  obtain ⟨C2, T2, N2, g1, g2, g3⟩ := hp
  have e := Option.some.inj (g1.symm.trans h1)
  cases e
  obtain ⟨h2a, ty0, h2b, h2c⟩ := h2
  have hlen : j < (ow_fs ad (M.1 o) fs).length := by unfold ow_fs; rw [List.length_mapIdx]; exact (List.getElem?_eq_some_iff.mp hj).1
  have go : ∀ (H1 : Heap) (locs1 : List Loc), va_P D vwCl ((ow_w cI ad M).set o (ad o, .inr (ci, (ow_fs ad (M.1 o) fs).set j (.int x)))) H1 → va_D A ((ow_w cI ad M).set o (ad o, .inr (ci, (ow_fs ad (M.1 o) fs).set j (.int x)))) → va_S A s.heap H1 locs1 → W p l e R s m args below meth c H1 locs1 cells slots Z (F0 m (pc + 3) lsA (st.map (ow_v ad))) := by
    intro H1 locs1 hP1 hD1 hS1
    rw [ow_w_put hs hj] at hP1 hD1
    exact k p l e R s m args below meth c cells slots Z cI ad D A hΓ X H1 locs1 lsA hP1 hD1 hS1 hl
  rcases h5 with h5 | ⟨host, h5⟩
  · exact va_put X.1 X.2.1 X.2.2.2.2.1 h2a ty0 h2b h2c X.2.2.2.1 X.2.2.2.2.2.2.1 hP hD hS o (ow_w_get hs) h1 j h3 (X.2.2.2.2.1 _ h5) (by rw [h4]; exact fun _ h => h) g2 g3 hn hfit hlen hd go
  · exact va_putN X.1 X.2.1 X.2.2.2.2.1 h2a ty0 h2b h2c X.2.2.2.1 X.2.2.2.2.2.2.1 hP hD hS o (ow_w_get hs) h1 j h3 (va_Nw.use rfl (X.2.2.2.2.2.1 _ h5)) (by rw [h4]; exact fun _ h => h) g2 g3 hn hfit hlen hd go
theorem gw_putI {Γ : ow_Cx → Prop} {own : String} {cc : ByteArray} {nL pc : Nat} {ls : List (Option Value)} {st : List Value} {M : ow_M} {idx o ci j : Nat} {fs : List (Option Nat)} {x : Int32} (hd : decode cc pc = .ok (.putfield idx, 3)) (hf : ow_fl own idx ci j) (hp : ow_fp ci j .int) (hs : ow_sh[o]? = some (.inr (ci, fs))) (hj : fs[j]? = some none) (k : ow_G Γ own cc nL (pc + 3) ls st (ow_up M o j x)) : ow_G Γ own cc nL pc ls (.int x :: .ref o :: st) M := gw_put hd hf hp hs hj rfl rfl k
def ow_bit (v : Int32) : Prop := v = 0 ∨ v = 1
theorem gw_putZ {Γ : ow_Cx → Prop} {own : String} {cc : ByteArray} {nL pc : Nat} {ls : List (Option Value)} {st : List Value} {M : ow_M} {idx o ci j : Nat} {fs : List (Option Nat)} {x : Int32} (hd : decode cc pc = .ok (.putfield idx, 3)) (hf : ow_fl own idx ci j) (hp : ow_fp ci j .boolean) (hs : ow_sh[o]? = some (.inr (ci, fs))) (hj : fs[j]? = some none) (hb : ow_bit x) (k : ow_G Γ own cc nL (pc + 3) ls st (ow_up M o j x)) : ow_G Γ own cc nL pc ls (.int x :: .ref o :: st) M := gw_put hd hf hp hs hj (by rcases hb with h | h <;> subst h <;> decide +kernel) (by rcases hb with h | h <;> subst h <;> decide +kernel) k
def ow_in (i : Int32) (n : Nat) : Prop := vp_in i n
theorem gw_iald {Γ : ow_Cx → Prop} {own : String} {cc : ByteArray} {nL pc : Nat} {ls : List (Option Value)} {st : List Value} {M : ow_M} {o n : Nat} {i : Int32} (hd : decode cc pc = .ok (.iaload, 1)) (hs : ow_sh[o]? = some (.inl (0, n))) (hi : vp_in i n) (k : ow_G Γ own cc nL (pc + 1) ls (.int (M.1 o i.toNatClampNeg) :: st) M) : ow_G Γ own cc nL pc ls (.int i :: .ref o :: st) M := by
  intro p l e R s m args below meth c cells slots Z cI ad D A hΓ X H locs lsA hP hD hS hl
  exact va_iald X.1 X.2.1 X.2.2.2.2.2.2.1 hP o 0 (ow_w_get hs) rfl hi hd (k p l e R s m args below meth c cells slots Z cI ad D A hΓ X H locs lsA hP hD hS hl)
theorem gw_zald {Γ : ow_Cx → Prop} {own : String} {cc : ByteArray} {nL pc : Nat} {ls : List (Option Value)} {st : List Value} {M : ow_M} {o n : Nat} {i : Int32} (hd : decode cc pc = .ok (.baload, 1)) (hs : ow_sh[o]? = some (.inl (1, n))) (hi : vp_in i n) (k : ow_G Γ own cc nL (pc + 1) ls (.int (M.1 o i.toNatClampNeg) :: st) M) : ow_G Γ own cc nL pc ls (.int i :: .ref o :: st) M := by
  intro p l e R s m args below meth c cells slots Z cI ad D A hΓ X H locs lsA hP hD hS hl
  exact va_zald X.1 X.2.1 X.2.2.2.2.2.2.1 hP o 1 (ow_w_get hs) rfl hi hd (k p l e R s m args below meth c cells slots Z cI ad D A hΓ X H locs lsA hP hD hS hl)
theorem gw_lald {Γ : ow_Cx → Prop} {own : String} {cc : ByteArray} {nL pc : Nat} {ls : List (Option Value)} {st : List Value} {M : ow_M} {o n : Nat} {i : Int32} (hd : decode cc pc = .ok (.laload, 1)) (hs : ow_sh[o]? = some (.inl (2, n))) (hi : vp_in i n) (k : ow_G Γ own cc nL (pc + 1) ls (.long (M.2 o i.toNatClampNeg) :: st) M) : ow_G Γ own cc nL pc ls (.int i :: .ref o :: st) M := by
  intro p l e R s m args below meth c cells slots Z cI ad D A hΓ X H locs lsA hP hD hS hl
  exact va_lald X.1 X.2.1 X.2.2.2.2.2.2.1 hP o 2 (ow_w_get hs) rfl hi hd (k p l e R s m args below meth c cells slots Z cI ad D A hΓ X H locs lsA hP hD hS hl)
theorem gw_aald {Γ : ow_Cx → Prop} {own : String} {cc : ByteArray} {nL pc : Nat} {ls : List (Option Value)} {st : List Value} {M : ow_M} {i : Int32} (hd : decode cc pc = .ok (.aaload, 1)) (hi : vp_in i 4) (k : ow_G Γ own cc nL (pc + 1) ls (.ref (26 + 2 * i.toNatClampNeg) :: st) M) : ow_G Γ own cc nL pc ls (.int i :: .ref 1 :: st) M := by
  intro p l e R s m args below meth c cells slots Z cI ad D A hΓ X H locs lsA hP hD hS hl
  exact va_aldq X.1 X.2.1 X.2.2.2.2.2.2.1 hP 1 3 (ow_w_get (sh := .inl (3, 4)) rfl) rfl hi hd (k p l e R s m args below meth c cells slots Z cI ad D A hΓ X H locs lsA hP hD hS hl)
theorem gw_alen {Γ : ow_Cx → Prop} {own : String} {cc : ByteArray} {nL pc : Nat} {ls : List (Option Value)} {st : List Value} {M : ow_M} {o t n : Nat} (v : Int32) (hd : decode cc pc = .ok (.arraylength, 1)) (hs : ow_sh[o]? = some (.inl (t, n))) (ht : Nat.ble t 3 = true) (hv : Int32.ofNat n = v) (k : ow_G Γ own cc nL (pc + 1) ls (.int v :: st) M) : ow_G Γ own cc nL pc ls (.ref o :: st) M := by
  intro p l e R s m args below meth c cells slots Z cI ad D A hΓ X H locs lsA hP hD hS hl
  have hk : ∀ t0 : Nat, t = t0 → Nat.ble t0 3 = true → (ow_tys cI)[t0]? = some ((ow_arr cI ad M o t0 n).1, match t0 with | 0 => .int | 1 => .boolean | 2 => .long | _ => .object "OneWire$Sheet") := by
    intro t0 _ h0
    match t0, h0 with
    | 0, _ => rfl
    | 1, _ => rfl
    | 2, _ => rfl
    | 3, _ => rfl
  have hn : (ow_arr cI ad M o t n).2.1 = n := by unfold ow_arr; split <;> rfl
  exact va_alen X.1 X.2.1 X.2.2.2.2.2.2.1 hP o t (ow_w_get hs) (hk t rfl ht) (by show Int32.ofNat (ow_arr cI ad M o t n).2.1 = v; rw [hn]; exact hv) hd (k p l e R s m args below meth c cells slots Z cI ad D A hΓ X H locs lsA hP hD hS hl)
theorem gw_iast {Γ : ow_Cx → Prop} {own : String} {cc : ByteArray} {nL pc : Nat} {ls : List (Option Value)} {st : List Value} {M : ow_M} {o n : Nat} {i x : Int32} (hd : decode cc pc = .ok (.iastore, 1)) (hs : ow_sh[o]? = some (.inl (0, n))) (hi : vp_in i n) (k : ow_G Γ own cc nL (pc + 1) ls st (ow_up M o i.toNatClampNeg x)) : ow_G Γ own cc nL pc ls (.int x :: .int i :: .ref o :: st) M := by
  intro p l e R s m args below meth c cells slots Z cI ad D A hΓ X H locs lsA hP hD hS hl
  refine va_iast X.1 X.2.1 X.2.2.2.2.2.2.1 hP hD hS o 0 (ow_w_get hs) rfl hi hd (fun H1 locs1 hP1 hD1 hS1 => ?_)
  rw [ow_w_putA hs] at hP1 hD1
  exact k p l e R s m args below meth c cells slots Z cI ad D A hΓ X H1 locs1 lsA hP1 hD1 hS1 hl
theorem gw_zast {Γ : ow_Cx → Prop} {own : String} {cc : ByteArray} {nL pc : Nat} {ls : List (Option Value)} {st : List Value} {M : ow_M} {o n : Nat} {i x : Int32} (hd : decode cc pc = .ok (.bastore, 1)) (hs : ow_sh[o]? = some (.inl (1, n))) (hi : vp_in i n) (k : ow_G Γ own cc nL (pc + 1) ls st (ow_up M o i.toNatClampNeg (vp_nar .boolean x))) : ow_G Γ own cc nL pc ls (.int x :: .int i :: .ref o :: st) M := by
  intro p l e R s m args below meth c cells slots Z cI ad D A hΓ X H locs lsA hP hD hS hl
  refine va_zast X.1 X.2.1 X.2.2.2.2.2.2.1 hP hD hS o 1 (ow_w_get hs) rfl hi hd (fun H1 locs1 hP1 hD1 hS1 => ?_)
  rw [ow_w_putZ hs] at hP1 hD1
  exact k p l e R s m args below meth c cells slots Z cI ad D A hΓ X H1 locs1 lsA hP1 hD1 hS1 hl
theorem gw_last {Γ : ow_Cx → Prop} {own : String} {cc : ByteArray} {nL pc : Nat} {ls : List (Option Value)} {st : List Value} {M : ow_M} {o n : Nat} {i : Int32} {x : Int64} (hd : decode cc pc = .ok (.lastore, 1)) (hs : ow_sh[o]? = some (.inl (2, n))) (hi : vp_in i n) (k : ow_G Γ own cc nL (pc + 1) ls st (ow_upL M o i.toNatClampNeg x)) : ow_G Γ own cc nL pc ls (.long x :: .int i :: .ref o :: st) M := by
  intro p l e R s m args below meth c cells slots Z cI ad D A hΓ X H locs lsA hP hD hS hl
  refine va_last X.1 X.2.1 X.2.2.2.2.2.2.1 hP hD hS o 2 (ow_w_get hs) rfl hi hd (fun H1 locs1 hP1 hD1 hS1 => ?_)
  rw [ow_w_putL hs] at hP1 hD1
  exact k p l e R s m args below meth c cells slots Z cI ad D A hΓ X H1 locs1 lsA hP1 hD1 hS1 hl
theorem gw_callS {Γ : ow_Cx → Prop} {own : String} {cc : ByteArray} {nL pc : Nat} {ls : List (Option Value)} {st : List Value} {M : ow_M} {l0 : Launch} {d idx : Nat} {y : MethodName} {cc2 : ByteArray} {nL2 n : Nat} {rt : Option FieldType} {As : List Value} {Q : Option Value → ow_M → Prop} (hd : decode cc pc = .ok (.invokestatic idx, 3)) (hlk : ow_lk own idx y) (ok : ow_okM y cc2 nL2 rt true n) (hR : ow_rmOk Γ l0 d nL2) (hM : ow_C l0 d y cc2 nL2 rt As M Q) (hn : As.length = n) (hr : (st.map fun v => v.category).sum ≤ 8) (k : ∀ r M2, Q r M2 → ow_G Γ own cc nL (pc + 3) ls (r.toList ++ st) M2) : ow_G Γ own cc nL pc ls (As.reverse ++ st) M := by
  intro p l e R s m args below meth c cells slots Z cI ad D A hΓ X H locs lsA hP hD hS hl
  obtain ⟨rfl, g1, g2, g3, g4⟩ := hR _ _ _ _ _ _ _ _ _ _ _ _ _ _ _ _ _ hΓ
  have hst : (As.reverse ++ st).map (ow_v ad) = (As.map (ow_v ad)).reverse ++ st.map (ow_v ad) := by rw [List.map_append, List.map_reverse]
  have hts := X.2.2.2.2.1
  have fin : va_Run p l e R s m args below meth c H locs cells slots 0 0 (F0 m pc lsA ((As.reverse ++ st).map (ow_v ad))) (st.map (ow_v ad)) (ow_Qc cI ad D Q (As.map (ow_v ad)).toArray) (ow_A ad) := by
    rcases hlk with hlk | ⟨host, hlk⟩
    · exact va_runS (As := As.map (ow_v ad)) ⟨X.1, X.2.1, X.2.2.1, X.2.2.2.1, hts⟩ (hM cI ad D) ⟨ow_cw hts ok hlk g1 g2, hts _ ok.2.2.2.2⟩ ⟨ow_blind, ow_pre hP hD X.2.2.2.2.2.2.1 X.2.2.2.2.2.1⟩ rfl (by rw [List.length_map]; exact hn) hl.1 hst (lv_room (ow_rest hr)) hd ⟨g3, g4⟩
    · exact va_runSN (As := As.map (ow_v ad)) ⟨X.1, X.2.1, X.2.2.1, X.2.2.2.1, hts⟩ (hM cI ad D) ⟨ow_cn hts X.2.2.2.2.2.1 ok hlk g1 g2, hts _ ok.2.2.2.2, trivial⟩ ⟨ow_blind, ow_pre hP hD X.2.2.2.2.2.2.1 X.2.2.2.2.2.1⟩ rfl (by rw [List.length_map]; exact hn) hl.1 hst (lv_room (ow_rest hr)) hd ⟨g3, g4⟩
  refine ow_after fin hS (ow_A_w hD) (fun r M2 H1 locs1 hq hP1 hS1 => ?_)
  have := (k r M2 hq p l e R s m args below meth c cells slots Z cI ad D A hΓ X H1 locs1 lsA hP1 (ow_D_any hD) hS1 hl)
  rw [List.map_append] at this
  cases r <;> exact this
theorem gw_callV {Γ : ow_Cx → Prop} {own : String} {cc : ByteArray} {nL pc : Nat} {ls : List (Option Value)} {st : List Value} {M : ow_M} {l0 : Launch} {d idx : Nat} {y : MethodName} {cc2 : ByteArray} {nL2 n : Nat} {rt : Option FieldType} {As : List Value} {Q : Option Value → ow_M → Prop} {o ci : Nat} {fs : List (Option Nat)} (hd : decode cc pc = .ok (.invokevirtual idx, 3)) (hlk : ow_lk own idx y) (ok : ow_okM y cc2 nL2 rt false n) (hR : ow_rmOk Γ l0 d nL2) (hs : ow_sh[o]? = some (.inr (ci, fs))) (hci : vwCl[ci]?.map (fun q => q.1) = some y.cls) (hM : ow_C l0 d y cc2 nL2 rt (.ref o :: As) M Q) (hn : As.length = n) (hr : (st.map fun v => v.category).sum ≤ 8) (k : ∀ r M2, Q r M2 → ow_G Γ own cc nL (pc + 3) ls (r.toList ++ st) M2) : ow_G Γ own cc nL pc ls (As.reverse ++ .ref o :: st) M := by
  intro p l e R s m args below meth c cells slots Z cI ad D A hΓ X H locs lsA hP hD hS hl
  obtain ⟨rfl, g1, g2, g3, g4⟩ := hR _ _ _ _ _ _ _ _ _ _ _ _ _ _ _ _ _ hΓ
  have hst : (As.reverse ++ .ref o :: st).map (ow_v ad) = (As.map (ow_v ad)).reverse ++ .ref (ad o) :: st.map (ow_v ad) := by rw [List.map_append, List.map_reverse]; rfl
  have hts := X.2.2.2.2.1
  have hcl : ∃ q : vw_C, vwCl[ci]? = some q ∧ q.1 = y.cls := by
    cases hq : vwCl[ci]? with
    | none => rw [hq] at hci; cases hci
    | some q => rw [hq] at hci; exact ⟨q, rfl, Option.some.inj hci⟩
  obtain ⟨q, hq1, hq2⟩ := hcl
  have hrec := va_recv X.2.2.2.2.2.2.1 hP hq1 (ow_w_get hs)
  rw [hq2] at hrec
  have fin : va_Run p l e R s m args below meth c H locs cells slots 0 0 (F0 m pc lsA ((As.reverse ++ .ref o :: st).map (ow_v ad))) (st.map (ow_v ad)) (ow_Qc cI ad D Q (Value.ref (ad o) :: As.map (ow_v ad)).toArray) (ow_A ad) := by
    rcases hlk with hlk | ⟨host, hlk⟩
    · exact va_runV (As := As.map (ow_v ad)) (b := ad o) ⟨X.1, X.2.1, X.2.2.1, X.2.2.2.1, hts⟩ (hM cI ad D) ⟨ow_cw hts ok hlk g1 g2, hts _ ok.2.2.2.2.1, hts _ ok.2.2.2.2.2⟩ ⟨ow_blind, hrec, ow_pre (As := .ref o :: As) hP hD X.2.2.2.2.2.2.1 X.2.2.2.2.2.1⟩ rfl (by rw [List.length_map]; exact hn) hl.1 hst (lv_room (ow_rest hr)) hd ⟨g3, g4⟩
    · exact va_runVN (As := As.map (ow_v ad)) (b := ad o) ⟨X.1, X.2.1, X.2.2.1, X.2.2.2.1, hts⟩ (hM cI ad D) ⟨ow_cn hts X.2.2.2.2.2.1 ok hlk g1 g2, hts _ ok.2.2.2.2.1, hts _ ok.2.2.2.2.2⟩ ⟨ow_blind, hrec, ow_pre (As := .ref o :: As) hP hD X.2.2.2.2.2.2.1 X.2.2.2.2.2.1⟩ rfl (by rw [List.length_map]; exact hn) hl.1 hst (lv_room (ow_rest hr)) hd ⟨g3, g4⟩
  refine ow_after fin hS (ow_A_w hD) (fun r M2 H1 locs1 hq hP1 hS1 => ?_)
  have := (k r M2 hq p l e R s m args below meth c cells slots Z cI ad D A hΓ X H1 locs1 lsA hP1 (ow_D_any hD) hS1 hl)
  rw [List.map_append] at this
  cases r <;> exact this
theorem gw_iret {l0 : Launch} {d : Nat} {Q : Option Value → ow_M → Prop} {own : String} {cc : ByteArray} {nL pc : Nat} {ls : List (Option Value)} {M : ow_M} {v : Int32} (hd : decode cc pc = .ok (.ireturn, 1)) (hQ : Q (some (.int v)) M) : ow_G (ow_Γ l0 d (some .int) Q) own cc nL pc ls [.int v] M := by
  intro p l e R s m args below meth c cells slots Z cI ad D A hΓ X H locs lsA hP hD hS hl
  obtain ⟨rfl, rfl, rfl, rfl, hr, rfl, rfl⟩ := hΓ
  exact W.iret X.1 X.2.1 hr (fun t ht _ => ⟨(some (.int v)), M, rfl, hQ, by rw [ht]; exact hP, hS.F ht⟩) hS.2.2 hd X.2.2.2.2.2.2.2
theorem gw_lret {l0 : Launch} {d : Nat} {Q : Option Value → ow_M → Prop} {own : String} {cc : ByteArray} {nL pc : Nat} {ls : List (Option Value)} {M : ow_M} {v : Int64} (hd : decode cc pc = .ok (.lreturn, 1)) (hQ : Q (some (.long v)) M) : ow_G (ow_Γ l0 d (some .long) Q) own cc nL pc ls [.long v] M := by
  intro p l e R s m args below meth c cells slots Z cI ad D A hΓ X H locs lsA hP hD hS hl
  obtain ⟨rfl, rfl, rfl, rfl, hr, rfl, rfl⟩ := hΓ
  exact W.lret X.1 X.2.1 hr (fun t ht _ => ⟨(some (.long v)), M, rfl, hQ, by rw [ht]; exact hP, hS.F ht⟩) hS.2.2 hd X.2.2.2.2.2.2.2
theorem gw_vret {l0 : Launch} {d : Nat} {Q : Option Value → ow_M → Prop} {own : String} {cc : ByteArray} {nL pc : Nat} {ls : List (Option Value)} {M : ow_M}  (hd : decode cc pc = .ok (.return_, 1)) (hQ : Q none M) : ow_G (ow_Γ l0 d none Q) own cc nL pc ls [] M := by
  intro p l e R s m args below meth c cells slots Z cI ad D A hΓ X H locs lsA hP hD hS hl
  obtain ⟨rfl, rfl, rfl, rfl, hr, rfl, rfl⟩ := hΓ
  exact W.vret X.1 X.2.1 hr (fun t ht _ => ⟨none, M, rfl, hQ, by rw [ht]; exact hP, hS.F ht⟩) hS.2.2 hd X.2.2.2.2.2.2.2
theorem gw_zret {l0 : Launch} {d : Nat} {Q : Option Value → ow_M → Prop} {own : String} {cc : ByteArray} {nL pc : Nat} {ls : List (Option Value)} {M : ow_M} {v : Int32} (hb : ow_bit v) (hd : decode cc pc = .ok (.ireturn, 1)) (hQ : Q (some (.int v)) M) : ow_G (ow_Γ l0 d (some .boolean) Q) own cc nL pc ls [.int v] M := by
  intro p l e R s m args below meth c cells slots Z cI ad D A hΓ X H locs lsA hP hD hS hl
  obtain ⟨rfl, rfl, rfl, rfl, hr, rfl, rfl⟩ := hΓ
  exact W.zret X.1 X.2.1 hr (by rcases hb with h | h <;> subst h <;> decide +kernel) (fun t ht _ => ⟨(some (.int v)), M, rfl, hQ, by rw [ht]; exact hP, hS.F ht⟩) hS.2.2 hd X.2.2.2.2.2.2.2
theorem gw_mmax {Γ : ow_Cx → Prop} {own : String} {cc : ByteArray} {nL pc : Nat} {ls : List (Option Value)} {st : List Value} {M : ow_M} {l0 : Launch} {idx : Nat} {x y : Int32} (hd : decode cc pc = .ok (.invokestatic idx, 3)) (hlk : Cond.methodLink own idx Lib.Math.max.name ∈ ow_base) (h1 : Cond.static Lib.Math.max.name ∈ ow_base) (h2 : Cond.initialized "java/lang/Math" ∈ ow_base) (h3 : Cond.code Lib.Math.max.name Lib.Math.max.code 2 (some .int) ∈ ow_base) (hR : ow_rmOk Γ l0 0 2) (hr : (st.map fun v => v.category).sum ≤ 8) (k : ow_G Γ own cc nL (pc + 3) ls (.int (if x < y then y else x) :: st) M) : ow_G Γ own cc nL pc ls (.int y :: .int x :: st) M := by
  intro p l e R s m args below meth c cells slots Z cI ad D A hΓ X H locs lsA hP hD hS hl
  obtain ⟨rfl, g1, g2, g3, g4⟩ := hR _ _ _ _ _ _ _ _ _ _ _ _ _ _ _ _ _ hΓ
  have hts := X.2.2.2.2.1
  have hr2 := ow_rest (ad := ad) hr
  exact va_mmax X.1 X.2.1 (X.2.2.1.trans hl.1.symm) X.2.2.2.1 (hts _ hlk) (hts _ h1) (hts _ h2) (hts _ h3) (by omega) (by omega) g3 g4 hd (k p l e R s m args below meth c cells slots Z cI ad D A hΓ X H locs lsA hP hD hS hl)
theorem gw_mmin {Γ : ow_Cx → Prop} {own : String} {cc : ByteArray} {nL pc : Nat} {ls : List (Option Value)} {st : List Value} {M : ow_M} {l0 : Launch} {idx : Nat} {x y : Int32} (hd : decode cc pc = .ok (.invokestatic idx, 3)) (hlk : Cond.methodLink own idx Lib.Math.min.name ∈ ow_base) (h1 : Cond.static Lib.Math.min.name ∈ ow_base) (h2 : Cond.initialized "java/lang/Math" ∈ ow_base) (h3 : Cond.code Lib.Math.min.name Lib.Math.min.code 2 (some .int) ∈ ow_base) (hR : ow_rmOk Γ l0 0 2) (hr : (st.map fun v => v.category).sum ≤ 8) (k : ow_G Γ own cc nL (pc + 3) ls (.int (if y < x then y else x) :: st) M) : ow_G Γ own cc nL pc ls (.int y :: .int x :: st) M := by
  intro p l e R s m args below meth c cells slots Z cI ad D A hΓ X H locs lsA hP hD hS hl
  obtain ⟨rfl, g1, g2, g3, g4⟩ := hR _ _ _ _ _ _ _ _ _ _ _ _ _ _ _ _ _ hΓ
  have hts := X.2.2.2.2.1
  have hr2 := ow_rest (ad := ad) hr
  exact va_mmin X.1 X.2.1 (X.2.2.1.trans hl.1.symm) X.2.2.2.1 (hts _ hlk) (hts _ h1) (hts _ h2) (hts _ h3) (by omega) (by omega) g3 g4 hd (k p l e R s m args below meth c cells slots Z cI ad D A hΓ X H locs lsA hP hD hS hl)
