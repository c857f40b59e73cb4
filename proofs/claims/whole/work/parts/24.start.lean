def ow_M0 : ow_M := (fun a => if a = 35 then upd (upd (upd (upd (fun _ => 0) 0 (-9)) 1 (-9)) 2 (-9)) 3 (-9) else fun _ => 0, fun _ _ => 0)
theorem ow_nest_of {args : Array Value} {s : State} (hts : ∀ w ∈ lw_tbl, w.before args s = true) : ∀ w ∈ ow_nest, va_Nw w s := by
  intro w hw
  have h1 := (List.mem_filter.mp hw).2
  have h2 := hts w (List.mem_filter.mp hw).1
  cases w with
  | fieldLinkNest a i b n d hh => exact va_Nw.of rfl h2
  | methodLinkNest a i x hh => exact va_Nw.of rfl h2
  | _ => cases h1
theorem ow_set_back {ws : va_W} {a : Nat} {E E0 : va_E} (h0 : ws[1]? = some (a, E0)) : (ws.set 1 (a, E)).set 1 (a, E0) = ws := by
  rw [List.set_set]
  apply List.ext_getElem?
  intro i
  rw [List.getElem?_set]
  by_cases hi : 1 = i
  · subst hi
    rw [if_pos rfl, if_pos (List.getElem?_eq_some_iff.mp h0).1, h0]
  · rw [if_neg hi]
theorem ow_set_at {ws : va_W} {a : Nat} {E E0 : va_E} (h0 : ws[1]? = some (a, E0)) : (ws.set 1 (a, E))[1]? = some (a, E) := by
  rw [List.getElem?_set, if_pos rfl, if_pos (List.getElem?_eq_some_iff.mp h0).1]
theorem ow_cell1 {cA : ClassId} {f g : Nat → Option Nat} (h : ∀ j, j < 4 → f j = g j) : vp_cell cA (4, .inr (.inr (.inr (.inr f)))) = vp_cell cA (4, .inr (.inr (.inr (.inr g)))) := by
  show arrV cA 4 (fun j => va_rf (f j)) = arrV cA 4 (fun j => va_rf (g j))
  unfold arrV
  congr 2
  funext j
  show va_rf (f j.val) = va_rf (g j.val)
  rw [h j.val j.isLt]
theorem ow_fix1 {D : va_G} {A : Nat → Prop} {cl : List vw_C} {wm : va_W} {a : Nat} {E E0 : va_E} {H : Heap} (h0 : wm[1]? = some (a, E0)) (hP : va_P D cl (wm.set 1 (a, E)) H) (hD : va_D A (wm.set 1 (a, E))) (hat : va_at D cl (a, E0) H) : va_P D cl wm H ∧ va_D A wm := by
  have hD2 := hD.set (p := 1) (e := E0) (ow_set_at h0)
  have hP2 := hP.set (p := 1) (e := E0) hD (ow_set_at h0) hat (fun _ _ => rfl)
  rw [ow_set_back h0] at hD2 hP2
  exact ⟨hP2, hD2⟩
theorem ow_toG {p : Program} {l : Launch} {e : Env} {R : Room} {s : State} {m : MethodId} {args : Array Value} {below : List Frame} {meth : Method} {c : Code} {Z : State → Prop} {A : Nat → Prop} {cI : Nat → ClassId} {D : va_G} {own : String} {cc : ByteArray} {nL pc cells slots c2 s2 : Nat} {ws : va_W} {ls ls2 : List (Option Value)} {Γ : ow_Cx → Prop} {ad : Nat → Nat} {M : ow_M} {f : Nat → Option Nat}
    (X : ow_X own cc nL p s m args meth c cI D) (hΓ : Γ (p, l, e, R, s, m, args, below, meth, c, c2, s2, Z, cI, ad, D, A)) (hc : Nat.ble cells c2 = true) (hs : Nat.ble slots s2 = true) (hw : ws = (ow_w cI ad M).set 1 (ad 1, .inl (cI 3, 4, .inr (.inr (.inr (.inr f)))))) (hf : ∀ j, j < 4 → f j = some (ad (26 + 2 * j))) (hls : ow_lv id 0 ls = ow_lv ad 0 ls2) (hG : ow_G Γ own cc nL pc ls2 [] M) : ow_H p l e R s m args below meth c Z A D nL ws cells slots pc ls [] := by
  intro H locs lsA hP hD hS hl
  have h0 : (ow_w cI ad M)[1]? = some (ad 1, ow_e cI ad M 1 (.inl (3, 4))) := ow_w_get rfl
  have key : va_P D vwCl (ow_w cI ad M) H ∧ va_D A (ow_w cI ad M) := by
    revert h0 hP hD
    rw [hw]
    generalize ow_w cI ad M = wm
    intro hP hD h0
    have h1 : va_at D vwCl (ad 1, Sum.inl (cI 3, 4, .inr (.inr (.inr (.inr f))))) H := hP 1 _ (ow_set_at h0)
    have h2 : va_at D vwCl (ad 1, ow_e cI ad M 1 (.inl (3, 4))) H := by
      have h3 : H[ad 1]? = some (vp_cell (cI 3) (4, .inr (.inr (.inr (.inr f))))) := h1
      rw [ow_cell1 hf] at h3
      exact h3
    exact ow_fix1 h0 hP hD h2
  refine W.widen (k := c2) (n := s2) (Nat.le_of_ble_eq_true hc) (Nat.le_of_ble_eq_true hs) ?_
  exact hG p l e R s m args below meth c c2 s2 Z cI ad D A hΓ X H locs lsA key.1 key.2 hS (by rw [← hls]; exact hl)
def ow_go {α β : Type} (f : Nat → α → β) : Nat → List α → List β
  | _, [] => []
  | k, a :: t => f k a :: ow_go f (k + 1) t
theorem ow_go_get {α β : Type} (f : Nat → α → β) : ∀ (l : List α) (k i : Nat), (ow_go f k l)[i]? = l[i]?.map (f (k + i)) := by
  intro l
  induction l with
  | nil => intro k i; rfl
  | cons a t ih =>
    intro k i
    cases i with
    | zero => rfl
    | succ i =>
      show (f k a :: ow_go f (k + 1) t)[i + 1]? = (a :: t)[i + 1]?.map _
      rw [List.getElem?_cons_succ, List.getElem?_cons_succ, ih, show k + 1 + i = k + (i + 1) by omega]
theorem ow_go_eq {α β : Type} (f : Nat → α → β) (l : List α) : l.mapIdx f = ow_go f 0 l := by
  apply List.ext_getElem?
  intro i
  rw [ow_go_get, List.getElem?_mapIdx, Nat.zero_add]
def ow_e2 (cI : Nat → ClassId) (ad : Nat → Nat) (M : ow_M) (k : Nat) : ow_Sh → va_E
  | .inl q => .inl (ow_arr cI ad M k q.1 q.2)
  | .inr q => .inr (q.1, ow_go (ow_fv ad (M.1 k)) 0 q.2)
theorem ow_w_go (cI : Nat → ClassId) (ad : Nat → Nat) (M : ow_M) : ow_w cI ad M = ow_go (fun k sh => (ad k, ow_e2 cI ad M k sh)) 0 ow_sh := by
  have e : (fun k sh => (ad k, ow_e cI ad M k sh)) = (fun k sh => (ad k, ow_e2 cI ad M k sh)) := by
    funext k sh
    cases sh with
    | inl q => rfl
    | inr q => show (ad k, Sum.inr (q.1, ow_fs ad (M.1 k) q.2)) = (ad k, Sum.inr (q.1, ow_go (ow_fv ad (M.1 k)) 0 q.2)); unfold ow_fs; rw [ow_go_eq]
  unfold ow_w
  rw [e, ow_go_eq]
def ow_nth : List Nat → Nat → Nat → Nat
  | [], _, d => d
  | a :: _, 0, _ => a
  | _ :: t, k + 1, d => ow_nth t k d
theorem ow_known {args : Array Value} {s : State} (hts : ∀ w ∈ ow_base, w.before args s = true) : ∃ (dC : Nat → ClassId) (dI : Nat → Nat → Nat), ∀ (k : Nat) (q : vw_C), vwCl[k]? = some q → u_Kn s q.1 q.2.1 q.2.2 (dC k) (dI k) := by
  obtain ⟨c0, i0, k0⟩ := u_known (C := RX0) (T := TX0) (N := 8) (n := 8) hts cfX0.1 (hts (.instantiable RX0 8) (ow_mb 97 (by decide +kernel) rfl))
  obtain ⟨c1, i1, k1⟩ := u_known (C := RX1) (T := TX1) (N := 1) (n := 1) hts cfX1.1 (hts (.instantiable RX1 1) (ow_mb 203 (by decide +kernel) rfl))
  obtain ⟨c2, i2, k2⟩ := u_known (C := RX2) (T := TX2) (N := 2) (n := 2) hts cfX2.1 (hts (.instantiable RX2 2) (ow_mb 190 (by decide +kernel) rfl))
  obtain ⟨c3, i3, k3⟩ := u_known (C := RX3) (T := TX3) (N := 5) (n := 5) hts cfX3.1 (hts (.instantiable RX3 5) (ow_mb 213 (by decide +kernel) rfl))
  obtain ⟨c4, i4, k4⟩ := u_known (C := RX4) (T := TX4) (N := 4) (n := 4) hts cfX4.1 (hts (.instantiable RX4 4) (ow_mb 235 (by decide +kernel) rfl))
  obtain ⟨c5, i5, k5⟩ := u_known (C := RX5) (T := TX5) (N := 2) (n := 2) hts cfX5.1 (hts (.instantiable RX5 2) (ow_mb 148 (by decide +kernel) rfl))
  obtain ⟨c6, i6, k6⟩ := u_known (C := RX6) (T := TX6) (N := 6) (n := 6) hts cfX6.1 (hts (.instantiable RX6 6) (ow_mb 164 (by decide +kernel) rfl))
  obtain ⟨c7, i7, k7⟩ := u_known (C := RX7) (T := TX7) (N := 9) (n := 9) hts cfX7.1 (hts (.instantiable RX7 9) (ow_mb 87 (by decide +kernel) rfl))
  obtain ⟨c8, i8, k8⟩ := u_known (C := RX8) (T := TX8) (N := 32) (n := 32) hts cfX8.1 (hts (.instantiable RX8 32) (ow_mb 653 (by decide +kernel) rfl))
  refine ⟨fun k => match k with | 0 => c0 | 1 => c1 | 2 => c2 | 3 => c3 | 4 => c4 | 5 => c5 | 6 => c6 | 7 => c7 | 8 => c8 | _ => 0, fun k => match k with | 0 => i0 | 1 => i1 | 2 => i2 | 3 => i3 | 4 => i4 | 5 => i5 | 6 => i6 | 7 => i7 | 8 => i8 | _ => fun _ => 0, ?_⟩
  intro k q hq
  match k, hq with
  | 0, hq => cases hq; exact k0
  | 1, hq => cases hq; exact k1
  | 2, hq => cases hq; exact k2
  | 3, hq => cases hq; exact k3
  | 4, hq => cases hq; exact k4
  | 5, hq => cases hq; exact k5
  | 6, hq => cases hq; exact k6
  | 7, hq => cases hq; exact k7
  | 8, hq => cases hq; exact k8
  | k + 9, hq => simp [vwCl] at hq
theorem ow_arrs {args : Array Value} {s : State} (hts : ∀ w ∈ ow_base, w.before args s = true) (hO : va_AO "OneWire$Sheet" s) : ∃ cI : Nat → ClassId, ∀ (k : Nat) (q : ClassId × FieldType), (ow_tys cI)[k]? = some q → ArrOfT s q.1 q.2 ∧ va_RA s q.1 q.2 := by
  obtain ⟨c0, k0, p0, a0, b0, d0⟩ := Cond.arrayClass_spec (hts _ mk_arr_int)
  obtain ⟨c1, k1, p1, a1, b1, d1⟩ := Cond.arrayClass_spec (hts _ mk_arr_boolean)
  obtain ⟨c2, k2, p2, a2, b2, d2⟩ := Cond.arrayClass_spec (hts _ mk_arr_long)
  obtain ⟨comp, c3, k3, a3, f3, b3, d3, e3⟩ := Cond.arrayOver_spec hO
  refine ⟨fun k => match k with | 0 => c0 | 1 => c1 | 2 => c2 | _ => c3, ?_⟩
  intro k q hq
  match k, hq with
  | 0, hq => cases hq; exact ⟨fun n z => ⟨fun k h => (by cases h), k0, b0, p0, d0⟩, a0⟩
  | 1, hq => cases hq; exact ⟨fun n z => ⟨fun k h => (by cases h), k1, b1, p1, d1⟩, a1⟩
  | 2, hq => cases hq; exact ⟨fun n z => ⟨fun k h => (by cases h), k2, b2, p2, d2⟩, a2⟩
  | 3, hq => cases hq; exact ⟨fun n z => ⟨fun k h => (by cases h), k3, b3, comp, d3⟩, k3, comp, b3, d3, a3, e3⟩
  | k + 4, hq => simp [ow_tys] at hq
theorem nwL_7 : ow_nw RL 7 7 9 [.null, .null, .null, .null, .null, .null, .null, .int 0, .int 0] := ⟨RX7, TX7, tyX7, rfl, cfX7.1, tyX7_ok, ow_mb 86 (by decide +kernel) rfl, ow_mb 87 (by decide +kernel) rfl, ow_mb 74 (by decide +kernel) rfl, by decide +kernel⟩
theorem nwL_10 : ow_nw RL 10 8 32 [.int 0, .int 0, .null, .null, .null, .int 0, .int 0, .int 0, .null, .null, .null, .null, .int 0, .int 0, .int 0, .null, .null, .null, .null, .null, .null, .null, .null, .int 0, .null, .null, .null, .int 0, .null, .null, .null, .null] := ⟨RX8, TX8, tyX8, rfl, cfX8.1, tyX8_ok, ow_mb 652 (by decide +kernel) rfl, ow_mb 653 (by decide +kernel) rfl, ow_mb 82 (by decide +kernel) rfl, by decide +kernel⟩
theorem lkKL_9 : ow_lk RL 9 yX7_init := Or.inl (ow_mb 88 (by decide +kernel) rfl)
theorem lkKL_12 : ow_lk RL 12 yX8_init := Or.inl (ow_mb 654 (by decide +kernel) rfl)
