def ow_H (p : Program) (l : Launch) (e : Env) (R : Room) (s : State) (m : MethodId) (args : Array Value) (below : List Frame) (meth : Method) (c : Code) (Z : State → Prop) (A : Nat → Prop) (D : va_G) (nL : Nat) (ws : va_W) (cells slots pc : Nat) (ls : List (Option Value)) (st : List Value) : Prop :=
  ∀ (H : Heap) (locs : List Loc) (lsA : Array Slot), va_P D vwCl ws H → va_D A ws → va_S A s.heap H locs → lv_has lsA nL (ow_lv id 0 ls) → W p l e R s m args below meth c H locs cells slots Z (F0 m pc lsA st)
theorem ow_v_id (v : Value) : ow_v id v = v := by cases v <;> rfl
theorem ow_zero0 (cA : ClassId) (n : Nat) : vp_cell cA (n, .inl (fun _ => (0 : Int32))) = arrV cA n (fun _ => defaultValue .int) := rfl
theorem ow_zero1 (cA : ClassId) (n : Nat) : vp_cell cA (n, .inl (fun _ => (0 : Int32))) = arrV cA n (fun _ => defaultValue .boolean) := rfl
theorem ow_zero2 (cA : ClassId) (n : Nat) : vp_cell cA (n, .inr (.inl (fun _ => (0 : Int64)))) = arrV cA n (fun _ => defaultValue .long) := rfl
theorem ow_ca {D : va_G} {cI : Nat → ClassId} {U : State} {cA : ClassId} {ty : FieldType} {t : Nat} (hK : va_K D vwCl (ow_tys cI ++ [(cA, ty)]) U) (ht : (ow_tys cI)[t]? = some (cI t, ty)) : cA = cI t := by
  have h1 := (hK.2 4 (cA, ty) rfl).2
  have hlt : t < 4 := (List.getElem?_eq_some_iff.mp ht).1
  have h2 := (hK.2 t (cI t, ty) (by rw [List.getElem?_append_left (show t < (ow_tys cI).length from hlt)]; exact ht)).2
  cases ty with
  | object C =>
    obtain ⟨_, _, _, _, _, h1⟩ := h1
    obtain ⟨_, _, _, _, _, h2⟩ := h2
    exact Option.some.inj (h1.symm.trans h2)
  | _ => exact Option.some.inj (h1.symm.trans h2)
theorem hw_iconst {p : Program} {l : Launch} {e : Env} {R : Room} {s : State} {m : MethodId} {args : Array Value} {below : List Frame} {meth : Method} {c : Code} {Z : State → Prop} {A : Nat → Prop} {cI : Nat → ClassId} {D : va_G} {own : String} {cc : ByteArray} {nL pc cells slots : Nat} {ws : va_W} {ls : List (Option Value)} {st : List Value} {n : Int} (v : Int32) (hv : Int32.ofInt n = v) (X : ow_X own cc nL p s m args meth c cI D) (hd : decode cc pc = .ok (.iconst n, 1)) (k : ow_H p l e R s m args below meth c Z A D nL ws cells slots (pc + 1) ls (.int v :: st)) : ow_H p l e R s m args below meth c Z A D nL ws cells slots pc ls st := by
  intro H locs lsA hP hD hS hl
  exact lv_iconst X.1 X.2.1 hd hv (k H locs lsA hP hD hS hl)
theorem hw_bipush {p : Program} {l : Launch} {e : Env} {R : Room} {s : State} {m : MethodId} {args : Array Value} {below : List Frame} {meth : Method} {c : Code} {Z : State → Prop} {A : Nat → Prop} {cI : Nat → ClassId} {D : va_G} {own : String} {cc : ByteArray} {nL pc cells slots : Nat} {ws : va_W} {ls : List (Option Value)} {st : List Value} {n : Int} (v : Int32) (hv : (Int8.ofInt n).toInt32 = v) (X : ow_X own cc nL p s m args meth c cI D) (hd : decode cc pc = .ok (.bipush n, 2)) (k : ow_H p l e R s m args below meth c Z A D nL ws cells slots (pc + 2) ls (.int v :: st)) : ow_H p l e R s m args below meth c Z A D nL ws cells slots pc ls st := by
  intro H locs lsA hP hD hS hl
  exact lv_bipush X.1 X.2.1 hd hv (k H locs lsA hP hD hS hl)
theorem hw_sipush {p : Program} {l : Launch} {e : Env} {R : Room} {s : State} {m : MethodId} {args : Array Value} {below : List Frame} {meth : Method} {c : Code} {Z : State → Prop} {A : Nat → Prop} {cI : Nat → ClassId} {D : va_G} {own : String} {cc : ByteArray} {nL pc cells slots : Nat} {ws : va_W} {ls : List (Option Value)} {st : List Value} {n : Int} (v : Int32) (hv : (Int16.ofInt n).toInt32 = v) (X : ow_X own cc nL p s m args meth c cI D) (hd : decode cc pc = .ok (.sipush n, 3)) (k : ow_H p l e R s m args below meth c Z A D nL ws cells slots (pc + 3) ls (.int v :: st)) : ow_H p l e R s m args below meth c Z A D nL ws cells slots pc ls st := by
  intro H locs lsA hP hD hS hl
  exact lv_sipush X.1 X.2.1 hd hv (k H locs lsA hP hD hS hl)
theorem hw_dup {p : Program} {l : Launch} {e : Env} {R : Room} {s : State} {m : MethodId} {args : Array Value} {below : List Frame} {meth : Method} {c : Code} {Z : State → Prop} {A : Nat → Prop} {cI : Nat → ClassId} {D : va_G} {own : String} {cc : ByteArray} {nL pc cells slots : Nat} {ws : va_W} {ls : List (Option Value)} {st : List Value} {v : Value} (hv : v.category = 1) (X : ow_X own cc nL p s m args meth c cI D) (hd : decode cc pc = .ok (.dup, 1)) (k : ow_H p l e R s m args below meth c Z A D nL ws cells slots (pc + 1) ls (v :: v :: st)) : ow_H p l e R s m args below meth c Z A D nL ws cells slots pc ls (v :: st) := by
  intro H locs lsA hP hD hS hl
  exact lv_dup X.1 X.2.1 hd hv (k H locs lsA hP hD hS hl)
theorem hw_goto {p : Program} {l : Launch} {e : Env} {R : Room} {s : State} {m : MethodId} {args : Array Value} {below : List Frame} {meth : Method} {c : Code} {Z : State → Prop} {A : Nat → Prop} {cI : Nat → ClassId} {D : va_G} {own : String} {cc : ByteArray} {nL pc cells slots : Nat} {ws : va_W} {ls : List (Option Value)} {st : List Value} {off : Int} {tgt : Nat} (ht : (pc : Int) + off = (tgt : Int)) (X : ow_X own cc nL p s m args meth c cI D) (hd : decode cc pc = .ok (.goto off, 3)) (k : ow_H p l e R s m args below meth c Z A D nL ws cells slots tgt ls st) : ow_H p l e R s m args below meth c Z A D nL ws cells slots pc ls st := by
  intro H locs lsA hP hD hS hl
  exact lv_goto X.1 X.2.1 hd ht (k H locs lsA hP hD hS hl)
theorem hw_icmp_ge {p : Program} {l : Launch} {e : Env} {R : Room} {s : State} {m : MethodId} {args : Array Value} {below : List Frame} {meth : Method} {c : Code} {Z : State → Prop} {A : Nat → Prop} {cI : Nat → ClassId} {D : va_G} {own : String} {cc : ByteArray} {nL pc cells slots : Nat} {ws : va_W} {ls : List (Option Value)} {st : List Value} {x y : Int32} {off : Int} {tgt : Nat} (ht : (pc : Int) + off = (tgt : Int)) (X : ow_X own cc nL p s m args meth c cI D) (hd : decode cc pc = .ok (.if_icmp .ge off, 3)) (kt : y ≤ x → ow_H p l e R s m args below meth c Z A D nL ws cells slots tgt ls st) (kf : ¬ y ≤ x → ow_H p l e R s m args below meth c Z A D nL ws cells slots (pc + 3) ls st) : ow_H p l e R s m args below meth c Z A D nL ws cells slots pc ls (.int y :: .int x :: st) := by
  intro H locs lsA hP hD hS hl
  exact lv_icmp_ge X.1 X.2.1 hd ht (fun q => kt q H locs lsA hP hD hS hl) (fun q => kf q H locs lsA hP hD hS hl)
theorem hw_aload0 {p : Program} {l : Launch} {e : Env} {R : Room} {s : State} {m : MethodId} {args : Array Value} {below : List Frame} {meth : Method} {c : Code} {Z : State → Prop} {A : Nat → Prop} {cI : Nat → ClassId} {D : va_G} {own : String} {cc : ByteArray} {nL pc cells slots : Nat} {ws : va_W} {st : List Value} {u : List (Option Value)} {x : Nat} (X : ow_X own cc nL p s m args meth c cI D) (hd : decode cc pc = .ok (.aload_n 0, 1)) (k : ow_H p l e R s m args below meth c Z A D nL ws cells slots (pc + 1) (some (.ref x) :: u) (.ref x :: st)) : ow_H p l e R s m args below meth c Z A D nL ws cells slots pc (some (.ref x) :: u) st := by
  intro H locs lsA hP hD hS hl
  exact lv_aload_n X.1 X.2.1 hd (i := 0) rfl (ow_at hl (ls := (some (.ref x) :: u)) (i := 0) (v := .ref x) rfl) (k H locs lsA hP hD hS hl)
theorem hw_iload0 {p : Program} {l : Launch} {e : Env} {R : Room} {s : State} {m : MethodId} {args : Array Value} {below : List Frame} {meth : Method} {c : Code} {Z : State → Prop} {A : Nat → Prop} {cI : Nat → ClassId} {D : va_G} {own : String} {cc : ByteArray} {nL pc cells slots : Nat} {ws : va_W} {st : List Value} {u : List (Option Value)} {x : Int32} (X : ow_X own cc nL p s m args meth c cI D) (hd : decode cc pc = .ok (.iload_n 0, 1)) (k : ow_H p l e R s m args below meth c Z A D nL ws cells slots (pc + 1) (some (.int x) :: u) (.int x :: st)) : ow_H p l e R s m args below meth c Z A D nL ws cells slots pc (some (.int x) :: u) st := by
  intro H locs lsA hP hD hS hl
  exact lv_iload_n X.1 X.2.1 hd (i := 0) rfl (ow_at hl (ls := (some (.int x) :: u)) (i := 0) (v := .int x) rfl) (k H locs lsA hP hD hS hl)
theorem hw_istore0 {p : Program} {l : Launch} {e : Env} {R : Room} {s : State} {m : MethodId} {args : Array Value} {below : List Frame} {meth : Method} {c : Code} {Z : State → Prop} {A : Nat → Prop} {cI : Nat → ClassId} {D : va_G} {own : String} {cc : ByteArray} {nL pc cells slots : Nat} {ws : va_W} {st : List Value} {b0 : Option Value} {u : List (Option Value)} {x : Int32} (X : ow_X own cc nL p s m args meth c cI D) (hd : decode cc pc = .ok (.istore_n 0, 1)) (hn : 0 < nL) (k : ow_H p l e R s m args below meth c Z A D nL ws cells slots (pc + 1) (some (.int x) :: u) st) : ow_H p l e R s m args below meth c Z A D nL ws cells slots pc (b0 :: u) (.int x :: st) := by
  intro H locs lsA hP hD hS hl
  exact lv_istore_n X.1 X.2.1 hd (i := 0) rfl hl hn rfl (fun lsB hB => k H locs lsB hP hD hS (ow_has_mono hB (ow_set1 (ls := (b0 :: u)) (i := 0) (v := .int x) rfl)))
theorem hw_astore0 {p : Program} {l : Launch} {e : Env} {R : Room} {s : State} {m : MethodId} {args : Array Value} {below : List Frame} {meth : Method} {c : Code} {Z : State → Prop} {A : Nat → Prop} {cI : Nat → ClassId} {D : va_G} {own : String} {cc : ByteArray} {nL pc cells slots : Nat} {ws : va_W} {st : List Value} {b0 : Option Value} {u : List (Option Value)} {x : Nat} (X : ow_X own cc nL p s m args meth c cI D) (hd : decode cc pc = .ok (.astore_n 0, 1)) (hn : 0 < nL) (k : ow_H p l e R s m args below meth c Z A D nL ws cells slots (pc + 1) (some (.ref x) :: u) st) : ow_H p l e R s m args below meth c Z A D nL ws cells slots pc (b0 :: u) (.ref x :: st) := by
  intro H locs lsA hP hD hS hl
  exact lv_astore_n X.1 X.2.1 hd (i := 0) rfl hl hn rfl (fun lsB hB => k H locs lsB hP hD hS (ow_has_mono hB (ow_set1 (ls := (b0 :: u)) (i := 0) (v := .ref x) rfl)))
theorem hw_iinc0 {p : Program} {l : Launch} {e : Env} {R : Room} {s : State} {m : MethodId} {args : Array Value} {below : List Frame} {meth : Method} {c : Code} {Z : State → Prop} {A : Nat → Prop} {cI : Nat → ClassId} {D : va_G} {own : String} {cc : ByteArray} {nL pc cells slots : Nat} {ws : va_W} {st : List Value} {u : List (Option Value)} {n : Int} {x : Int32} (v : Int32) (X : ow_X own cc nL p s m args meth c cI D) (hd : decode cc pc = .ok (.iinc 0 n, 3)) (hn : 0 < nL) (hv : x + Int32.ofInt n = v) (k : ow_H p l e R s m args below meth c Z A D nL ws cells slots (pc + 3) (some (.int v) :: u) st) : ow_H p l e R s m args below meth c Z A D nL ws cells slots pc (some (.int x) :: u) st := by
  intro H locs lsA hP hD hS hl
  obtain ⟨kk, hk⟩ := ow_at_k (ad := id) (ls := (some (.int x) :: u)) (i := 0) rfl
  exact lv_iinc X.1 X.2.1 hd hl hk hv hn rfl (fun lsB hB => k H locs lsB hP hD hS (ow_has_mono hB (ow_set1 (ls := (some (.int x) :: u)) (i := 0) (v := .int v) rfl)))
theorem hw_aload1 {p : Program} {l : Launch} {e : Env} {R : Room} {s : State} {m : MethodId} {args : Array Value} {below : List Frame} {meth : Method} {c : Code} {Z : State → Prop} {A : Nat → Prop} {cI : Nat → ClassId} {D : va_G} {own : String} {cc : ByteArray} {nL pc cells slots : Nat} {ws : va_W} {st : List Value} {a0 : Option Value} {u : List (Option Value)} {x : Nat} (X : ow_X own cc nL p s m args meth c cI D) (hd : decode cc pc = .ok (.aload_n 1, 1)) (k : ow_H p l e R s m args below meth c Z A D nL ws cells slots (pc + 1) (a0 :: some (.ref x) :: u) (.ref x :: st)) : ow_H p l e R s m args below meth c Z A D nL ws cells slots pc (a0 :: some (.ref x) :: u) st := by
  intro H locs lsA hP hD hS hl
  exact lv_aload_n X.1 X.2.1 hd (i := 1) rfl (ow_at hl (ls := (a0 :: some (.ref x) :: u)) (i := 1) (v := .ref x) rfl) (k H locs lsA hP hD hS hl)
theorem hw_iload1 {p : Program} {l : Launch} {e : Env} {R : Room} {s : State} {m : MethodId} {args : Array Value} {below : List Frame} {meth : Method} {c : Code} {Z : State → Prop} {A : Nat → Prop} {cI : Nat → ClassId} {D : va_G} {own : String} {cc : ByteArray} {nL pc cells slots : Nat} {ws : va_W} {st : List Value} {a0 : Option Value} {u : List (Option Value)} {x : Int32} (X : ow_X own cc nL p s m args meth c cI D) (hd : decode cc pc = .ok (.iload_n 1, 1)) (k : ow_H p l e R s m args below meth c Z A D nL ws cells slots (pc + 1) (a0 :: some (.int x) :: u) (.int x :: st)) : ow_H p l e R s m args below meth c Z A D nL ws cells slots pc (a0 :: some (.int x) :: u) st := by
  intro H locs lsA hP hD hS hl
  exact lv_iload_n X.1 X.2.1 hd (i := 1) rfl (ow_at hl (ls := (a0 :: some (.int x) :: u)) (i := 1) (v := .int x) rfl) (k H locs lsA hP hD hS hl)
theorem hw_istore1 {p : Program} {l : Launch} {e : Env} {R : Room} {s : State} {m : MethodId} {args : Array Value} {below : List Frame} {meth : Method} {c : Code} {Z : State → Prop} {A : Nat → Prop} {cI : Nat → ClassId} {D : va_G} {own : String} {cc : ByteArray} {nL pc cells slots : Nat} {ws : va_W} {st : List Value} {a0 : Option Value} {b0 : Option Value} {u : List (Option Value)} {x : Int32} (X : ow_X own cc nL p s m args meth c cI D) (hd : decode cc pc = .ok (.istore_n 1, 1)) (hn : 1 < nL) (hc : ow_k1 a0 = true) (k : ow_H p l e R s m args below meth c Z A D nL ws cells slots (pc + 1) (a0 :: some (.int x) :: u) st) : ow_H p l e R s m args below meth c Z A D nL ws cells slots pc (a0 :: b0 :: u) (.int x :: st) := by
  intro H locs lsA hP hD hS hl
  exact lv_istore_n X.1 X.2.1 hd (i := 1) rfl hl hn rfl (fun lsB hB => k H locs lsB hP hD hS (ow_has_mono hB (ow_set1 (ls := (a0 :: b0 :: u)) (i := 1) (v := .int x) hc)))
theorem hw_astore1 {p : Program} {l : Launch} {e : Env} {R : Room} {s : State} {m : MethodId} {args : Array Value} {below : List Frame} {meth : Method} {c : Code} {Z : State → Prop} {A : Nat → Prop} {cI : Nat → ClassId} {D : va_G} {own : String} {cc : ByteArray} {nL pc cells slots : Nat} {ws : va_W} {st : List Value} {a0 : Option Value} {b0 : Option Value} {u : List (Option Value)} {x : Nat} (X : ow_X own cc nL p s m args meth c cI D) (hd : decode cc pc = .ok (.astore_n 1, 1)) (hn : 1 < nL) (hc : ow_k1 a0 = true) (k : ow_H p l e R s m args below meth c Z A D nL ws cells slots (pc + 1) (a0 :: some (.ref x) :: u) st) : ow_H p l e R s m args below meth c Z A D nL ws cells slots pc (a0 :: b0 :: u) (.ref x :: st) := by
  intro H locs lsA hP hD hS hl
  exact lv_astore_n X.1 X.2.1 hd (i := 1) rfl hl hn rfl (fun lsB hB => k H locs lsB hP hD hS (ow_has_mono hB (ow_set1 (ls := (a0 :: b0 :: u)) (i := 1) (v := .ref x) hc)))
theorem hw_iinc1 {p : Program} {l : Launch} {e : Env} {R : Room} {s : State} {m : MethodId} {args : Array Value} {below : List Frame} {meth : Method} {c : Code} {Z : State → Prop} {A : Nat → Prop} {cI : Nat → ClassId} {D : va_G} {own : String} {cc : ByteArray} {nL pc cells slots : Nat} {ws : va_W} {st : List Value} {a0 : Option Value} {u : List (Option Value)} {n : Int} {x : Int32} (v : Int32) (X : ow_X own cc nL p s m args meth c cI D) (hd : decode cc pc = .ok (.iinc 1 n, 3)) (hn : 1 < nL) (hc : ow_k1 a0 = true) (hv : x + Int32.ofInt n = v) (k : ow_H p l e R s m args below meth c Z A D nL ws cells slots (pc + 3) (a0 :: some (.int v) :: u) st) : ow_H p l e R s m args below meth c Z A D nL ws cells slots pc (a0 :: some (.int x) :: u) st := by
  intro H locs lsA hP hD hS hl
  obtain ⟨kk, hk⟩ := ow_at_k (ad := id) (ls := (a0 :: some (.int x) :: u)) (i := 1) rfl
  exact lv_iinc X.1 X.2.1 hd hl hk hv hn rfl (fun lsB hB => k H locs lsB hP hD hS (ow_has_mono hB (ow_set1 (ls := (a0 :: some (.int x) :: u)) (i := 1) (v := .int v) hc)))
theorem hw_aload2 {p : Program} {l : Launch} {e : Env} {R : Room} {s : State} {m : MethodId} {args : Array Value} {below : List Frame} {meth : Method} {c : Code} {Z : State → Prop} {A : Nat → Prop} {cI : Nat → ClassId} {D : va_G} {own : String} {cc : ByteArray} {nL pc cells slots : Nat} {ws : va_W} {st : List Value} {a0 : Option Value} {a1 : Option Value} {u : List (Option Value)} {x : Nat} (X : ow_X own cc nL p s m args meth c cI D) (hd : decode cc pc = .ok (.aload_n 2, 1)) (k : ow_H p l e R s m args below meth c Z A D nL ws cells slots (pc + 1) (a0 :: a1 :: some (.ref x) :: u) (.ref x :: st)) : ow_H p l e R s m args below meth c Z A D nL ws cells slots pc (a0 :: a1 :: some (.ref x) :: u) st := by
  intro H locs lsA hP hD hS hl
  exact lv_aload_n X.1 X.2.1 hd (i := 2) rfl (ow_at hl (ls := (a0 :: a1 :: some (.ref x) :: u)) (i := 2) (v := .ref x) rfl) (k H locs lsA hP hD hS hl)
theorem hw_iload2 {p : Program} {l : Launch} {e : Env} {R : Room} {s : State} {m : MethodId} {args : Array Value} {below : List Frame} {meth : Method} {c : Code} {Z : State → Prop} {A : Nat → Prop} {cI : Nat → ClassId} {D : va_G} {own : String} {cc : ByteArray} {nL pc cells slots : Nat} {ws : va_W} {st : List Value} {a0 : Option Value} {a1 : Option Value} {u : List (Option Value)} {x : Int32} (X : ow_X own cc nL p s m args meth c cI D) (hd : decode cc pc = .ok (.iload_n 2, 1)) (k : ow_H p l e R s m args below meth c Z A D nL ws cells slots (pc + 1) (a0 :: a1 :: some (.int x) :: u) (.int x :: st)) : ow_H p l e R s m args below meth c Z A D nL ws cells slots pc (a0 :: a1 :: some (.int x) :: u) st := by
  intro H locs lsA hP hD hS hl
  exact lv_iload_n X.1 X.2.1 hd (i := 2) rfl (ow_at hl (ls := (a0 :: a1 :: some (.int x) :: u)) (i := 2) (v := .int x) rfl) (k H locs lsA hP hD hS hl)
theorem hw_istore2 {p : Program} {l : Launch} {e : Env} {R : Room} {s : State} {m : MethodId} {args : Array Value} {below : List Frame} {meth : Method} {c : Code} {Z : State → Prop} {A : Nat → Prop} {cI : Nat → ClassId} {D : va_G} {own : String} {cc : ByteArray} {nL pc cells slots : Nat} {ws : va_W} {st : List Value} {a0 : Option Value} {a1 : Option Value} {b0 : Option Value} {u : List (Option Value)} {x : Int32} (X : ow_X own cc nL p s m args meth c cI D) (hd : decode cc pc = .ok (.istore_n 2, 1)) (hn : 2 < nL) (hc : ow_k1 a1 = true) (k : ow_H p l e R s m args below meth c Z A D nL ws cells slots (pc + 1) (a0 :: a1 :: some (.int x) :: u) st) : ow_H p l e R s m args below meth c Z A D nL ws cells slots pc (a0 :: a1 :: b0 :: u) (.int x :: st) := by
  intro H locs lsA hP hD hS hl
  exact lv_istore_n X.1 X.2.1 hd (i := 2) rfl hl hn rfl (fun lsB hB => k H locs lsB hP hD hS (ow_has_mono hB (ow_set1 (ls := (a0 :: a1 :: b0 :: u)) (i := 2) (v := .int x) hc)))
theorem hw_astore2 {p : Program} {l : Launch} {e : Env} {R : Room} {s : State} {m : MethodId} {args : Array Value} {below : List Frame} {meth : Method} {c : Code} {Z : State → Prop} {A : Nat → Prop} {cI : Nat → ClassId} {D : va_G} {own : String} {cc : ByteArray} {nL pc cells slots : Nat} {ws : va_W} {st : List Value} {a0 : Option Value} {a1 : Option Value} {b0 : Option Value} {u : List (Option Value)} {x : Nat} (X : ow_X own cc nL p s m args meth c cI D) (hd : decode cc pc = .ok (.astore_n 2, 1)) (hn : 2 < nL) (hc : ow_k1 a1 = true) (k : ow_H p l e R s m args below meth c Z A D nL ws cells slots (pc + 1) (a0 :: a1 :: some (.ref x) :: u) st) : ow_H p l e R s m args below meth c Z A D nL ws cells slots pc (a0 :: a1 :: b0 :: u) (.ref x :: st) := by
  intro H locs lsA hP hD hS hl
  exact lv_astore_n X.1 X.2.1 hd (i := 2) rfl hl hn rfl (fun lsB hB => k H locs lsB hP hD hS (ow_has_mono hB (ow_set1 (ls := (a0 :: a1 :: b0 :: u)) (i := 2) (v := .ref x) hc)))
theorem hw_iinc2 {p : Program} {l : Launch} {e : Env} {R : Room} {s : State} {m : MethodId} {args : Array Value} {below : List Frame} {meth : Method} {c : Code} {Z : State → Prop} {A : Nat → Prop} {cI : Nat → ClassId} {D : va_G} {own : String} {cc : ByteArray} {nL pc cells slots : Nat} {ws : va_W} {st : List Value} {a0 : Option Value} {a1 : Option Value} {u : List (Option Value)} {n : Int} {x : Int32} (v : Int32) (X : ow_X own cc nL p s m args meth c cI D) (hd : decode cc pc = .ok (.iinc 2 n, 3)) (hn : 2 < nL) (hc : ow_k1 a1 = true) (hv : x + Int32.ofInt n = v) (k : ow_H p l e R s m args below meth c Z A D nL ws cells slots (pc + 3) (a0 :: a1 :: some (.int v) :: u) st) : ow_H p l e R s m args below meth c Z A D nL ws cells slots pc (a0 :: a1 :: some (.int x) :: u) st := by
  intro H locs lsA hP hD hS hl
  obtain ⟨kk, hk⟩ := ow_at_k (ad := id) (ls := (a0 :: a1 :: some (.int x) :: u)) (i := 2) rfl
  exact lv_iinc X.1 X.2.1 hd hl hk hv hn rfl (fun lsB hB => k H locs lsB hP hD hS (ow_has_mono hB (ow_set1 (ls := (a0 :: a1 :: some (.int x) :: u)) (i := 2) (v := .int v) hc)))
theorem hw_aload3 {p : Program} {l : Launch} {e : Env} {R : Room} {s : State} {m : MethodId} {args : Array Value} {below : List Frame} {meth : Method} {c : Code} {Z : State → Prop} {A : Nat → Prop} {cI : Nat → ClassId} {D : va_G} {own : String} {cc : ByteArray} {nL pc cells slots : Nat} {ws : va_W} {st : List Value} {a0 : Option Value} {a1 : Option Value} {a2 : Option Value} {u : List (Option Value)} {x : Nat} (X : ow_X own cc nL p s m args meth c cI D) (hd : decode cc pc = .ok (.aload_n 3, 1)) (k : ow_H p l e R s m args below meth c Z A D nL ws cells slots (pc + 1) (a0 :: a1 :: a2 :: some (.ref x) :: u) (.ref x :: st)) : ow_H p l e R s m args below meth c Z A D nL ws cells slots pc (a0 :: a1 :: a2 :: some (.ref x) :: u) st := by
  intro H locs lsA hP hD hS hl
  exact lv_aload_n X.1 X.2.1 hd (i := 3) rfl (ow_at hl (ls := (a0 :: a1 :: a2 :: some (.ref x) :: u)) (i := 3) (v := .ref x) rfl) (k H locs lsA hP hD hS hl)
theorem hw_iload3 {p : Program} {l : Launch} {e : Env} {R : Room} {s : State} {m : MethodId} {args : Array Value} {below : List Frame} {meth : Method} {c : Code} {Z : State → Prop} {A : Nat → Prop} {cI : Nat → ClassId} {D : va_G} {own : String} {cc : ByteArray} {nL pc cells slots : Nat} {ws : va_W} {st : List Value} {a0 : Option Value} {a1 : Option Value} {a2 : Option Value} {u : List (Option Value)} {x : Int32} (X : ow_X own cc nL p s m args meth c cI D) (hd : decode cc pc = .ok (.iload_n 3, 1)) (k : ow_H p l e R s m args below meth c Z A D nL ws cells slots (pc + 1) (a0 :: a1 :: a2 :: some (.int x) :: u) (.int x :: st)) : ow_H p l e R s m args below meth c Z A D nL ws cells slots pc (a0 :: a1 :: a2 :: some (.int x) :: u) st := by
  intro H locs lsA hP hD hS hl
  exact lv_iload_n X.1 X.2.1 hd (i := 3) rfl (ow_at hl (ls := (a0 :: a1 :: a2 :: some (.int x) :: u)) (i := 3) (v := .int x) rfl) (k H locs lsA hP hD hS hl)
theorem hw_istore3 {p : Program} {l : Launch} {e : Env} {R : Room} {s : State} {m : MethodId} {args : Array Value} {below : List Frame} {meth : Method} {c : Code} {Z : State → Prop} {A : Nat → Prop} {cI : Nat → ClassId} {D : va_G} {own : String} {cc : ByteArray} {nL pc cells slots : Nat} {ws : va_W} {st : List Value} {a0 : Option Value} {a1 : Option Value} {a2 : Option Value} {b0 : Option Value} {u : List (Option Value)} {x : Int32} (X : ow_X own cc nL p s m args meth c cI D) (hd : decode cc pc = .ok (.istore_n 3, 1)) (hn : 3 < nL) (hc : ow_k1 a2 = true) (k : ow_H p l e R s m args below meth c Z A D nL ws cells slots (pc + 1) (a0 :: a1 :: a2 :: some (.int x) :: u) st) : ow_H p l e R s m args below meth c Z A D nL ws cells slots pc (a0 :: a1 :: a2 :: b0 :: u) (.int x :: st) := by
  intro H locs lsA hP hD hS hl
  exact lv_istore_n X.1 X.2.1 hd (i := 3) rfl hl hn rfl (fun lsB hB => k H locs lsB hP hD hS (ow_has_mono hB (ow_set1 (ls := (a0 :: a1 :: a2 :: b0 :: u)) (i := 3) (v := .int x) hc)))
theorem hw_astore3 {p : Program} {l : Launch} {e : Env} {R : Room} {s : State} {m : MethodId} {args : Array Value} {below : List Frame} {meth : Method} {c : Code} {Z : State → Prop} {A : Nat → Prop} {cI : Nat → ClassId} {D : va_G} {own : String} {cc : ByteArray} {nL pc cells slots : Nat} {ws : va_W} {st : List Value} {a0 : Option Value} {a1 : Option Value} {a2 : Option Value} {b0 : Option Value} {u : List (Option Value)} {x : Nat} (X : ow_X own cc nL p s m args meth c cI D) (hd : decode cc pc = .ok (.astore_n 3, 1)) (hn : 3 < nL) (hc : ow_k1 a2 = true) (k : ow_H p l e R s m args below meth c Z A D nL ws cells slots (pc + 1) (a0 :: a1 :: a2 :: some (.ref x) :: u) st) : ow_H p l e R s m args below meth c Z A D nL ws cells slots pc (a0 :: a1 :: a2 :: b0 :: u) (.ref x :: st) := by
  intro H locs lsA hP hD hS hl
  exact lv_astore_n X.1 X.2.1 hd (i := 3) rfl hl hn rfl (fun lsB hB => k H locs lsB hP hD hS (ow_has_mono hB (ow_set1 (ls := (a0 :: a1 :: a2 :: b0 :: u)) (i := 3) (v := .ref x) hc)))
theorem hw_iinc3 {p : Program} {l : Launch} {e : Env} {R : Room} {s : State} {m : MethodId} {args : Array Value} {below : List Frame} {meth : Method} {c : Code} {Z : State → Prop} {A : Nat → Prop} {cI : Nat → ClassId} {D : va_G} {own : String} {cc : ByteArray} {nL pc cells slots : Nat} {ws : va_W} {st : List Value} {a0 : Option Value} {a1 : Option Value} {a2 : Option Value} {u : List (Option Value)} {n : Int} {x : Int32} (v : Int32) (X : ow_X own cc nL p s m args meth c cI D) (hd : decode cc pc = .ok (.iinc 3 n, 3)) (hn : 3 < nL) (hc : ow_k1 a2 = true) (hv : x + Int32.ofInt n = v) (k : ow_H p l e R s m args below meth c Z A D nL ws cells slots (pc + 3) (a0 :: a1 :: a2 :: some (.int v) :: u) st) : ow_H p l e R s m args below meth c Z A D nL ws cells slots pc (a0 :: a1 :: a2 :: some (.int x) :: u) st := by
  intro H locs lsA hP hD hS hl
  obtain ⟨kk, hk⟩ := ow_at_k (ad := id) (ls := (a0 :: a1 :: a2 :: some (.int x) :: u)) (i := 3) rfl
  exact lv_iinc X.1 X.2.1 hd hl hk hv hn rfl (fun lsB hB => k H locs lsB hP hD hS (ow_has_mono hB (ow_set1 (ls := (a0 :: a1 :: a2 :: some (.int x) :: u)) (i := 3) (v := .int v) hc)))
theorem hw_obj {p : Program} {l : Launch} {e : Env} {R : Room} {s : State} {m : MethodId} {args : Array Value} {below : List Frame} {meth : Method} {c : Code} {Z : State → Prop} {A : Nat → Prop} {cI : Nat → ClassId} {D : va_G} {own : String} {cc : ByteArray} {nL pc cells slots : Nat} {ws : va_W} {ls : List (Option Value)} {st : List Value} {idx a : Nat} (X : ow_X own cc nL p s m args meth c cI D) (hlk : Cond.methodLink own idx Lib.objectInit ∈ ow_base) (hm : Cond.instanceMethod Lib.objectInit ∈ ow_base ∧ Cond.code Lib.objectInit ⟨#[0xb1]⟩ 1 none ∈ ow_base) (hr : Nat.ble ((st.map fun v => v.category).sum + 12) R.locals = true) (hf : Nat.ble 1 R.frames = true) (hd : decode cc pc = .ok (.invokespecial idx, 3)) (k : ow_H p l e R s m args below meth c Z A D nL ws cells slots (pc + 3) ls st) : ow_H p l e R s m args below meth c Z A D nL ws cells slots pc ls (.ref a :: st) := by
  intro H locs lsA hP hD hS hl
  have hr := Nat.le_of_ble_eq_true hr
  exact W.objInit X.1 X.2.1 X.2.2.2.1 (X.2.2.2.2.1 _ hlk) (X.2.2.2.2.1 _ hm.1) (X.2.2.2.2.1 _ hm.2) rfl (hl.1.trans X.2.2.1.symm) rfl hd (Nat.le_of_ble_eq_true hf) (by show 2 * 0 + _ + 12 ≤ _; omega) (k H locs lsA hP hD hS hl)
def ow_ff (own : String) (idx ci k : Nat) (ty : FieldType) : Prop := ∃ (C : String) (T : u_T) (N : Nat), vwCl[ci]? = some (C, T, N) ∧ ow_CF C T N ∧ k < N ∧ (T k).1 = C ∧ C = own ∧ (T k).2.2.2 = true ∧ parseFieldDescriptor (T k).2.2.1 = some ty ∧ Cond.fieldLink own idx C (T k).2.1 (T k).2.2.1 ∈ ow_base
theorem hw_putF {p : Program} {l : Launch} {e : Env} {R : Room} {s : State} {m : MethodId} {args : Array Value} {below : List Frame} {meth : Method} {c : Code} {Z : State → Prop} {A : Nat → Prop} {cI : Nat → ClassId} {D : va_G} {own : String} {cc : ByteArray} {nL pc cells slots : Nat} {ws : va_W} {ls : List (Option Value)} {st : List Value} {idx ci j a v : Nat} {fs : List Value} {ty : FieldType} (q0 : Nat) (X : ow_X own cc nL p s m args meth c cI D) (hin : meth.name = "<init>") (hf : ow_ff own idx ci j ty) (he : ws[q0]? = some (a, .inr (ci, fs))) (hj : Nat.blt j fs.length = true) (hn : narrow ty (.ref v) = .ref v) (hfit : fits ty (.ref v) = true) (hd : decode cc pc = .ok (.putfield idx, 3)) (k : ow_H p l e R s m args below meth c Z A D nL (ws.set q0 (a, .inr (ci, fs.set j (.ref v)))) cells slots (pc + 3) ls st) : ow_H p l e R s m args below meth c Z A D nL ws cells slots pc ls (.ref v :: .ref a :: st) := by
  intro H locs lsA hP hD hS hl
  obtain ⟨C, T, N, h1, h2, h3, h4, h5, h6, h7, h8⟩ := hf
  obtain ⟨h2a, ty0, h2b, h2c⟩ := h2
  exact va_putF X.1 X.2.1 X.2.2.2.2.1 h2a ty0 h2b h2c X.2.2.2.1 X.2.2.2.2.2.2.1 hP hD hS q0 he h1 j h3 (X.2.2.2.2.1 _ h8) (by rw [h4]; exact fun _ h => h) h6 hin (h4.trans h5) h7 hn hfit (by exact Nat.le_of_ble_eq_true hj) hd (fun H1 locs1 hP1 hD1 hS1 => k H1 locs1 lsA hP1 hD1 hS1 hl)
theorem hw_putI {p : Program} {l : Launch} {e : Env} {R : Room} {s : State} {m : MethodId} {args : Array Value} {below : List Frame} {meth : Method} {c : Code} {Z : State → Prop} {A : Nat → Prop} {cI : Nat → ClassId} {D : va_G} {own : String} {cc : ByteArray} {nL pc cells slots : Nat} {ws : va_W} {ls : List (Option Value)} {st : List Value} {idx ci j a : Nat} {x : Int32} {fs : List Value} {ty : FieldType} (q0 : Nat) (X : ow_X own cc nL p s m args meth c cI D) (hf : ow_fl own idx ci j) (hp : ow_fp ci j ty) (he : ws[q0]? = some (a, .inr (ci, fs))) (hj : Nat.blt j fs.length = true) (hn : narrow ty (.int x) = .int x) (hfit : fits ty (.int x) = true) (hd : decode cc pc = .ok (.putfield idx, 3)) (k : ow_H p l e R s m args below meth c Z A D nL (ws.set q0 (a, .inr (ci, fs.set j (.int x)))) cells slots (pc + 3) ls st) : ow_H p l e R s m args below meth c Z A D nL ws cells slots pc ls (.int x :: .ref a :: st) := by
  intro H locs lsA hP hD hS hl
  obtain ⟨C, T, N, h1, h2, h3, h4, h5⟩ := hf
  obtain ⟨C2, T2, N2, g1, g2, g3⟩ := hp
  have e := Option.some.inj (g1.symm.trans h1)
  cases e
  obtain ⟨h2a, ty0, h2b, h2c⟩ := h2
  rcases h5 with h5 | ⟨host, h5⟩
  · exact va_put X.1 X.2.1 X.2.2.2.2.1 h2a ty0 h2b h2c X.2.2.2.1 X.2.2.2.2.2.2.1 hP hD hS q0 he h1 j h3 (X.2.2.2.2.1 _ h5) (by rw [h4]; exact fun _ h => h) g2 g3 hn hfit (by exact Nat.le_of_ble_eq_true hj) hd (fun H1 locs1 hP1 hD1 hS1 => k H1 locs1 lsA hP1 hD1 hS1 hl)
  · exact va_putN X.1 X.2.1 X.2.2.2.2.1 h2a ty0 h2b h2c X.2.2.2.1 X.2.2.2.2.2.2.1 hP hD hS q0 he h1 j h3 (va_Nw.use rfl (X.2.2.2.2.2.1 _ h5)) (by rw [h4]; exact fun _ h => h) g2 g3 hn hfit (by exact Nat.le_of_ble_eq_true hj) hd (fun H1 locs1 hP1 hD1 hS1 => k H1 locs1 lsA hP1 hD1 hS1 hl)
theorem hw_getR {p : Program} {l : Launch} {e : Env} {R : Room} {s : State} {m : MethodId} {args : Array Value} {below : List Frame} {meth : Method} {c : Code} {Z : State → Prop} {A : Nat → Prop} {cI : Nat → ClassId} {D : va_G} {own : String} {cc : ByteArray} {nL pc cells slots : Nat} {ws : va_W} {ls : List (Option Value)} {st : List Value} {idx ci j a r : Nat} {fs : List Value} (q0 : Nat) (X : ow_X own cc nL p s m args meth c cI D) (hf : ow_fl own idx ci j) (he : ws[q0]? = some (a, .inr (ci, fs))) (hv : fs[j]? = some (.ref r)) (hd : decode cc pc = .ok (.getfield idx, 3)) (k : ow_H p l e R s m args below meth c Z A D nL ws cells slots (pc + 3) ls (.ref r :: st)) : ow_H p l e R s m args below meth c Z A D nL ws cells slots pc ls (.ref a :: st) := by
  intro H locs lsA hP hD hS hl
  obtain ⟨C, T, N, h1, h2, h3, h4, h5⟩ := hf
  rcases h5 with h5 | ⟨host, h5⟩
  · exact va_get X.1 X.2.1 X.2.2.2.2.1 h2.1 X.2.2.2.1 X.2.2.2.2.2.2.1 hP q0 he h1 j h3 (X.2.2.2.2.1 _ h5) (by rw [h4]; exact fun _ h => h) hv hd (k H locs lsA hP hD hS hl)
  · exact va_getN X.1 X.2.1 X.2.2.2.2.1 h2.1 X.2.2.2.1 X.2.2.2.2.2.2.1 hP q0 he h1 j h3 (va_Nw.use rfl (X.2.2.2.2.2.1 _ h5)) (by rw [h4]; exact fun _ h => h) hv hd (k H locs lsA hP hD hS hl)
theorem hw_newa0 {p : Program} {l : Launch} {e : Env} {R : Room} {s : State} {m : MethodId} {args : Array Value} {below : List Frame} {meth : Method} {c : Code} {Z : State → Prop} {A : Nat → Prop} {cI : Nat → ClassId} {D : va_G} {own : String} {cc : ByteArray} {nL pc cells slots : Nat} {ws : va_W} {ls : List (Option Value)} {st : List Value} {n : Int32} (N : Nat) (X : ow_X own cc nL p s m args meth c cI D) (hA : ∀ q, s.heap.size ≤ q → A q) (hw : Cond.arrayClass .int ∈ ow_base) (hn : ¬ n < 0) (hN : n.toNatClampNeg = N) (hby : Nat.ble (N * componentBytes .int) 536870912 = true) (hc : Nat.ble (cells + 1) R.cells = true) (hs : Nat.ble (slots + N) R.slots = true) (hd : decode cc pc = .ok (.newarray .int, 2)) (k : ∀ q : Nat, ow_H p l e R s m args below meth c Z A D nL (ws ++ [(q, .inl (cI 0, N, (.inl (fun _ => 0))))]) (cells + 1) (slots + N) (pc + 2) ls (.ref q :: st)) : ow_H p l e R s m args below meth c Z A D nL ws cells slots pc ls (.int n :: st) := by
  intro H locs lsA hP hD hS hl
  refine va_newa (atype := .int) (a0 := (N, (.inl (fun _ => 0)))) X.1 X.2.1 (X.2.2.2.2.1 _ hw) (ty := .int) rfl X.2.2.2.2.2.2.1 hP hD hS hA (fun cA => ow_zero0 cA N) hn hN (Nat.le_of_ble_eq_true hby) (Nat.le_of_ble_eq_true hc) (Nat.le_of_ble_eq_true hs) hd (fun q cA H1 hK1 hP1 hD1 hS1 => ?_)
  have ec := ow_ca (t := 0) hK1 rfl
  subst ec
  exact k q H1 locs lsA hP1 hD1 hS1 hl
theorem hw_newa1 {p : Program} {l : Launch} {e : Env} {R : Room} {s : State} {m : MethodId} {args : Array Value} {below : List Frame} {meth : Method} {c : Code} {Z : State → Prop} {A : Nat → Prop} {cI : Nat → ClassId} {D : va_G} {own : String} {cc : ByteArray} {nL pc cells slots : Nat} {ws : va_W} {ls : List (Option Value)} {st : List Value} {n : Int32} (N : Nat) (X : ow_X own cc nL p s m args meth c cI D) (hA : ∀ q, s.heap.size ≤ q → A q) (hw : Cond.arrayClass .boolean ∈ ow_base) (hn : ¬ n < 0) (hN : n.toNatClampNeg = N) (hby : Nat.ble (N * componentBytes .boolean) 536870912 = true) (hc : Nat.ble (cells + 1) R.cells = true) (hs : Nat.ble (slots + N) R.slots = true) (hd : decode cc pc = .ok (.newarray .boolean, 2)) (k : ∀ q : Nat, ow_H p l e R s m args below meth c Z A D nL (ws ++ [(q, .inl (cI 1, N, (.inl (fun _ => 0))))]) (cells + 1) (slots + N) (pc + 2) ls (.ref q :: st)) : ow_H p l e R s m args below meth c Z A D nL ws cells slots pc ls (.int n :: st) := by
  intro H locs lsA hP hD hS hl
  refine va_newa (atype := .boolean) (a0 := (N, (.inl (fun _ => 0)))) X.1 X.2.1 (X.2.2.2.2.1 _ hw) (ty := .boolean) rfl X.2.2.2.2.2.2.1 hP hD hS hA (fun cA => ow_zero1 cA N) hn hN (Nat.le_of_ble_eq_true hby) (Nat.le_of_ble_eq_true hc) (Nat.le_of_ble_eq_true hs) hd (fun q cA H1 hK1 hP1 hD1 hS1 => ?_)
  have ec := ow_ca (t := 1) hK1 rfl
  subst ec
  exact k q H1 locs lsA hP1 hD1 hS1 hl
theorem hw_newa2 {p : Program} {l : Launch} {e : Env} {R : Room} {s : State} {m : MethodId} {args : Array Value} {below : List Frame} {meth : Method} {c : Code} {Z : State → Prop} {A : Nat → Prop} {cI : Nat → ClassId} {D : va_G} {own : String} {cc : ByteArray} {nL pc cells slots : Nat} {ws : va_W} {ls : List (Option Value)} {st : List Value} {n : Int32} (N : Nat) (X : ow_X own cc nL p s m args meth c cI D) (hA : ∀ q, s.heap.size ≤ q → A q) (hw : Cond.arrayClass .long ∈ ow_base) (hn : ¬ n < 0) (hN : n.toNatClampNeg = N) (hby : Nat.ble (N * componentBytes .long) 536870912 = true) (hc : Nat.ble (cells + 1) R.cells = true) (hs : Nat.ble (slots + N) R.slots = true) (hd : decode cc pc = .ok (.newarray .long, 2)) (k : ∀ q : Nat, ow_H p l e R s m args below meth c Z A D nL (ws ++ [(q, .inl (cI 2, N, (.inr (.inl (fun _ => 0)))))]) (cells + 1) (slots + N) (pc + 2) ls (.ref q :: st)) : ow_H p l e R s m args below meth c Z A D nL ws cells slots pc ls (.int n :: st) := by
  intro H locs lsA hP hD hS hl
  refine va_newa (atype := .long) (a0 := (N, (.inr (.inl (fun _ => 0))))) X.1 X.2.1 (X.2.2.2.2.1 _ hw) (ty := .long) rfl X.2.2.2.2.2.2.1 hP hD hS hA (fun cA => ow_zero2 cA N) hn hN (Nat.le_of_ble_eq_true hby) (Nat.le_of_ble_eq_true hc) (Nat.le_of_ble_eq_true hs) hd (fun q cA H1 hK1 hP1 hD1 hS1 => ?_)
  have ec := ow_ca (t := 2) hK1 rfl
  subst ec
  exact k q H1 locs lsA hP1 hD1 hS1 hl
theorem hw_newq {p : Program} {l : Launch} {e : Env} {R : Room} {s : State} {m : MethodId} {args : Array Value} {below : List Frame} {meth : Method} {c : Code} {Z : State → Prop} {A : Nat → Prop} {cI : Nat → ClassId} {D : va_G} {own : String} {cc : ByteArray} {nL pc cells slots : Nat} {ws : va_W} {ls : List (Option Value)} {st : List Value} {n : Int32} {idx : Nat} (N : Nat) (X : ow_X own cc nL p s m args meth c cI D) (hA : ∀ q, s.heap.size ≤ q → A q) (hw : Cond.classLink own idx "OneWire$Sheet" ∈ ow_base) (hO : va_AO "OneWire$Sheet" s) (hn : ¬ n < 0) (hN : n.toNatClampNeg = N) (hby : Nat.ble (N * 4) 536870912 = true) (hc : Nat.ble (cells + 1) R.cells = true) (hs : Nat.ble (slots + N) R.slots = true) (hd : decode cc pc = .ok (.anewarray idx, 3)) (k : ∀ q : Nat, ow_H p l e R s m args below meth c Z A D nL (ws ++ [(q, .inl (cI 3, N, .inr (.inr (.inr (.inr (fun _ => none))))))]) (cells + 1) (slots + N) (pc + 3) ls (.ref q :: st)) : ow_H p l e R s m args below meth c Z A D nL ws cells slots pc ls (.int n :: st) := by
  intro H locs lsA hP hD hS hl
  refine va_newq X.1 X.2.1 X.2.2.2.1 (X.2.2.2.2.1 _ hw) hO X.2.2.2.2.2.2.1 hP hD hS hA hn hN (Nat.le_of_ble_eq_true hby) (Nat.le_of_ble_eq_true hc) (Nat.le_of_ble_eq_true hs) hd (fun q cA H1 hK1 hP1 hD1 hS1 => ?_)
  have ec := ow_ca (t := 3) hK1 rfl
  subst ec
  exact k q H1 locs lsA hP1 hD1 hS1 hl
def ow_nw (own : String) (idx ci N : Nat) (fs : List Value) : Prop := ∃ (C : String) (T : u_T) (ty : Nat → FieldType), vwCl[ci]? = some (C, T, N) ∧ (∀ w ∈ u_ws C T N, w ∈ ow_base) ∧ (∀ k, k < N → parseFieldDescriptor (T k).2.2.1 = some (ty k)) ∧ Cond.classLink own idx C ∈ ow_base ∧ Cond.instantiable C N ∈ ow_base ∧ Cond.initialized C ∈ ow_base ∧ ∀ j, j < N → defaultValue (ty j) = vp_V fs j
theorem hw_new {p : Program} {l : Launch} {e : Env} {R : Room} {s : State} {m : MethodId} {args : Array Value} {below : List Frame} {meth : Method} {c : Code} {Z : State → Prop} {A : Nat → Prop} {cI : Nat → ClassId} {D : va_G} {own : String} {cc : ByteArray} {nL pc cells slots : Nat} {ws : va_W} {ls : List (Option Value)} {st : List Value} {idx ci N : Nat} {fs : List Value} (X : ow_X own cc nL p s m args meth c cI D) (hA : ∀ q, s.heap.size ≤ q → A q) (hw : ow_nw own idx ci N fs) (hc : Nat.ble (cells + 1) R.cells = true) (hs : Nat.ble (slots + N) R.slots = true) (hd : decode cc pc = .ok (.new idx, 3)) (k : ∀ q : Nat, ow_H p l e R s m args below meth c Z A D nL (ws ++ [(q, .inr (ci, fs))]) (cells + 1) (slots + N) (pc + 3) ls (.ref q :: st)) : ow_H p l e R s m args below meth c Z A D nL ws cells slots pc ls st := by
  intro H locs lsA hP hD hS hl
  obtain ⟨C, T, ty, h1, h2, h3, h4, h5, h6, h7⟩ := hw
  exact va_new X.1 X.2.1 X.2.2.2.2.1 h2 ty h3 X.2.2.2.1 (X.2.2.2.2.1 _ h4) (X.2.2.2.2.1 _ h5) (X.2.2.2.2.1 _ h6) X.2.2.2.2.2.2.1 hP hD hS hA h1 h7 (Nat.le_of_ble_eq_true hc) (Nat.le_of_ble_eq_true hs) hd (fun q H1 hP1 hD1 hS1 => k q H1 locs lsA hP1 hD1 hS1 hl)
theorem hw_iast {p : Program} {l : Launch} {e : Env} {R : Room} {s : State} {m : MethodId} {args : Array Value} {below : List Frame} {meth : Method} {c : Code} {Z : State → Prop} {A : Nat → Prop} {cI : Nat → ClassId} {D : va_G} {own : String} {cc : ByteArray} {nL pc cells slots : Nat} {ws : va_W} {ls : List (Option Value)} {st : List Value} {i x : Int32} {a n : Nat} {f : Nat → Int32} (q0 : Nat) (X : ow_X own cc nL p s m args meth c cI D) (he : ws[q0]? = some (a, .inl (cI 0, n, .inl f))) (hi : vp_in i n) (hd : decode cc pc = .ok (.iastore, 1)) (k : ow_H p l e R s m args below meth c Z A D nL (ws.set q0 (a, .inl (cI 0, n, .inl (upd f i.toNatClampNeg x)))) cells slots (pc + 1) ls st) : ow_H p l e R s m args below meth c Z A D nL ws cells slots pc ls (.int x :: .int i :: .ref a :: st) := by
  intro H locs lsA hP hD hS hl
  exact va_iast X.1 X.2.1 X.2.2.2.2.2.2.1 hP hD hS q0 0 he rfl hi hd (fun H1 locs1 hP1 hD1 hS1 => k H1 locs1 lsA hP1 hD1 hS1 hl)
theorem hw_astq {p : Program} {l : Launch} {e : Env} {R : Room} {s : State} {m : MethodId} {args : Array Value} {below : List Frame} {meth : Method} {c : Code} {Z : State → Prop} {A : Nat → Prop} {cI : Nat → ClassId} {D : va_G} {own : String} {cc : ByteArray} {nL pc cells slots : Nat} {ws : va_W} {ls : List (Option Value)} {st : List Value} {i : Int32} {a n v : Nat} {vs : List Value} {f : Nat → Option Nat} (q0 qk : Nat) (X : ow_X own cc nL p s m args meth c cI D) (he : ws[q0]? = some (a, .inl (cI 3, n, .inr (.inr (.inr (.inr f)))))) (hv : ws[qk]? = some (v, .inr (4, vs))) (hi : vp_in i n) (hd : decode cc pc = .ok (.aastore, 1)) (k : ow_H p l e R s m args below meth c Z A D nL (ws.set q0 (a, .inl (cI 3, n, .inr (.inr (.inr (.inr (va_up f i.toNatClampNeg (some v)))))))) cells slots (pc + 1) ls st) : ow_H p l e R s m args below meth c Z A D nL ws cells slots pc ls (.ref v :: .int i :: .ref a :: st) := by
  intro H locs lsA hP hD hS hl
  exact va_astq (r := (RX4, TX4, 4)) X.1 X.2.1 X.2.2.2.2.2.2.1 hP hD hS q0 3 qk 4 he rfl hv rfl hi hd (fun H1 locs1 hP1 hD1 hS1 => k H1 locs1 lsA hP1 hD1 hS1 hl)
theorem hw_alenq {p : Program} {l : Launch} {e : Env} {R : Room} {s : State} {m : MethodId} {args : Array Value} {below : List Frame} {meth : Method} {c : Code} {Z : State → Prop} {A : Nat → Prop} {cI : Nat → ClassId} {D : va_G} {own : String} {cc : ByteArray} {nL pc cells slots : Nat} {ws : va_W} {ls : List (Option Value)} {st : List Value} {a n : Nat} {f : Nat → Option Nat} (v : Int32) (q0 : Nat) (X : ow_X own cc nL p s m args meth c cI D) (he : ws[q0]? = some (a, .inl (cI 3, n, .inr (.inr (.inr (.inr f)))))) (hv : Int32.ofNat n = v) (hd : decode cc pc = .ok (.arraylength, 1)) (k : ow_H p l e R s m args below meth c Z A D nL ws cells slots (pc + 1) ls (.int v :: st)) : ow_H p l e R s m args below meth c Z A D nL ws cells slots pc ls (.ref a :: st) := by
  intro H locs lsA hP hD hS hl
  exact va_alen X.1 X.2.1 X.2.2.2.2.2.2.1 hP q0 3 he (ty := .object "OneWire$Sheet") rfl hv hd (k H locs lsA hP hD hS hl)
/-- a constructor's contract: the object at a holds e0; behind it the heap holds a world w1 of which 'post' speaks -/
def ow_rc (d mc ms : Nat) : Room := { frames := d, cells := mc, slots := ms, locals := 35 * d }
def ow_Pk (cI : Nat → ClassId) (D : va_G) (a sz : Nat) (e0 : va_E) : Array Value → State → Prop := fun v U => v = #[.ref a] ∧ U.heap.size = sz ∧ va_P D vwCl [(a, e0)] U.heap ∧ va_K D vwCl (ow_tys cI) U ∧ va_D (fun _ => True) [(a, e0)] ∧ (∀ w ∈ ow_nest, va_Nw w U) ∧ va_AO "OneWire$Sheet" U
def ow_Qk (D : va_G) (a sz : Nat) (e0 : va_E) (post : va_W → Prop) : Array Value → State → Outcome → State → Prop := fun _ st oc t => oc = .returned none ∧ ∃ w1 : va_W, post w1 ∧ va_P D vwCl w1 t.heap ∧ va_D (va_A [(a, e0)] sz) w1 ∧ va_F (va_A [(a, e0)] sz) st t
def ow_Ck (l : Launch) (d : Nat) (y : MethodName) (cc : ByteArray) (nL mc ms : Nat) (e0 : va_E) (post : (Nat → ClassId) → Nat → va_W → Prop) : Prop :=
  ∀ (cI : Nat → ClassId) (D : va_G) (a sz : Nat), Met l y (ow_ws y cc nL none) (ow_rc d mc ms) (ow_Pk cI D a sz e0) (ow_Qk D a sz e0 (post cI a)) mc ms (va_A [(a, e0)] sz)
theorem ow_enterK {l : Launch} {d : Nat} {y : MethodName} {cc : ByteArray} {nL mc ms : Nat} {e0 : va_E} {post : (Nat → ClassId) → Nat → va_W → Prop} {own : String} (ho : y.cls = own) (hy : plainName y.cls = true) (hnm : y.name = "<init>") (hn : Nat.ble 1 nL = true)
    (k : ∀ (p : Program) (e : Env) (s : State) (m : MethodId) (args : Array Value) (below : List Frame) (meth : Method) (c : Code) (cI : Nat → ClassId) (D : va_G) (a : Nat) (A : Nat → Prop), ow_X own cc nL p s m args meth c cI D → va_AO "OneWire$Sheet" s → meth.name = "<init>" → meth.sig.returnType = none → A = va_A [(a, e0)] s.heap.size → (∀ q, s.heap.size ≤ q → A q) → ow_H p l e (ow_rc d mc ms) s m args below meth c (MQ below (ow_Qk D a s.heap.size e0 (post cI a)) args s mc ms A) A D nL [(a, e0)] 0 0 0 (ow_ent nL [.ref a]) []) : ow_Ck l d y cc nL mc ms e0 post := by
  subst ho
  intro cI D a sz
  refine Met.ofW (cc := cc) (maxL := nL) (ret := none) hy rfl ?_
  intro p e s m args below meth c s₁ B hml hv
  obtain ⟨rfl, hsz, hP, hK, hD, hN, hO⟩ := hv
  subst hsz
  have hts := atoms_spec (ws := ow_ws y cc nL none) B.pre
  have hown : s.vm.findClass y.cls = some m.cls := findClass_of_methodNamed B.named
  have hin : meth.name = "<init>" := (name_of_methodNamed B.named B.method).1.trans hnm
  have hl := lv_entry ([.ref a]) (n := nL) (Nat.le_of_ble_eq_true hn)
  have e1 : ([Value.ref a].map (ow_v id)) = [Value.ref a] := rfl
  show W _ _ _ _ _ _ _ _ _ _ _ _ _ _ _ (entryFrame m ([Value.ref a] : List Value).toArray nL)
  rw [lg_entry_eq]
  refine k p e s m _ below meth c cI D a _ ⟨B.exec, B.bytes, hml, hown, fun w hw => hts w (List.mem_cons_of_mem _ hw), hN, hK, B.notSynchronized⟩ hO hin B.returns rfl (fun q h => Or.inr h) s.heap [] _ hP (hD.self) va_S.rf ?_
  unfold ow_ent
  have := ow_lv_args id [.ref a] 0 (List.replicate (nL - (lg_sl [Value.ref a]).length) none) (fun x hx => (List.mem_replicate.mp hx).2)
  rw [this]
  exact hl
theorem ow_rng (pre : va_W) (x : Nat × va_E) : (List.range pre.length).map (fun i => (pre ++ [x])[i]?) = pre.map some := by
  apply List.ext_getElem?
  intro i
  rw [List.getElem?_map, List.getElem?_map]
  by_cases h : i < pre.length
  · rw [List.getElem?_range h]
    show some ((pre ++ [x])[i]?) = _
    rw [List.getElem?_append_left h, List.getElem?_eq_getElem h]
    rfl
  · rw [List.getElem?_eq_none (by rw [List.length_range]; omega), List.getElem?_eq_none (by omega)]
    rfl
theorem ow_nd : ∀ (n k : Nat), va_nd (List.range' k n) = true := by
  intro n
  induction n with
  | zero => intro k; rfl
  | succ n ih =>
    intro k
    rw [List.range'_succ]
    unfold va_nd
    simp [ih, List.mem_range'_1]
def ow_okK (y : MethodName) (cc : ByteArray) (nL : Nat) : Prop := Cond.code y cc nL none ∈ ow_base ∧ Cond.initialized y.cls ∈ ow_base ∧ (y.cls ≠ "java/lang/invoke/MethodHandle" ∧ y.cls ≠ "java/lang/invoke/VarHandle") ∧ (parseMethodDescriptor y.desc).map (fun d => d.parameters.length) = some 0 ∧ y.name = "<init>" ∧ Cond.instanceMethod y ∈ ow_base
theorem ow_blindK {cI : Nat → ClassId} {D : va_G} {a sz : Nat} {e0 : va_E} : FrameBlind (ow_Pk cI D a sz e0) := by
  intro v U g mk h
  obtain ⟨h1, h2, h3, h4, h5, h6, h7⟩ := h
  exact ⟨h1, h2, h3, va_K.moved (u := U) (U := U.calling g mk v) (Vm.Alike.refl U.vm) h4, h5, ow_nest_same (u := U) rfl h6, va_AO.moved (u := U) (U := U.calling g mk v) (Vm.Alike.refl U.vm) h7⟩
theorem hw_call {p : Program} {l : Launch} {e : Env} {R : Room} {s : State} {m : MethodId} {args : Array Value} {below : List Frame} {meth : Method} {c : Code} {Z : State → Prop} {A : Nat → Prop} {cI : Nat → ClassId} {D : va_G} {own : String} {cc : ByteArray} {nL pc cells slots : Nat} {pre : va_W} {ls : List (Option Value)} {st : List Value} {idx d a nL2 mc ms : Nat} {y : MethodName} {cc2 : ByteArray} {e0 : va_E} {post : (Nat → ClassId) → Nat → va_W → Prop} (X : ow_X own cc nL p s m args meth c cI D) (hA : ∀ q, s.heap.size ≤ q → A q) (hO : va_AO "OneWire$Sheet" s) (hlk : ow_lk own idx y) (ok : ow_okK y cc2 nL2) (hM : ow_Ck l d y cc2 nL2 mc ms e0 post) (hf : Nat.ble (d + 1) R.frames = true) (hlo : Nat.ble (8 + (nL2 + 11) + 35 * d) R.locals = true) (hc : Nat.ble (cells + mc) R.cells = true) (hs : Nat.ble (slots + ms) R.slots = true) (hr : Nat.ble (st.map fun v => v.category).sum 8 = true) (hd : decode cc pc = .ok (.invokespecial idx, 3))
    (k : ∀ w1, post cI a w1 → ow_H p l e R s m args below meth c Z A D nL (pre ++ w1) (cells + mc) (slots + ms) (pc + 3) ls st) : ow_H p l e R s m args below meth c Z A D nL (pre ++ [(a, e0)]) cells slots pc ls (.ref a :: st) := by
  intro H locs lsA hP hD hS hl
  have hts := X.2.2.2.2.1
  have hlast : ([pre.length] : List Nat).map (fun i => (pre ++ [(a, e0)])[i]?) = [(a, e0)].map some := by simp
  have hPc : va_P D vwCl [(a, e0)] H := fun i q hq => hP (pre.length + i) q (by rw [List.getElem?_append_right (by omega), show pre.length + i - pre.length = i by omega]; exact hq)
  have hDc : va_D (fun _ => True) [(a, e0)] := ⟨fun i j p q h1 h2 _ => by
    have := (List.getElem?_eq_some_iff.mp h1).1
    have := (List.getElem?_eq_some_iff.mp h2).1
    simp at *
    omega, fun _ _ _ => trivial⟩
  have hFc := va_free (wc := [(a, e0)]) hD hS hA [pre.length] hlast
  have hpre : ∀ U : State, U.heap = H → s.WarmedH U.vm → ow_Pk cI D a H.size e0 (Value.ref a :: ([] : List Value)).toArray U := fun U hU hW => ⟨rfl, by rw [hU], by rw [hU]; exact hPc, va_K.moved hW.alike X.2.2.2.2.2.2.1, hDc, ow_nest_warm hW X.2.2.2.2.2.1, va_AO.moved hW.alike hO⟩
  have g1 := Nat.le_of_ble_eq_true hf
  have g2 := Nat.le_of_ble_eq_true hlo
  have fin : va_Run p l e R s m args below meth c H locs cells slots mc ms (F0 m pc lsA (.ref a :: st)) st (ow_Qk D a H.size e0 (post cI a) (Value.ref a :: ([] : List Value)).toArray) (va_A [(a, e0)] H.size) := by
    rcases hlk with hlk | ⟨host, hlk⟩
    · exact va_runI (As := []) (b := a) ⟨X.1, X.2.1, X.2.2.1, X.2.2.2.1, hts⟩ (hM cI D a H.size) ⟨callB_of 0 hts (ow_good ok.1) rfl rfl rfl (hts _ ok.2.1) (hts _ hlk) ⟨ok.2.2.1.1, ok.2.2.1.2, ok.2.2.2.1⟩ ⟨g1, g2⟩, ok.2.2.2.2.1, hts _ ok.2.2.2.2.2⟩ ⟨ow_blindK, hpre⟩ rfl rfl hl.1 rfl (lv_room (Nat.le_of_ble_eq_true hr)) hd ⟨Nat.le_of_ble_eq_true hc, Nat.le_of_ble_eq_true hs⟩
    · exact va_runIN (As := []) (b := a) ⟨X.1, X.2.1, X.2.2.1, X.2.2.2.1, hts⟩ (hM cI D a H.size) ⟨va_cnB 0 hts (ow_good ok.1) rfl rfl rfl (X.2.2.2.2.2.1 _ hlk) (hts _ ok.2.1) ⟨ok.2.2.1.1, ok.2.2.1.2, ok.2.2.2.1⟩ ⟨g1, g2⟩, ok.2.2.2.2.1, hts _ ok.2.2.2.2.2⟩ ⟨ow_blindK, hpre⟩ rfl rfl hl.1 rfl (lv_room (Nat.le_of_ble_eq_true hr)) hd ⟨Nat.le_of_ble_eq_true hc, Nat.le_of_ble_eq_true hs⟩
  intro T hT Y
  obtain ⟨v, st₀, t, T', L, h0, Y', hL, e1, e2, ⟨hv, w1, hq, hp, hd1, hz, hk⟩, stp⟩ := fin T hT Y
  have hv := Outcome.returned.inj hv
  subst hv
  rw [h0] at hz hk
  have hk' : ∀ q : Nat, q < H.size → ¬ va_A [(a, e0)] H.size q → T'.heap[q]? = H[q]? := fun q h1 h2 => by rw [e1]; exact hk q h1 h2
  obtain ⟨hP2, hD2⟩ := va_join (wr := pre) (w1 := w1) hP hD [pre.length] (List.range pre.length) hlast (ow_rng pre (a, e0)) (by rw [List.range_eq_range']; exact ow_nd _ _) (fun i hi => by simp at hi ⊢; omega) hk' hFc (by rw [e1]; exact hp) hd1
  obtain ⟨t2, a1, b1⟩ := k w1 hq T'.heap (locs ++ L) lsA hP2 hD2
    ⟨Nat.le_trans hS.1 (by rw [e1]; exact hz), fun q h1 h2 => by rw [hk' q (Nat.lt_of_lt_of_le h1 hS.1) (fun z => h2 (hFc q z))]; exact hS.2.1 q h1 h2, fun q hq => by
      rcases List.mem_append.mp hq with h | h
      · exact hS.2.2 q h
      · exact hFc _ (hL q h)⟩ hl T' rfl Y'
  exact ⟨t2, stp t2 a1, b1⟩
theorem hw_ret {p : Program} {l : Launch} {e : Env} {R : Room} {s : State} {m : MethodId} {args : Array Value} {below : List Frame} {meth : Method} {c : Code} {A : Nat → Prop} {cI : Nat → ClassId} {D : va_G} {own : String} {cc : ByteArray} {nL pc cells slots mc ms a : Nat} {ws : va_W} {ls : List (Option Value)} {e0 : va_E} {post : va_W → Prop} (X : ow_X own cc nL p s m args meth c cI D) (hr : meth.sig.returnType = none) (hAe : A = va_A [(a, e0)] s.heap.size) (hc : Nat.ble cells mc = true) (hs : Nat.ble slots ms = true) (hq : post ws) (hd : decode cc pc = .ok (.return_, 1)) : ow_H p l e R s m args below meth c (MQ below (ow_Qk D a s.heap.size e0 post) args s mc ms A) A D nL ws cells slots pc ls [] := by
  intro H locs lsA hP hD hS hl
  subst hAe
  refine W.widen (k := mc) (n := ms) (Nat.le_of_ble_eq_true hc) (Nat.le_of_ble_eq_true hs) ?_
  exact W.vret X.1 X.2.1 hr (fun t ht _ => ⟨rfl, ws, hq, by rw [ht]; exact hP, hD, hS.F ht⟩) hS.2.2 hd X.2.2.2.2.2.2.2
theorem hw_ws {p : Program} {l : Launch} {e : Env} {R : Room} {s : State} {m : MethodId} {args : Array Value} {below : List Frame} {meth : Method} {c : Code} {Z : State → Prop} {A : Nat → Prop} {D : va_G} {nL pc cells slots : Nat} {ws : va_W} {ls : List (Option Value)} {st : List Value} {ws2 : va_W} (h : ws = ws2) (k : ow_H p l e R s m args below meth c Z A D nL ws2 cells slots pc ls st) : ow_H p l e R s m args below meth c Z A D nL ws cells slots pc ls st := by
  subst h
  exact k
theorem hw_cs {p : Program} {l : Launch} {e : Env} {R : Room} {s : State} {m : MethodId} {args : Array Value} {below : List Frame} {meth : Method} {c : Code} {Z : State → Prop} {A : Nat → Prop} {D : va_G} {nL pc cells slots : Nat} {ws : va_W} {ls : List (Option Value)} {st : List Value} {c2 s2 : Nat} (h : cells = c2) (h2 : slots = s2) (k : ow_H p l e R s m args below meth c Z A D nL ws c2 s2 pc ls st) : ow_H p l e R s m args below meth c Z A D nL ws cells slots pc ls st := by
  subst h
  subst h2
  exact k
