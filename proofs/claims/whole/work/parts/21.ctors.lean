theorem mk_obj : Cond.instanceMethod Lib.objectInit ∈ ow_base ∧ Cond.code Lib.objectInit ⟨#[0xb1]⟩ 1 none ∈ ow_base := ⟨ow_mb 92 (by decide +kernel) rfl, ow_mb 93 (by decide +kernel) rfl⟩
theorem mk_arr_int : Cond.arrayClass .int ∈ ow_base := ow_mb 145 (by decide +kernel) rfl
theorem mk_arr_boolean : Cond.arrayClass .boolean ∈ ow_base := ow_mb 146 (by decide +kernel) rfl
theorem mk_arr_long : Cond.arrayClass .long ∈ ow_base := ow_mb 188 (by decide +kernel) rfl
theorem ff0_22 : ow_ff RX0 22 0 3 (.array .int) := ⟨RX0, TX0, 8, rfl, cfX0, by decide, rfl, rfl, rfl, by decide +kernel, ow_mb 114 (by decide +kernel) rfl⟩
theorem ff0_26 : ow_ff RX0 26 0 4 (.array .int) := ⟨RX0, TX0, 8, rfl, cfX0, by decide, rfl, rfl, rfl, by decide +kernel, ow_mb 116 (by decide +kernel) rfl⟩
theorem ff0_29 : ow_ff RX0 29 0 5 (.array .int) := ⟨RX0, TX0, 8, rfl, cfX0, by decide, rfl, rfl, rfl, by decide +kernel, ow_mb 119 (by decide +kernel) rfl⟩
theorem ff0_32 : ow_ff RX0 32 0 6 (.array .int) := ⟨RX0, TX0, 8, rfl, cfX0, by decide, rfl, rfl, rfl, by decide +kernel, ow_mb 122 (by decide +kernel) rfl⟩
theorem ff0_35 : ow_ff RX0 35 0 7 (.array .boolean) := ⟨RX0, TX0, 8, rfl, cfX0, by decide, rfl, rfl, rfl, by decide +kernel, ow_mb 126 (by decide +kernel) rfl⟩
theorem lo0_3 : Cond.methodLink RX0 3 Lib.objectInit ∈ ow_base := ow_mb 101 (by decide +kernel) rfl
set_option maxRecDepth 20000 in
theorem mkK0 : ow_okK yX0_init cX0_init 1 := ⟨ow_mb 100 rfl rfl, ow_mb 75 (by decide +kernel) rfl, ⟨by decide, by decide⟩, by decide +kernel, rfl, ow_mb 99 (by decide +kernel) rfl⟩
def pkX0 (cI : Nat → ClassId) (a : Nat) (w : va_W) : Prop := ∃ (q1 q2 q3 q4 q5 : Nat), w = [(a, .inr (0, [.int 0, .int 0, .int 0, .ref q1, .ref q2, .ref q3, .ref q4, .ref q5])), (q1, .inl (cI 0, 7, .inl (fun _ => 0))), (q2, .inl (cI 0, 7, .inl (fun _ => 0))), (q3, .inl (cI 0, 7, .inl (fun _ => 0))), (q4, .inl (cI 0, 7, .inl (fun _ => 0))), (q5, .inl (cI 1, 7, .inl (fun _ => 0)))]
set_option maxRecDepth 100000 in
set_option maxHeartbeats 4000000 in
theorem cK0 (l : Launch) : ow_Ck l 1 yX0_init cX0_init 1 5 35 (.inr (0, [.int 0, .int 0, .int 0, .null, .null, .null, .null, .null])) pkX0 := by
  refine ow_enterK (own := RX0) rfl (by decide +kernel) rfl rfl ?_
  intro p e s m args below meth c cI D a A X hO hin hr hAe hA
  show ow_H p l e (ow_rc 1 5 35) s m args below meth c _ A D 1 [(a, .inr (0, [.int 0, .int 0, .int 0, .null, .null, .null, .null, .null]))] 0 0 0 [some (.ref a)] []
  refine hw_aload0 X dX0_init_0 ?_
  refine hw_obj X lo0_3 mk_obj rfl rfl dX0_init_1 ?_
  refine hw_aload0 X dX0_init_4 ?_
  refine hw_iconst 0 (by decide) X dX0_init_5 ?_
  refine hw_putI 0 X fkX0_9 fp0_0 rfl rfl (by decide +kernel) (by decide +kernel) dX0_init_6 ?_
  refine hw_ws (ws2 := [(a, .inr (0, [.int 0, .int 0, .int 0, .null, .null, .null, .null, .null]))]) rfl ?_
  refine hw_aload0 X dX0_init_9 ?_
  refine hw_iconst 0 (by decide) X dX0_init_10 ?_
  refine hw_putI 0 X fkX0_15 fp0_1 rfl rfl (by decide +kernel) (by decide +kernel) dX0_init_11 ?_
  refine hw_ws (ws2 := [(a, .inr (0, [.int 0, .int 0, .int 0, .null, .null, .null, .null, .null]))]) rfl ?_
  refine hw_aload0 X dX0_init_14 ?_
  refine hw_iconst 0 (by decide) X dX0_init_15 ?_
  refine hw_putI 0 X fkX0_18 fp0_2 rfl rfl (by decide +kernel) (by decide +kernel) dX0_init_16 ?_
  refine hw_ws (ws2 := [(a, .inr (0, [.int 0, .int 0, .int 0, .null, .null, .null, .null, .null]))]) rfl ?_
  refine hw_aload0 X dX0_init_19 ?_
  refine hw_bipush 7 (by decide) X dX0_init_20 ?_
  refine hw_newa0 7 X hA mk_arr_int (by decide) (by decide) rfl rfl rfl dX0_init_22 (fun q1 => ?_)
  refine hw_ws (ws2 := [(a, .inr (0, [.int 0, .int 0, .int 0, .null, .null, .null, .null, .null])), (q1, .inl (cI 0, 7, .inl (fun _ => 0)))]) rfl ?_
  refine hw_cs (c2 := 1) (s2 := 7) rfl rfl ?_
  refine hw_putF 0 X hin ff0_22 rfl rfl rfl rfl dX0_init_24 ?_
  refine hw_ws (ws2 := [(a, .inr (0, [.int 0, .int 0, .int 0, .ref q1, .null, .null, .null, .null])), (q1, .inl (cI 0, 7, .inl (fun _ => 0)))]) rfl ?_
  refine hw_aload0 X dX0_init_27 ?_
  refine hw_bipush 7 (by decide) X dX0_init_28 ?_
  refine hw_newa0 7 X hA mk_arr_int (by decide) (by decide) rfl rfl rfl dX0_init_30 (fun q2 => ?_)
  refine hw_ws (ws2 := [(a, .inr (0, [.int 0, .int 0, .int 0, .ref q1, .null, .null, .null, .null])), (q1, .inl (cI 0, 7, .inl (fun _ => 0))), (q2, .inl (cI 0, 7, .inl (fun _ => 0)))]) rfl ?_
  refine hw_cs (c2 := 2) (s2 := 14) rfl rfl ?_
  refine hw_putF 0 X hin ff0_26 rfl rfl rfl rfl dX0_init_32 ?_
  refine hw_ws (ws2 := [(a, .inr (0, [.int 0, .int 0, .int 0, .ref q1, .ref q2, .null, .null, .null])), (q1, .inl (cI 0, 7, .inl (fun _ => 0))), (q2, .inl (cI 0, 7, .inl (fun _ => 0)))]) rfl ?_
  refine hw_aload0 X dX0_init_35 ?_
  refine hw_bipush 7 (by decide) X dX0_init_36 ?_
  refine hw_newa0 7 X hA mk_arr_int (by decide) (by decide) rfl rfl rfl dX0_init_38 (fun q3 => ?_)
  refine hw_ws (ws2 := [(a, .inr (0, [.int 0, .int 0, .int 0, .ref q1, .ref q2, .null, .null, .null])), (q1, .inl (cI 0, 7, .inl (fun _ => 0))), (q2, .inl (cI 0, 7, .inl (fun _ => 0))), (q3, .inl (cI 0, 7, .inl (fun _ => 0)))]) rfl ?_
  refine hw_cs (c2 := 3) (s2 := 21) rfl rfl ?_
  refine hw_putF 0 X hin ff0_29 rfl rfl rfl rfl dX0_init_40 ?_
  refine hw_ws (ws2 := [(a, .inr (0, [.int 0, .int 0, .int 0, .ref q1, .ref q2, .ref q3, .null, .null])), (q1, .inl (cI 0, 7, .inl (fun _ => 0))), (q2, .inl (cI 0, 7, .inl (fun _ => 0))), (q3, .inl (cI 0, 7, .inl (fun _ => 0)))]) rfl ?_
  refine hw_aload0 X dX0_init_43 ?_
  refine hw_bipush 7 (by decide) X dX0_init_44 ?_
  refine hw_newa0 7 X hA mk_arr_int (by decide) (by decide) rfl rfl rfl dX0_init_46 (fun q4 => ?_)
  refine hw_ws (ws2 := [(a, .inr (0, [.int 0, .int 0, .int 0, .ref q1, .ref q2, .ref q3, .null, .null])), (q1, .inl (cI 0, 7, .inl (fun _ => 0))), (q2, .inl (cI 0, 7, .inl (fun _ => 0))), (q3, .inl (cI 0, 7, .inl (fun _ => 0))), (q4, .inl (cI 0, 7, .inl (fun _ => 0)))]) rfl ?_
  refine hw_cs (c2 := 4) (s2 := 28) rfl rfl ?_
  refine hw_putF 0 X hin ff0_32 rfl rfl rfl rfl dX0_init_48 ?_
  refine hw_ws (ws2 := [(a, .inr (0, [.int 0, .int 0, .int 0, .ref q1, .ref q2, .ref q3, .ref q4, .null])), (q1, .inl (cI 0, 7, .inl (fun _ => 0))), (q2, .inl (cI 0, 7, .inl (fun _ => 0))), (q3, .inl (cI 0, 7, .inl (fun _ => 0))), (q4, .inl (cI 0, 7, .inl (fun _ => 0)))]) rfl ?_
  refine hw_aload0 X dX0_init_51 ?_
  refine hw_bipush 7 (by decide) X dX0_init_52 ?_
  refine hw_newa1 7 X hA mk_arr_boolean (by decide) (by decide) rfl rfl rfl dX0_init_54 (fun q5 => ?_)
  refine hw_ws (ws2 := [(a, .inr (0, [.int 0, .int 0, .int 0, .ref q1, .ref q2, .ref q3, .ref q4, .null])), (q1, .inl (cI 0, 7, .inl (fun _ => 0))), (q2, .inl (cI 0, 7, .inl (fun _ => 0))), (q3, .inl (cI 0, 7, .inl (fun _ => 0))), (q4, .inl (cI 0, 7, .inl (fun _ => 0))), (q5, .inl (cI 1, 7, .inl (fun _ => 0)))]) rfl ?_
  refine hw_cs (c2 := 5) (s2 := 35) rfl rfl ?_
  refine hw_putF 0 X hin ff0_35 rfl rfl rfl rfl dX0_init_56 ?_
  refine hw_ws (ws2 := [(a, .inr (0, [.int 0, .int 0, .int 0, .ref q1, .ref q2, .ref q3, .ref q4, .ref q5])), (q1, .inl (cI 0, 7, .inl (fun _ => 0))), (q2, .inl (cI 0, 7, .inl (fun _ => 0))), (q3, .inl (cI 0, 7, .inl (fun _ => 0))), (q4, .inl (cI 0, 7, .inl (fun _ => 0))), (q5, .inl (cI 1, 7, .inl (fun _ => 0)))]) rfl ?_
  exact hw_ret X hr hAe rfl rfl ⟨q1, q2, q3, q4, q5, rfl⟩ dX0_init_59

theorem ff1_9 : ow_ff RX1 9 1 0 (.array .int) := ⟨RX1, TX1, 1, rfl, cfX1, by decide, rfl, rfl, rfl, by decide +kernel, ow_mb 208 (by decide +kernel) rfl⟩
theorem lo1_3 : Cond.methodLink RX1 3 Lib.objectInit ∈ ow_base := ow_mb 207 (by decide +kernel) rfl
set_option maxRecDepth 20000 in
theorem mkK1 : ow_okK yX1_init cX1_init 1 := ⟨ow_mb 206 rfl rfl, ow_mb 79 (by decide +kernel) rfl, ⟨by decide, by decide⟩, by decide +kernel, rfl, ow_mb 205 (by decide +kernel) rfl⟩
def pkX1 (cI : Nat → ClassId) (a : Nat) (w : va_W) : Prop := ∃ (q1 : Nat), w = [(a, .inr (1, [.ref q1])), (q1, .inl (cI 0, 128, .inl (fun _ => 0)))]
set_option maxRecDepth 100000 in
set_option maxHeartbeats 4000000 in
theorem cK1 (l : Launch) : ow_Ck l 1 yX1_init cX1_init 1 1 128 (.inr (1, [.null])) pkX1 := by
  refine ow_enterK (own := RX1) rfl (by decide +kernel) rfl rfl ?_
  intro p e s m args below meth c cI D a A X hO hin hr hAe hA
  show ow_H p l e (ow_rc 1 1 128) s m args below meth c _ A D 1 [(a, .inr (1, [.null]))] 0 0 0 [some (.ref a)] []
  refine hw_aload0 X dX1_init_0 ?_
  refine hw_obj X lo1_3 mk_obj rfl rfl dX1_init_1 ?_
  refine hw_aload0 X dX1_init_4 ?_
  refine hw_sipush 128 (by decide) X dX1_init_5 ?_
  refine hw_newa0 128 X hA mk_arr_int (by decide) (by decide) rfl rfl rfl dX1_init_8 (fun q1 => ?_)
  refine hw_ws (ws2 := [(a, .inr (1, [.null])), (q1, .inl (cI 0, 128, .inl (fun _ => 0)))]) rfl ?_
  refine hw_cs (c2 := 1) (s2 := 128) rfl rfl ?_
  refine hw_putF 0 X hin ff1_9 rfl rfl rfl rfl dX1_init_10 ?_
  refine hw_ws (ws2 := [(a, .inr (1, [.ref q1])), (q1, .inl (cI 0, 128, .inl (fun _ => 0)))]) rfl ?_
  exact hw_ret X hr hAe rfl rfl ⟨q1, rfl⟩ dX1_init_13

theorem ff2_9 : ow_ff RX2 9 2 0 (.array .int) := ⟨RX2, TX2, 2, rfl, cfX2, by decide, rfl, rfl, rfl, by decide +kernel, ow_mb 195 (by decide +kernel) rfl⟩
theorem ff2_15 : ow_ff RX2 15 2 1 (.array .int) := ⟨RX2, TX2, 2, rfl, cfX2, by decide, rfl, rfl, rfl, by decide +kernel, ow_mb 196 (by decide +kernel) rfl⟩
theorem lo2_3 : Cond.methodLink RX2 3 Lib.objectInit ∈ ow_base := ow_mb 194 (by decide +kernel) rfl
set_option maxRecDepth 20000 in
theorem mkK2 : ow_okK yX2_init cX2_init 1 := ⟨ow_mb 193 rfl rfl, ow_mb 78 (by decide +kernel) rfl, ⟨by decide, by decide⟩, by decide +kernel, rfl, ow_mb 192 (by decide +kernel) rfl⟩
def pkX2 (cI : Nat → ClassId) (a : Nat) (w : va_W) : Prop := ∃ (q1 q2 : Nat), w = [(a, .inr (2, [.ref q1, .ref q2])), (q1, .inl (cI 0, 7, .inl (fun _ => 0))), (q2, .inl (cI 0, 128, .inl (fun _ => 0)))]
set_option maxRecDepth 100000 in
set_option maxHeartbeats 4000000 in
theorem cK2 (l : Launch) : ow_Ck l 1 yX2_init cX2_init 1 2 135 (.inr (2, [.null, .null])) pkX2 := by
  refine ow_enterK (own := RX2) rfl (by decide +kernel) rfl rfl ?_
  intro p e s m args below meth c cI D a A X hO hin hr hAe hA
  show ow_H p l e (ow_rc 1 2 135) s m args below meth c _ A D 1 [(a, .inr (2, [.null, .null]))] 0 0 0 [some (.ref a)] []
  refine hw_aload0 X dX2_init_0 ?_
  refine hw_obj X lo2_3 mk_obj rfl rfl dX2_init_1 ?_
  refine hw_aload0 X dX2_init_4 ?_
  refine hw_bipush 7 (by decide) X dX2_init_5 ?_
  refine hw_newa0 7 X hA mk_arr_int (by decide) (by decide) rfl rfl rfl dX2_init_7 (fun q1 => ?_)
  refine hw_ws (ws2 := [(a, .inr (2, [.null, .null])), (q1, .inl (cI 0, 7, .inl (fun _ => 0)))]) rfl ?_
  refine hw_cs (c2 := 1) (s2 := 7) rfl rfl ?_
  refine hw_putF 0 X hin ff2_9 rfl rfl rfl rfl dX2_init_9 ?_
  refine hw_ws (ws2 := [(a, .inr (2, [.ref q1, .null])), (q1, .inl (cI 0, 7, .inl (fun _ => 0)))]) rfl ?_
  refine hw_aload0 X dX2_init_12 ?_
  refine hw_sipush 128 (by decide) X dX2_init_13 ?_
  refine hw_newa0 128 X hA mk_arr_int (by decide) (by decide) rfl rfl rfl dX2_init_16 (fun q2 => ?_)
  refine hw_ws (ws2 := [(a, .inr (2, [.ref q1, .null])), (q1, .inl (cI 0, 7, .inl (fun _ => 0))), (q2, .inl (cI 0, 128, .inl (fun _ => 0)))]) rfl ?_
  refine hw_cs (c2 := 2) (s2 := 135) rfl rfl ?_
  refine hw_putF 0 X hin ff2_15 rfl rfl rfl rfl dX2_init_18 ?_
  refine hw_ws (ws2 := [(a, .inr (2, [.ref q1, .ref q2])), (q1, .inl (cI 0, 7, .inl (fun _ => 0))), (q2, .inl (cI 0, 128, .inl (fun _ => 0)))]) rfl ?_
  exact hw_ret X hr hAe rfl rfl ⟨q1, q2, rfl⟩ dX2_init_21

theorem ff3_15 : ow_ff RX3 15 3 1 (.array .int) := ⟨RX3, TX3, 5, rfl, cfX3, by decide, rfl, rfl, rfl, by decide +kernel, ow_mb 220 (by decide +kernel) rfl⟩
theorem ff3_19 : ow_ff RX3 19 3 2 (.array .int) := ⟨RX3, TX3, 5, rfl, cfX3, by decide, rfl, rfl, rfl, by decide +kernel, ow_mb 221 (by decide +kernel) rfl⟩
theorem ff3_22 : ow_ff RX3 22 3 3 (.array .int) := ⟨RX3, TX3, 5, rfl, cfX3, by decide, rfl, rfl, rfl, by decide +kernel, ow_mb 222 (by decide +kernel) rfl⟩
theorem ff3_25 : ow_ff RX3 25 3 4 (.array .int) := ⟨RX3, TX3, 5, rfl, cfX3, by decide, rfl, rfl, rfl, by decide +kernel, ow_mb 223 (by decide +kernel) rfl⟩
theorem lo3_3 : Cond.methodLink RX3 3 Lib.objectInit ∈ ow_base := ow_mb 217 (by decide +kernel) rfl
set_option maxRecDepth 20000 in
theorem mkK3 : ow_okK yX3_init cX3_init 1 := ⟨ow_mb 216 rfl rfl, ow_mb 80 (by decide +kernel) rfl, ⟨by decide, by decide⟩, by decide +kernel, rfl, ow_mb 215 (by decide +kernel) rfl⟩
def pkX3 (cI : Nat → ClassId) (a : Nat) (w : va_W) : Prop := ∃ (q1 q2 q3 q4 : Nat), w = [(a, .inr (3, [.int 0, .ref q1, .ref q2, .ref q3, .ref q4])), (q1, .inl (cI 0, 8, .inl (fun _ => 0))), (q2, .inl (cI 0, 8, .inl (fun _ => 0))), (q3, .inl (cI 0, 8, .inl (fun _ => 0))), (q4, .inl (cI 0, 8, .inl (fun _ => 0)))]
set_option maxRecDepth 100000 in
set_option maxHeartbeats 4000000 in
theorem cK3 (l : Launch) : ow_Ck l 1 yX3_init cX3_init 1 4 32 (.inr (3, [.int 0, .null, .null, .null, .null])) pkX3 := by
  refine ow_enterK (own := RX3) rfl (by decide +kernel) rfl rfl ?_
  intro p e s m args below meth c cI D a A X hO hin hr hAe hA
  show ow_H p l e (ow_rc 1 4 32) s m args below meth c _ A D 1 [(a, .inr (3, [.int 0, .null, .null, .null, .null]))] 0 0 0 [some (.ref a)] []
  refine hw_aload0 X dX3_init_0 ?_
  refine hw_obj X lo3_3 mk_obj rfl rfl dX3_init_1 ?_
  refine hw_aload0 X dX3_init_4 ?_
  refine hw_iconst 0 (by decide) X dX3_init_5 ?_
  refine hw_putI 0 X fkX3_9 fp3_0 rfl rfl (by decide +kernel) (by decide +kernel) dX3_init_6 ?_
  refine hw_ws (ws2 := [(a, .inr (3, [.int 0, .null, .null, .null, .null]))]) rfl ?_
  refine hw_aload0 X dX3_init_9 ?_
  refine hw_bipush 8 (by decide) X dX3_init_10 ?_
  refine hw_newa0 8 X hA mk_arr_int (by decide) (by decide) rfl rfl rfl dX3_init_12 (fun q1 => ?_)
  refine hw_ws (ws2 := [(a, .inr (3, [.int 0, .null, .null, .null, .null])), (q1, .inl (cI 0, 8, .inl (fun _ => 0)))]) rfl ?_
  refine hw_cs (c2 := 1) (s2 := 8) rfl rfl ?_
  refine hw_putF 0 X hin ff3_15 rfl rfl rfl rfl dX3_init_14 ?_
  refine hw_ws (ws2 := [(a, .inr (3, [.int 0, .ref q1, .null, .null, .null])), (q1, .inl (cI 0, 8, .inl (fun _ => 0)))]) rfl ?_
  refine hw_aload0 X dX3_init_17 ?_
  refine hw_bipush 8 (by decide) X dX3_init_18 ?_
  refine hw_newa0 8 X hA mk_arr_int (by decide) (by decide) rfl rfl rfl dX3_init_20 (fun q2 => ?_)
  refine hw_ws (ws2 := [(a, .inr (3, [.int 0, .ref q1, .null, .null, .null])), (q1, .inl (cI 0, 8, .inl (fun _ => 0))), (q2, .inl (cI 0, 8, .inl (fun _ => 0)))]) rfl ?_
  refine hw_cs (c2 := 2) (s2 := 16) rfl rfl ?_
  refine hw_putF 0 X hin ff3_19 rfl rfl rfl rfl dX3_init_22 ?_
  refine hw_ws (ws2 := [(a, .inr (3, [.int 0, .ref q1, .ref q2, .null, .null])), (q1, .inl (cI 0, 8, .inl (fun _ => 0))), (q2, .inl (cI 0, 8, .inl (fun _ => 0)))]) rfl ?_
  refine hw_aload0 X dX3_init_25 ?_
  refine hw_bipush 8 (by decide) X dX3_init_26 ?_
  refine hw_newa0 8 X hA mk_arr_int (by decide) (by decide) rfl rfl rfl dX3_init_28 (fun q3 => ?_)
  refine hw_ws (ws2 := [(a, .inr (3, [.int 0, .ref q1, .ref q2, .null, .null])), (q1, .inl (cI 0, 8, .inl (fun _ => 0))), (q2, .inl (cI 0, 8, .inl (fun _ => 0))), (q3, .inl (cI 0, 8, .inl (fun _ => 0)))]) rfl ?_
  refine hw_cs (c2 := 3) (s2 := 24) rfl rfl ?_
  refine hw_putF 0 X hin ff3_22 rfl rfl rfl rfl dX3_init_30 ?_
  refine hw_ws (ws2 := [(a, .inr (3, [.int 0, .ref q1, .ref q2, .ref q3, .null])), (q1, .inl (cI 0, 8, .inl (fun _ => 0))), (q2, .inl (cI 0, 8, .inl (fun _ => 0))), (q3, .inl (cI 0, 8, .inl (fun _ => 0)))]) rfl ?_
  refine hw_aload0 X dX3_init_33 ?_
  refine hw_bipush 8 (by decide) X dX3_init_34 ?_
  refine hw_newa0 8 X hA mk_arr_int (by decide) (by decide) rfl rfl rfl dX3_init_36 (fun q4 => ?_)
  refine hw_ws (ws2 := [(a, .inr (3, [.int 0, .ref q1, .ref q2, .ref q3, .null])), (q1, .inl (cI 0, 8, .inl (fun _ => 0))), (q2, .inl (cI 0, 8, .inl (fun _ => 0))), (q3, .inl (cI 0, 8, .inl (fun _ => 0))), (q4, .inl (cI 0, 8, .inl (fun _ => 0)))]) rfl ?_
  refine hw_cs (c2 := 4) (s2 := 32) rfl rfl ?_
  refine hw_putF 0 X hin ff3_25 rfl rfl rfl rfl dX3_init_38 ?_
  refine hw_ws (ws2 := [(a, .inr (3, [.int 0, .ref q1, .ref q2, .ref q3, .ref q4])), (q1, .inl (cI 0, 8, .inl (fun _ => 0))), (q2, .inl (cI 0, 8, .inl (fun _ => 0))), (q3, .inl (cI 0, 8, .inl (fun _ => 0))), (q4, .inl (cI 0, 8, .inl (fun _ => 0)))]) rfl ?_
  exact hw_ret X hr hAe rfl rfl ⟨q1, q2, q3, q4, rfl⟩ dX3_init_41

theorem ff4_22 : ow_ff RX4 22 4 3 (.array .int) := ⟨RX4, TX4, 4, rfl, cfX4, by decide, rfl, rfl, rfl, by decide +kernel, ow_mb 245 (by decide +kernel) rfl⟩
theorem lo4_3 : Cond.methodLink RX4 3 Lib.objectInit ∈ ow_base := ow_mb 239 (by decide +kernel) rfl
set_option maxRecDepth 20000 in
theorem mkK4 : ow_okK yX4_init cX4_init 1 := ⟨ow_mb 238 rfl rfl, ow_mb 81 (by decide +kernel) rfl, ⟨by decide, by decide⟩, by decide +kernel, rfl, ow_mb 237 (by decide +kernel) rfl⟩
def pkX4 (cI : Nat → ClassId) (a : Nat) (w : va_W) : Prop := ∃ (q1 : Nat), w = [(a, .inr (4, [.int 0, .int 0, .int 0, .ref q1])), (q1, .inl (cI 0, 50, .inl (fun _ => 0)))]
set_option maxRecDepth 100000 in
set_option maxHeartbeats 4000000 in
theorem cK4 (l : Launch) : ow_Ck l 1 yX4_init cX4_init 1 1 50 (.inr (4, [.int 0, .int 0, .int 0, .null])) pkX4 := by
  refine ow_enterK (own := RX4) rfl (by decide +kernel) rfl rfl ?_
  intro p e s m args below meth c cI D a A X hO hin hr hAe hA
  show ow_H p l e (ow_rc 1 1 50) s m args below meth c _ A D 1 [(a, .inr (4, [.int 0, .int 0, .int 0, .null]))] 0 0 0 [some (.ref a)] []
  refine hw_aload0 X dX4_init_0 ?_
  refine hw_obj X lo4_3 mk_obj rfl rfl dX4_init_1 ?_
  refine hw_aload0 X dX4_init_4 ?_
  refine hw_iconst 0 (by decide) X dX4_init_5 ?_
  refine hw_putI 0 X fkX4_9 fp4_0 rfl rfl (by decide +kernel) (by decide +kernel) dX4_init_6 ?_
  refine hw_ws (ws2 := [(a, .inr (4, [.int 0, .int 0, .int 0, .null]))]) rfl ?_
  refine hw_aload0 X dX4_init_9 ?_
  refine hw_iconst 0 (by decide) X dX4_init_10 ?_
  refine hw_putI 0 X fkX4_15 fp4_1 rfl rfl (by decide +kernel) (by decide +kernel) dX4_init_11 ?_
  refine hw_ws (ws2 := [(a, .inr (4, [.int 0, .int 0, .int 0, .null]))]) rfl ?_
  refine hw_aload0 X dX4_init_14 ?_
  refine hw_iconst 0 (by decide) X dX4_init_15 ?_
  refine hw_putI 0 X fkX4_19 fp4_2 rfl rfl (by decide +kernel) (by decide +kernel) dX4_init_16 ?_
  refine hw_ws (ws2 := [(a, .inr (4, [.int 0, .int 0, .int 0, .null]))]) rfl ?_
  refine hw_aload0 X dX4_init_19 ?_
  refine hw_bipush 50 (by decide) X dX4_init_20 ?_
  refine hw_newa0 50 X hA mk_arr_int (by decide) (by decide) rfl rfl rfl dX4_init_22 (fun q1 => ?_)
  refine hw_ws (ws2 := [(a, .inr (4, [.int 0, .int 0, .int 0, .null])), (q1, .inl (cI 0, 50, .inl (fun _ => 0)))]) rfl ?_
  refine hw_cs (c2 := 1) (s2 := 50) rfl rfl ?_
  refine hw_putF 0 X hin ff4_22 rfl rfl rfl rfl dX4_init_24 ?_
  refine hw_ws (ws2 := [(a, .inr (4, [.int 0, .int 0, .int 0, .ref q1])), (q1, .inl (cI 0, 50, .inl (fun _ => 0)))]) rfl ?_
  exact hw_ret X hr hAe rfl rfl ⟨q1, rfl⟩ dX4_init_27

theorem ff5_9 : ow_ff RX5 9 5 0 (.array .int) := ⟨RX5, TX5, 2, rfl, cfX5, by decide, rfl, rfl, rfl, by decide +kernel, ow_mb 153 (by decide +kernel) rfl⟩
theorem ff5_15 : ow_ff RX5 15 5 1 (.array .int) := ⟨RX5, TX5, 2, rfl, cfX5, by decide, rfl, rfl, rfl, by decide +kernel, ow_mb 156 (by decide +kernel) rfl⟩
theorem lo5_3 : Cond.methodLink RX5 3 Lib.objectInit ∈ ow_base := ow_mb 152 (by decide +kernel) rfl
set_option maxRecDepth 20000 in
theorem mkK5 : ow_okK yX5_init cX5_init 1 := ⟨ow_mb 151 rfl rfl, ow_mb 76 (by decide +kernel) rfl, ⟨by decide, by decide⟩, by decide +kernel, rfl, ow_mb 150 (by decide +kernel) rfl⟩
def pkX5 (cI : Nat → ClassId) (a : Nat) (w : va_W) : Prop := ∃ (q1 q2 : Nat), w = [(a, .inr (5, [.ref q1, .ref q2])), (q1, .inl (cI 0, 7, .inl (fun _ => 0))), (q2, .inl (cI 0, 7, .inl (fun _ => 0)))]
set_option maxRecDepth 100000 in
set_option maxHeartbeats 4000000 in
theorem cK5 (l : Launch) : ow_Ck l 1 yX5_init cX5_init 1 2 14 (.inr (5, [.null, .null])) pkX5 := by
  refine ow_enterK (own := RX5) rfl (by decide +kernel) rfl rfl ?_
  intro p e s m args below meth c cI D a A X hO hin hr hAe hA
  show ow_H p l e (ow_rc 1 2 14) s m args below meth c _ A D 1 [(a, .inr (5, [.null, .null]))] 0 0 0 [some (.ref a)] []
  refine hw_aload0 X dX5_init_0 ?_
  refine hw_obj X lo5_3 mk_obj rfl rfl dX5_init_1 ?_
  refine hw_aload0 X dX5_init_4 ?_
  refine hw_bipush 7 (by decide) X dX5_init_5 ?_
  refine hw_newa0 7 X hA mk_arr_int (by decide) (by decide) rfl rfl rfl dX5_init_7 (fun q1 => ?_)
  refine hw_ws (ws2 := [(a, .inr (5, [.null, .null])), (q1, .inl (cI 0, 7, .inl (fun _ => 0)))]) rfl ?_
  refine hw_cs (c2 := 1) (s2 := 7) rfl rfl ?_
  refine hw_putF 0 X hin ff5_9 rfl rfl rfl rfl dX5_init_9 ?_
  refine hw_ws (ws2 := [(a, .inr (5, [.ref q1, .null])), (q1, .inl (cI 0, 7, .inl (fun _ => 0)))]) rfl ?_
  refine hw_aload0 X dX5_init_12 ?_
  refine hw_bipush 7 (by decide) X dX5_init_13 ?_
  refine hw_newa0 7 X hA mk_arr_int (by decide) (by decide) rfl rfl rfl dX5_init_15 (fun q2 => ?_)
  refine hw_ws (ws2 := [(a, .inr (5, [.ref q1, .null])), (q1, .inl (cI 0, 7, .inl (fun _ => 0))), (q2, .inl (cI 0, 7, .inl (fun _ => 0)))]) rfl ?_
  refine hw_cs (c2 := 2) (s2 := 14) rfl rfl ?_
  refine hw_putF 0 X hin ff5_15 rfl rfl rfl rfl dX5_init_17 ?_
  refine hw_ws (ws2 := [(a, .inr (5, [.ref q1, .ref q2])), (q1, .inl (cI 0, 7, .inl (fun _ => 0))), (q2, .inl (cI 0, 7, .inl (fun _ => 0)))]) rfl ?_
  exact hw_ret X hr hAe rfl rfl ⟨q1, q2, rfl⟩ dX5_init_20

theorem ff6_11 : ow_ff RX6 11 6 0 (.array .long) := ⟨RX6, TX6, 6, rfl, cfX6, by decide, rfl, rfl, rfl, by decide +kernel, ow_mb 169 (by decide +kernel) rfl⟩
theorem ff6_15 : ow_ff RX6 15 6 1 (.array .int) := ⟨RX6, TX6, 6, rfl, cfX6, by decide, rfl, rfl, rfl, by decide +kernel, ow_mb 170 (by decide +kernel) rfl⟩
theorem ff6_23 : ow_ff RX6 23 6 3 (.array .int) := ⟨RX6, TX6, 6, rfl, cfX6, by decide, rfl, rfl, rfl, by decide +kernel, ow_mb 172 (by decide +kernel) rfl⟩
theorem ff6_29 : ow_ff RX6 29 6 5 (.array .int) := ⟨RX6, TX6, 6, rfl, cfX6, by decide, rfl, rfl, rfl, by decide +kernel, ow_mb 174 (by decide +kernel) rfl⟩
theorem lo6_5 : Cond.methodLink RX6 5 Lib.objectInit ∈ ow_base := ow_mb 168 (by decide +kernel) rfl
set_option maxRecDepth 20000 in
theorem mkK6 : ow_okK yX6_init cX6_init 1 := ⟨ow_mb 167 rfl rfl, ow_mb 77 (by decide +kernel) rfl, ⟨by decide, by decide⟩, by decide +kernel, rfl, ow_mb 166 (by decide +kernel) rfl⟩
def pkX6 (cI : Nat → ClassId) (a : Nat) (w : va_W) : Prop := ∃ (q1 q2 q3 q4 : Nat), w = [(a, .inr (6, [.ref q1, .ref q2, .int 0, .ref q3, .int 0, .ref q4])), (q1, .inl (cI 2, 256, .inr (.inl (fun _ => 0)))), (q2, .inl (cI 0, 630, .inl (fun _ => 0))), (q3, .inl (cI 0, 128, .inl (fun _ => 0))), (q4, .inl (cI 0, 128, .inl (fun _ => 0)))]
set_option maxRecDepth 100000 in
set_option maxHeartbeats 4000000 in
theorem cK6 (l : Launch) : ow_Ck l 1 yX6_init cX6_init 1 4 1142 (.inr (6, [.null, .null, .int 0, .null, .int 0, .null])) pkX6 := by
  refine ow_enterK (own := RX6) rfl (by decide +kernel) rfl rfl ?_
  intro p e s m args below meth c cI D a A X hO hin hr hAe hA
  show ow_H p l e (ow_rc 1 4 1142) s m args below meth c _ A D 1 [(a, .inr (6, [.null, .null, .int 0, .null, .int 0, .null]))] 0 0 0 [some (.ref a)] []
  refine hw_aload0 X dX6_init_0 ?_
  refine hw_obj X lo6_5 mk_obj rfl rfl dX6_init_1 ?_
  refine hw_aload0 X dX6_init_4 ?_
  refine hw_sipush 256 (by decide) X dX6_init_5 ?_
  refine hw_newa2 256 X hA mk_arr_long (by decide) (by decide) rfl rfl rfl dX6_init_8 (fun q1 => ?_)
  refine hw_ws (ws2 := [(a, .inr (6, [.null, .null, .int 0, .null, .int 0, .null])), (q1, .inl (cI 2, 256, .inr (.inl (fun _ => 0))))]) rfl ?_
  refine hw_cs (c2 := 1) (s2 := 256) rfl rfl ?_
  refine hw_putF 0 X hin ff6_11 rfl rfl rfl rfl dX6_init_10 ?_
  refine hw_ws (ws2 := [(a, .inr (6, [.ref q1, .null, .int 0, .null, .int 0, .null])), (q1, .inl (cI 2, 256, .inr (.inl (fun _ => 0))))]) rfl ?_
  refine hw_aload0 X dX6_init_13 ?_
  refine hw_sipush 630 (by decide) X dX6_init_14 ?_
  refine hw_newa0 630 X hA mk_arr_int (by decide) (by decide) rfl rfl rfl dX6_init_17 (fun q2 => ?_)
  refine hw_ws (ws2 := [(a, .inr (6, [.ref q1, .null, .int 0, .null, .int 0, .null])), (q1, .inl (cI 2, 256, .inr (.inl (fun _ => 0)))), (q2, .inl (cI 0, 630, .inl (fun _ => 0)))]) rfl ?_
  refine hw_cs (c2 := 2) (s2 := 886) rfl rfl ?_
  refine hw_putF 0 X hin ff6_15 rfl rfl rfl rfl dX6_init_19 ?_
  refine hw_ws (ws2 := [(a, .inr (6, [.ref q1, .ref q2, .int 0, .null, .int 0, .null])), (q1, .inl (cI 2, 256, .inr (.inl (fun _ => 0)))), (q2, .inl (cI 0, 630, .inl (fun _ => 0)))]) rfl ?_
  refine hw_aload0 X dX6_init_22 ?_
  refine hw_iconst 0 (by decide) X dX6_init_23 ?_
  refine hw_putI 0 X fkX6_19 fp6_2 rfl rfl (by decide +kernel) (by decide +kernel) dX6_init_24 ?_
  refine hw_ws (ws2 := [(a, .inr (6, [.ref q1, .ref q2, .int 0, .null, .int 0, .null])), (q1, .inl (cI 2, 256, .inr (.inl (fun _ => 0)))), (q2, .inl (cI 0, 630, .inl (fun _ => 0)))]) rfl ?_
  refine hw_aload0 X dX6_init_27 ?_
  refine hw_sipush 128 (by decide) X dX6_init_28 ?_
  refine hw_newa0 128 X hA mk_arr_int (by decide) (by decide) rfl rfl rfl dX6_init_31 (fun q3 => ?_)
  refine hw_ws (ws2 := [(a, .inr (6, [.ref q1, .ref q2, .int 0, .null, .int 0, .null])), (q1, .inl (cI 2, 256, .inr (.inl (fun _ => 0)))), (q2, .inl (cI 0, 630, .inl (fun _ => 0))), (q3, .inl (cI 0, 128, .inl (fun _ => 0)))]) rfl ?_
  refine hw_cs (c2 := 3) (s2 := 1014) rfl rfl ?_
  refine hw_putF 0 X hin ff6_23 rfl rfl rfl rfl dX6_init_33 ?_
  refine hw_ws (ws2 := [(a, .inr (6, [.ref q1, .ref q2, .int 0, .ref q3, .int 0, .null])), (q1, .inl (cI 2, 256, .inr (.inl (fun _ => 0)))), (q2, .inl (cI 0, 630, .inl (fun _ => 0))), (q3, .inl (cI 0, 128, .inl (fun _ => 0)))]) rfl ?_
  refine hw_aload0 X dX6_init_36 ?_
  refine hw_iconst 0 (by decide) X dX6_init_37 ?_
  refine hw_putI 0 X fkX6_26 fp6_4 rfl rfl (by decide +kernel) (by decide +kernel) dX6_init_38 ?_
  refine hw_ws (ws2 := [(a, .inr (6, [.ref q1, .ref q2, .int 0, .ref q3, .int 0, .null])), (q1, .inl (cI 2, 256, .inr (.inl (fun _ => 0)))), (q2, .inl (cI 0, 630, .inl (fun _ => 0))), (q3, .inl (cI 0, 128, .inl (fun _ => 0)))]) rfl ?_
  refine hw_aload0 X dX6_init_41 ?_
  refine hw_sipush 128 (by decide) X dX6_init_42 ?_
  refine hw_newa0 128 X hA mk_arr_int (by decide) (by decide) rfl rfl rfl dX6_init_45 (fun q4 => ?_)
  refine hw_ws (ws2 := [(a, .inr (6, [.ref q1, .ref q2, .int 0, .ref q3, .int 0, .null])), (q1, .inl (cI 2, 256, .inr (.inl (fun _ => 0)))), (q2, .inl (cI 0, 630, .inl (fun _ => 0))), (q3, .inl (cI 0, 128, .inl (fun _ => 0))), (q4, .inl (cI 0, 128, .inl (fun _ => 0)))]) rfl ?_
  refine hw_cs (c2 := 4) (s2 := 1142) rfl rfl ?_
  refine hw_putF 0 X hin ff6_29 rfl rfl rfl rfl dX6_init_47 ?_
  refine hw_ws (ws2 := [(a, .inr (6, [.ref q1, .ref q2, .int 0, .ref q3, .int 0, .ref q4])), (q1, .inl (cI 2, 256, .inr (.inl (fun _ => 0)))), (q2, .inl (cI 0, 630, .inl (fun _ => 0))), (q3, .inl (cI 0, 128, .inl (fun _ => 0))), (q4, .inl (cI 0, 128, .inl (fun _ => 0)))]) rfl ?_
  exact hw_ret X hr hAe rfl rfl ⟨q1, q2, q3, q4, rfl⟩ dX6_init_50

theorem ff7_13 : ow_ff RX7 13 7 0 (.array (.object "OneWire$Sheet")) := ⟨RX7, TX7, 9, rfl, cfX7, by decide, rfl, rfl, rfl, by decide +kernel, ow_mb 256 (by decide +kernel) rfl⟩
theorem ff7_20 : ow_ff RX7 20 7 1 (.object "OneWire$Line") := ⟨RX7, TX7, 9, rfl, cfX7, by decide, rfl, rfl, rfl, by decide +kernel, ow_mb 257 (by decide +kernel) rfl⟩
theorem ff7_27 : ow_ff RX7 27 7 2 (.object "OneWire$Spread") := ⟨RX7, TX7, 9, rfl, cfX7, by decide, rfl, rfl, rfl, by decide +kernel, ow_mb 258 (by decide +kernel) rfl⟩
theorem ff7_34 : ow_ff RX7 34 7 3 (.object "OneWire$Trade") := ⟨RX7, TX7, 9, rfl, cfX7, by decide, rfl, rfl, rfl, by decide +kernel, ow_mb 259 (by decide +kernel) rfl⟩
theorem ff7_41 : ow_ff RX7 41 7 4 (.object "OneWire$Ranks") := ⟨RX7, TX7, 9, rfl, cfX7, by decide, rfl, rfl, rfl, by decide +kernel, ow_mb 260 (by decide +kernel) rfl⟩
theorem ff7_48 : ow_ff RX7 48 7 5 (.object "OneWire$Pairing") := ⟨RX7, TX7, 9, rfl, cfX7, by decide, rfl, rfl, rfl, by decide +kernel, ow_mb 261 (by decide +kernel) rfl⟩
theorem ff7_55 : ow_ff RX7 55 7 6 (.object "OneWire$Readings") := ⟨RX7, TX7, 9, rfl, cfX7, by decide, rfl, rfl, rfl, by decide +kernel, ow_mb 262 (by decide +kernel) rfl⟩
theorem lo7_5 : Cond.methodLink RX7 5 Lib.objectInit ∈ ow_base := ow_mb 91 (by decide +kernel) rfl
set_option maxRecDepth 20000 in
theorem mkK7 : ow_okK yX7_init cX7_init 2 := ⟨ow_mb 90 rfl rfl, ow_mb 74 (by decide +kernel) rfl, ⟨by decide, by decide⟩, by decide +kernel, rfl, ow_mb 89 (by decide +kernel) rfl⟩
theorem clq : Cond.classLink RX7 11 "OneWire$Sheet" ∈ ow_base := ow_mb 94 (by decide +kernel) rfl
theorem nwX7_17 : ow_nw RX7 17 0 8 [.int 0, .int 0, .int 0, .null, .null, .null, .null, .null] := ⟨RX0, TX0, tyX0, rfl, cfX0.1, tyX0_ok, ow_mb 96 (by decide +kernel) rfl, ow_mb 97 (by decide +kernel) rfl, ow_mb 75 (by decide +kernel) rfl, by decide +kernel⟩
theorem lkKX7_19 : ow_lk RX7 19 yX0_init := Or.inr ⟨"OneWire", ow_mn 98 (by decide +kernel) rfl⟩
theorem nwX7_24 : ow_nw RX7 24 5 2 [.null, .null] := ⟨RX5, TX5, tyX5, rfl, cfX5.1, tyX5_ok, ow_mb 147 (by decide +kernel) rfl, ow_mb 148 (by decide +kernel) rfl, ow_mb 76 (by decide +kernel) rfl, by decide +kernel⟩
theorem lkKX7_26 : ow_lk RX7 26 yX5_init := Or.inr ⟨"OneWire", ow_mn 149 (by decide +kernel) rfl⟩
theorem nwX7_31 : ow_nw RX7 31 6 6 [.null, .null, .int 0, .null, .int 0, .null] := ⟨RX6, TX6, tyX6, rfl, cfX6.1, tyX6_ok, ow_mb 163 (by decide +kernel) rfl, ow_mb 164 (by decide +kernel) rfl, ow_mb 77 (by decide +kernel) rfl, by decide +kernel⟩
theorem lkKX7_33 : ow_lk RX7 33 yX6_init := Or.inr ⟨"OneWire", ow_mn 165 (by decide +kernel) rfl⟩
theorem nwX7_38 : ow_nw RX7 38 2 2 [.null, .null] := ⟨RX2, TX2, tyX2, rfl, cfX2.1, tyX2_ok, ow_mb 189 (by decide +kernel) rfl, ow_mb 190 (by decide +kernel) rfl, ow_mb 78 (by decide +kernel) rfl, by decide +kernel⟩
theorem lkKX7_40 : ow_lk RX7 40 yX2_init := Or.inr ⟨"OneWire", ow_mn 191 (by decide +kernel) rfl⟩
theorem nwX7_45 : ow_nw RX7 45 1 1 [.null] := ⟨RX1, TX1, tyX1, rfl, cfX1.1, tyX1_ok, ow_mb 202 (by decide +kernel) rfl, ow_mb 203 (by decide +kernel) rfl, ow_mb 79 (by decide +kernel) rfl, by decide +kernel⟩
theorem lkKX7_47 : ow_lk RX7 47 yX1_init := Or.inr ⟨"OneWire", ow_mn 204 (by decide +kernel) rfl⟩
theorem nwX7_52 : ow_nw RX7 52 3 5 [.int 0, .null, .null, .null, .null] := ⟨RX3, TX3, tyX3, rfl, cfX3.1, tyX3_ok, ow_mb 212 (by decide +kernel) rfl, ow_mb 213 (by decide +kernel) rfl, ow_mb 80 (by decide +kernel) rfl, by decide +kernel⟩
theorem lkKX7_54 : ow_lk RX7 54 yX3_init := Or.inr ⟨"OneWire", ow_mn 214 (by decide +kernel) rfl⟩
theorem nwX7_11 : ow_nw RX7 11 4 4 [.int 0, .int 0, .int 0, .null] := ⟨RX4, TX4, tyX4, rfl, cfX4.1, tyX4_ok, ow_mb 94 (by decide +kernel) rfl, ow_mb 235 (by decide +kernel) rfl, ow_mb 81 (by decide +kernel) rfl, by decide +kernel⟩
theorem lkKX7_66 : ow_lk RX7 66 yX4_init := Or.inr ⟨"OneWire", ow_mn 236 (by decide +kernel) rfl⟩
def pkX7 (cI : Nat → ClassId) (a : Nat) (w : va_W) : Prop := ∃ (q1 q2 q3 q4 q5 q6 q7 q8 q9 q10 q11 q12 q13 q14 q15 q16 q17 q18 q19 q20 q21 q22 q23 q24 q25 q26 q27 q28 q29 q30 q31 q32 q33 : Nat), w = [(a, .inr (7, [.ref q1, .ref q2, .ref q8, .ref q11, .ref q16, .ref q19, .ref q21, .int 0, .int 0])), (q1, .inl (cI 3, 4, .inr (.inr (.inr (.inr (va_up (va_up (va_up (va_up (fun _ => none) 0 (some q26)) 1 (some q28)) 2 (some q30)) 3 (some q32))))))), (q2, .inr (0, [.int 0, .int 0, .int 0, .ref q3, .ref q4, .ref q5, .ref q6, .ref q7])), (q3, .inl (cI 0, 7, .inl (fun _ => 0))), (q4, .inl (cI 0, 7, .inl (fun _ => 0))), (q5, .inl (cI 0, 7, .inl (fun _ => 0))), (q6, .inl (cI 0, 7, .inl (fun _ => 0))), (q7, .inl (cI 1, 7, .inl (fun _ => 0))), (q8, .inr (5, [.ref q9, .ref q10])), (q9, .inl (cI 0, 7, .inl (fun _ => 0))), (q10, .inl (cI 0, 7, .inl (fun _ => 0))), (q11, .inr (6, [.ref q12, .ref q13, .int 0, .ref q14, .int 0, .ref q15])), (q12, .inl (cI 2, 256, .inr (.inl (fun _ => 0)))), (q13, .inl (cI 0, 630, .inl (fun _ => 0))), (q14, .inl (cI 0, 128, .inl (fun _ => 0))), (q15, .inl (cI 0, 128, .inl (fun _ => 0))), (q16, .inr (2, [.ref q17, .ref q18])), (q17, .inl (cI 0, 7, .inl (fun _ => 0))), (q18, .inl (cI 0, 128, .inl (fun _ => 0))), (q19, .inr (1, [.ref q20])), (q20, .inl (cI 0, 128, .inl (fun _ => 0))), (q21, .inr (3, [.int 0, .ref q22, .ref q23, .ref q24, .ref q25])), (q22, .inl (cI 0, 8, .inl (fun _ => 0))), (q23, .inl (cI 0, 8, .inl (fun _ => 0))), (q24, .inl (cI 0, 8, .inl (fun _ => 0))), (q25, .inl (cI 0, 8, .inl (fun _ => 0))), (q26, .inr (4, [.int 0, .int 0, .int 0, .ref q27])), (q27, .inl (cI 0, 50, .inl (fun _ => 0))), (q28, .inr (4, [.int 0, .int 0, .int 0, .ref q29])), (q29, .inl (cI 0, 50, .inl (fun _ => 0))), (q30, .inr (4, [.int 0, .int 0, .int 0, .ref q31])), (q31, .inl (cI 0, 50, .inl (fun _ => 0))), (q32, .inr (4, [.int 0, .int 0, .int 0, .ref q33])), (q33, .inl (cI 0, 50, .inl (fun _ => 0)))]
set_option maxRecDepth 100000 in
set_option maxHeartbeats 4000000 in
theorem cK7 (l : Launch) : ow_Ck l 2 yX7_init cX7_init 2 33 1730 (.inr (7, [.null, .null, .null, .null, .null, .null, .null, .int 0, .int 0])) pkX7 := by
  refine ow_enterK (own := RX7) rfl (by decide +kernel) rfl rfl ?_
  intro p e s m args below meth c cI D a A X hO hin hr hAe hA
  show ow_H p l e (ow_rc 2 33 1730) s m args below meth c _ A D 2 [(a, .inr (7, [.null, .null, .null, .null, .null, .null, .null, .int 0, .int 0]))] 0 0 0 [some (.ref a), none] []
  refine hw_aload0 X dX7_init_0 ?_
  refine hw_obj X lo7_5 mk_obj rfl rfl dX7_init_1 ?_
  refine hw_aload0 X dX7_init_4 ?_
  refine hw_iconst 4 (by decide) X dX7_init_5 ?_
  refine hw_newq 4 X hA clq hO (by decide) (by decide) rfl rfl rfl dX7_init_6 (fun q1 => ?_)
  refine hw_ws (ws2 := [(a, .inr (7, [.null, .null, .null, .null, .null, .null, .null, .int 0, .int 0])), (q1, .inl (cI 3, 4, .inr (.inr (.inr (.inr (fun _ => none))))))]) rfl ?_
  refine hw_cs (c2 := 1) (s2 := 4) rfl rfl ?_
  refine hw_putF 0 X hin ff7_13 rfl rfl rfl rfl dX7_init_9 ?_
  refine hw_ws (ws2 := [(a, .inr (7, [.ref q1, .null, .null, .null, .null, .null, .null, .int 0, .int 0])), (q1, .inl (cI 3, 4, .inr (.inr (.inr (.inr (fun _ => none))))))]) rfl ?_
  refine hw_aload0 X dX7_init_12 ?_
  refine hw_new X hA nwX7_17 rfl rfl dX7_init_13 (fun q2 => ?_)
  refine hw_ws (ws2 := [(a, .inr (7, [.ref q1, .null, .null, .null, .null, .null, .null, .int 0, .int 0])), (q1, .inl (cI 3, 4, .inr (.inr (.inr (.inr (fun _ => none)))))), (q2, .inr (0, [.int 0, .int 0, .int 0, .null, .null, .null, .null, .null]))]) rfl ?_
  refine hw_cs (c2 := 2) (s2 := 12) rfl rfl ?_
  refine hw_dup rfl X dX7_init_16 ?_
  refine hw_call (cells := 2) (slots := 12) (pre := [(a, .inr (7, [.ref q1, .null, .null, .null, .null, .null, .null, .int 0, .int 0])), (q1, .inl (cI 3, 4, .inr (.inr (.inr (.inr (fun _ => none))))))]) (a := q2) (st := [.ref q2, .ref a]) X hA hO lkKX7_19 mkK0 (cK0 l) rfl rfl rfl rfl rfl dX7_init_17 ?_
  rintro _ ⟨q3, q4, q5, q6, q7, rfl⟩
  refine hw_ws (ws2 := [(a, .inr (7, [.ref q1, .null, .null, .null, .null, .null, .null, .int 0, .int 0])), (q1, .inl (cI 3, 4, .inr (.inr (.inr (.inr (fun _ => none)))))), (q2, .inr (0, [.int 0, .int 0, .int 0, .ref q3, .ref q4, .ref q5, .ref q6, .ref q7])), (q3, .inl (cI 0, 7, .inl (fun _ => 0))), (q4, .inl (cI 0, 7, .inl (fun _ => 0))), (q5, .inl (cI 0, 7, .inl (fun _ => 0))), (q6, .inl (cI 0, 7, .inl (fun _ => 0))), (q7, .inl (cI 1, 7, .inl (fun _ => 0)))]) rfl ?_
  refine hw_cs (c2 := 7) (s2 := 47) rfl rfl ?_
  refine hw_putF 0 X hin ff7_20 rfl rfl rfl rfl dX7_init_20 ?_
  refine hw_ws (ws2 := [(a, .inr (7, [.ref q1, .ref q2, .null, .null, .null, .null, .null, .int 0, .int 0])), (q1, .inl (cI 3, 4, .inr (.inr (.inr (.inr (fun _ => none)))))), (q2, .inr (0, [.int 0, .int 0, .int 0, .ref q3, .ref q4, .ref q5, .ref q6, .ref q7])), (q3, .inl (cI 0, 7, .inl (fun _ => 0))), (q4, .inl (cI 0, 7, .inl (fun _ => 0))), (q5, .inl (cI 0, 7, .inl (fun _ => 0))), (q6, .inl (cI 0, 7, .inl (fun _ => 0))), (q7, .inl (cI 1, 7, .inl (fun _ => 0)))]) rfl ?_
  refine hw_aload0 X dX7_init_23 ?_
  refine hw_new X hA nwX7_24 rfl rfl dX7_init_24 (fun q8 => ?_)
  refine hw_ws (ws2 := [(a, .inr (7, [.ref q1, .ref q2, .null, .null, .null, .null, .null, .int 0, .int 0])), (q1, .inl (cI 3, 4, .inr (.inr (.inr (.inr (fun _ => none)))))), (q2, .inr (0, [.int 0, .int 0, .int 0, .ref q3, .ref q4, .ref q5, .ref q6, .ref q7])), (q3, .inl (cI 0, 7, .inl (fun _ => 0))), (q4, .inl (cI 0, 7, .inl (fun _ => 0))), (q5, .inl (cI 0, 7, .inl (fun _ => 0))), (q6, .inl (cI 0, 7, .inl (fun _ => 0))), (q7, .inl (cI 1, 7, .inl (fun _ => 0))), (q8, .inr (5, [.null, .null]))]) rfl ?_
  refine hw_cs (c2 := 8) (s2 := 49) rfl rfl ?_
  refine hw_dup rfl X dX7_init_27 ?_
  refine hw_call (cells := 8) (slots := 49) (pre := [(a, .inr (7, [.ref q1, .ref q2, .null, .null, .null, .null, .null, .int 0, .int 0])), (q1, .inl (cI 3, 4, .inr (.inr (.inr (.inr (fun _ => none)))))), (q2, .inr (0, [.int 0, .int 0, .int 0, .ref q3, .ref q4, .ref q5, .ref q6, .ref q7])), (q3, .inl (cI 0, 7, .inl (fun _ => 0))), (q4, .inl (cI 0, 7, .inl (fun _ => 0))), (q5, .inl (cI 0, 7, .inl (fun _ => 0))), (q6, .inl (cI 0, 7, .inl (fun _ => 0))), (q7, .inl (cI 1, 7, .inl (fun _ => 0)))]) (a := q8) (st := [.ref q8, .ref a]) X hA hO lkKX7_26 mkK5 (cK5 l) rfl rfl rfl rfl rfl dX7_init_28 ?_
  rintro _ ⟨q9, q10, rfl⟩
  refine hw_ws (ws2 := [(a, .inr (7, [.ref q1, .ref q2, .null, .null, .null, .null, .null, .int 0, .int 0])), (q1, .inl (cI 3, 4, .inr (.inr (.inr (.inr (fun _ => none)))))), (q2, .inr (0, [.int 0, .int 0, .int 0, .ref q3, .ref q4, .ref q5, .ref q6, .ref q7])), (q3, .inl (cI 0, 7, .inl (fun _ => 0))), (q4, .inl (cI 0, 7, .inl (fun _ => 0))), (q5, .inl (cI 0, 7, .inl (fun _ => 0))), (q6, .inl (cI 0, 7, .inl (fun _ => 0))), (q7, .inl (cI 1, 7, .inl (fun _ => 0))), (q8, .inr (5, [.ref q9, .ref q10])), (q9, .inl (cI 0, 7, .inl (fun _ => 0))), (q10, .inl (cI 0, 7, .inl (fun _ => 0)))]) rfl ?_
  refine hw_cs (c2 := 10) (s2 := 63) rfl rfl ?_
  refine hw_putF 0 X hin ff7_27 rfl rfl rfl rfl dX7_init_31 ?_
  refine hw_ws (ws2 := [(a, .inr (7, [.ref q1, .ref q2, .ref q8, .null, .null, .null, .null, .int 0, .int 0])), (q1, .inl (cI 3, 4, .inr (.inr (.inr (.inr (fun _ => none)))))), (q2, .inr (0, [.int 0, .int 0, .int 0, .ref q3, .ref q4, .ref q5, .ref q6, .ref q7])), (q3, .inl (cI 0, 7, .inl (fun _ => 0))), (q4, .inl (cI 0, 7, .inl (fun _ => 0))), (q5, .inl (cI 0, 7, .inl (fun _ => 0))), (q6, .inl (cI 0, 7, .inl (fun _ => 0))), (q7, .inl (cI 1, 7, .inl (fun _ => 0))), (q8, .inr (5, [.ref q9, .ref q10])), (q9, .inl (cI 0, 7, .inl (fun _ => 0))), (q10, .inl (cI 0, 7, .inl (fun _ => 0)))]) rfl ?_
  refine hw_aload0 X dX7_init_34 ?_
  refine hw_new X hA nwX7_31 rfl rfl dX7_init_35 (fun q11 => ?_)
  refine hw_ws (ws2 := [(a, .inr (7, [.ref q1, .ref q2, .ref q8, .null, .null, .null, .null, .int 0, .int 0])), (q1, .inl (cI 3, 4, .inr (.inr (.inr (.inr (fun _ => none)))))), (q2, .inr (0, [.int 0, .int 0, .int 0, .ref q3, .ref q4, .ref q5, .ref q6, .ref q7])), (q3, .inl (cI 0, 7, .inl (fun _ => 0))), (q4, .inl (cI 0, 7, .inl (fun _ => 0))), (q5, .inl (cI 0, 7, .inl (fun _ => 0))), (q6, .inl (cI 0, 7, .inl (fun _ => 0))), (q7, .inl (cI 1, 7, .inl (fun _ => 0))), (q8, .inr (5, [.ref q9, .ref q10])), (q9, .inl (cI 0, 7, .inl (fun _ => 0))), (q10, .inl (cI 0, 7, .inl (fun _ => 0))), (q11, .inr (6, [.null, .null, .int 0, .null, .int 0, .null]))]) rfl ?_
  refine hw_cs (c2 := 11) (s2 := 69) rfl rfl ?_
  refine hw_dup rfl X dX7_init_38 ?_
  refine hw_call (cells := 11) (slots := 69) (pre := [(a, .inr (7, [.ref q1, .ref q2, .ref q8, .null, .null, .null, .null, .int 0, .int 0])), (q1, .inl (cI 3, 4, .inr (.inr (.inr (.inr (fun _ => none)))))), (q2, .inr (0, [.int 0, .int 0, .int 0, .ref q3, .ref q4, .ref q5, .ref q6, .ref q7])), (q3, .inl (cI 0, 7, .inl (fun _ => 0))), (q4, .inl (cI 0, 7, .inl (fun _ => 0))), (q5, .inl (cI 0, 7, .inl (fun _ => 0))), (q6, .inl (cI 0, 7, .inl (fun _ => 0))), (q7, .inl (cI 1, 7, .inl (fun _ => 0))), (q8, .inr (5, [.ref q9, .ref q10])), (q9, .inl (cI 0, 7, .inl (fun _ => 0))), (q10, .inl (cI 0, 7, .inl (fun _ => 0)))]) (a := q11) (st := [.ref q11, .ref a]) X hA hO lkKX7_33 mkK6 (cK6 l) rfl rfl rfl rfl rfl dX7_init_39 ?_
  rintro _ ⟨q12, q13, q14, q15, rfl⟩
  refine hw_ws (ws2 := [(a, .inr (7, [.ref q1, .ref q2, .ref q8, .null, .null, .null, .null, .int 0, .int 0])), (q1, .inl (cI 3, 4, .inr (.inr (.inr (.inr (fun _ => none)))))), (q2, .inr (0, [.int 0, .int 0, .int 0, .ref q3, .ref q4, .ref q5, .ref q6, .ref q7])), (q3, .inl (cI 0, 7, .inl (fun _ => 0))), (q4, .inl (cI 0, 7, .inl (fun _ => 0))), (q5, .inl (cI 0, 7, .inl (fun _ => 0))), (q6, .inl (cI 0, 7, .inl (fun _ => 0))), (q7, .inl (cI 1, 7, .inl (fun _ => 0))), (q8, .inr (5, [.ref q9, .ref q10])), (q9, .inl (cI 0, 7, .inl (fun _ => 0))), (q10, .inl (cI 0, 7, .inl (fun _ => 0))), (q11, .inr (6, [.ref q12, .ref q13, .int 0, .ref q14, .int 0, .ref q15])), (q12, .inl (cI 2, 256, .inr (.inl (fun _ => 0)))), (q13, .inl (cI 0, 630, .inl (fun _ => 0))), (q14, .inl (cI 0, 128, .inl (fun _ => 0))), (q15, .inl (cI 0, 128, .inl (fun _ => 0)))]) rfl ?_
  refine hw_cs (c2 := 15) (s2 := 1211) rfl rfl ?_
  refine hw_putF 0 X hin ff7_34 rfl rfl rfl rfl dX7_init_42 ?_
  refine hw_ws (ws2 := [(a, .inr (7, [.ref q1, .ref q2, .ref q8, .ref q11, .null, .null, .null, .int 0, .int 0])), (q1, .inl (cI 3, 4, .inr (.inr (.inr (.inr (fun _ => none)))))), (q2, .inr (0, [.int 0, .int 0, .int 0, .ref q3, .ref q4, .ref q5, .ref q6, .ref q7])), (q3, .inl (cI 0, 7, .inl (fun _ => 0))), (q4, .inl (cI 0, 7, .inl (fun _ => 0))), (q5, .inl (cI 0, 7, .inl (fun _ => 0))), (q6, .inl (cI 0, 7, .inl (fun _ => 0))), (q7, .inl (cI 1, 7, .inl (fun _ => 0))), (q8, .inr (5, [.ref q9, .ref q10])), (q9, .inl (cI 0, 7, .inl (fun _ => 0))), (q10, .inl (cI 0, 7, .inl (fun _ => 0))), (q11, .inr (6, [.ref q12, .ref q13, .int 0, .ref q14, .int 0, .ref q15])), (q12, .inl (cI 2, 256, .inr (.inl (fun _ => 0)))), (q13, .inl (cI 0, 630, .inl (fun _ => 0))), (q14, .inl (cI 0, 128, .inl (fun _ => 0))), (q15, .inl (cI 0, 128, .inl (fun _ => 0)))]) rfl ?_
  refine hw_aload0 X dX7_init_45 ?_
  refine hw_new X hA nwX7_38 rfl rfl dX7_init_46 (fun q16 => ?_)
  refine hw_ws (ws2 := [(a, .inr (7, [.ref q1, .ref q2, .ref q8, .ref q11, .null, .null, .null, .int 0, .int 0])), (q1, .inl (cI 3, 4, .inr (.inr (.inr (.inr (fun _ => none)))))), (q2, .inr (0, [.int 0, .int 0, .int 0, .ref q3, .ref q4, .ref q5, .ref q6, .ref q7])), (q3, .inl (cI 0, 7, .inl (fun _ => 0))), (q4, .inl (cI 0, 7, .inl (fun _ => 0))), (q5, .inl (cI 0, 7, .inl (fun _ => 0))), (q6, .inl (cI 0, 7, .inl (fun _ => 0))), (q7, .inl (cI 1, 7, .inl (fun _ => 0))), (q8, .inr (5, [.ref q9, .ref q10])), (q9, .inl (cI 0, 7, .inl (fun _ => 0))), (q10, .inl (cI 0, 7, .inl (fun _ => 0))), (q11, .inr (6, [.ref q12, .ref q13, .int 0, .ref q14, .int 0, .ref q15])), (q12, .inl (cI 2, 256, .inr (.inl (fun _ => 0)))), (q13, .inl (cI 0, 630, .inl (fun _ => 0))), (q14, .inl (cI 0, 128, .inl (fun _ => 0))), (q15, .inl (cI 0, 128, .inl (fun _ => 0))), (q16, .inr (2, [.null, .null]))]) rfl ?_
  refine hw_cs (c2 := 16) (s2 := 1213) rfl rfl ?_
  refine hw_dup rfl X dX7_init_49 ?_
  refine hw_call (cells := 16) (slots := 1213) (pre := [(a, .inr (7, [.ref q1, .ref q2, .ref q8, .ref q11, .null, .null, .null, .int 0, .int 0])), (q1, .inl (cI 3, 4, .inr (.inr (.inr (.inr (fun _ => none)))))), (q2, .inr (0, [.int 0, .int 0, .int 0, .ref q3, .ref q4, .ref q5, .ref q6, .ref q7])), (q3, .inl (cI 0, 7, .inl (fun _ => 0))), (q4, .inl (cI 0, 7, .inl (fun _ => 0))), (q5, .inl (cI 0, 7, .inl (fun _ => 0))), (q6, .inl (cI 0, 7, .inl (fun _ => 0))), (q7, .inl (cI 1, 7, .inl (fun _ => 0))), (q8, .inr (5, [.ref q9, .ref q10])), (q9, .inl (cI 0, 7, .inl (fun _ => 0))), (q10, .inl (cI 0, 7, .inl (fun _ => 0))), (q11, .inr (6, [.ref q12, .ref q13, .int 0, .ref q14, .int 0, .ref q15])), (q12, .inl (cI 2, 256, .inr (.inl (fun _ => 0)))), (q13, .inl (cI 0, 630, .inl (fun _ => 0))), (q14, .inl (cI 0, 128, .inl (fun _ => 0))), (q15, .inl (cI 0, 128, .inl (fun _ => 0)))]) (a := q16) (st := [.ref q16, .ref a]) X hA hO lkKX7_40 mkK2 (cK2 l) rfl rfl rfl rfl rfl dX7_init_50 ?_
  rintro _ ⟨q17, q18, rfl⟩
  refine hw_ws (ws2 := [(a, .inr (7, [.ref q1, .ref q2, .ref q8, .ref q11, .null, .null, .null, .int 0, .int 0])), (q1, .inl (cI 3, 4, .inr (.inr (.inr (.inr (fun _ => none)))))), (q2, .inr (0, [.int 0, .int 0, .int 0, .ref q3, .ref q4, .ref q5, .ref q6, .ref q7])), (q3, .inl (cI 0, 7, .inl (fun _ => 0))), (q4, .inl (cI 0, 7, .inl (fun _ => 0))), (q5, .inl (cI 0, 7, .inl (fun _ => 0))), (q6, .inl (cI 0, 7, .inl (fun _ => 0))), (q7, .inl (cI 1, 7, .inl (fun _ => 0))), (q8, .inr (5, [.ref q9, .ref q10])), (q9, .inl (cI 0, 7, .inl (fun _ => 0))), (q10, .inl (cI 0, 7, .inl (fun _ => 0))), (q11, .inr (6, [.ref q12, .ref q13, .int 0, .ref q14, .int 0, .ref q15])), (q12, .inl (cI 2, 256, .inr (.inl (fun _ => 0)))), (q13, .inl (cI 0, 630, .inl (fun _ => 0))), (q14, .inl (cI 0, 128, .inl (fun _ => 0))), (q15, .inl (cI 0, 128, .inl (fun _ => 0))), (q16, .inr (2, [.ref q17, .ref q18])), (q17, .inl (cI 0, 7, .inl (fun _ => 0))), (q18, .inl (cI 0, 128, .inl (fun _ => 0)))]) rfl ?_
  refine hw_cs (c2 := 18) (s2 := 1348) rfl rfl ?_
  refine hw_putF 0 X hin ff7_41 rfl rfl rfl rfl dX7_init_53 ?_
  refine hw_ws (ws2 := [(a, .inr (7, [.ref q1, .ref q2, .ref q8, .ref q11, .ref q16, .null, .null, .int 0, .int 0])), (q1, .inl (cI 3, 4, .inr (.inr (.inr (.inr (fun _ => none)))))), (q2, .inr (0, [.int 0, .int 0, .int 0, .ref q3, .ref q4, .ref q5, .ref q6, .ref q7])), (q3, .inl (cI 0, 7, .inl (fun _ => 0))), (q4, .inl (cI 0, 7, .inl (fun _ => 0))), (q5, .inl (cI 0, 7, .inl (fun _ => 0))), (q6, .inl (cI 0, 7, .inl (fun _ => 0))), (q7, .inl (cI 1, 7, .inl (fun _ => 0))), (q8, .inr (5, [.ref q9, .ref q10])), (q9, .inl (cI 0, 7, .inl (fun _ => 0))), (q10, .inl (cI 0, 7, .inl (fun _ => 0))), (q11, .inr (6, [.ref q12, .ref q13, .int 0, .ref q14, .int 0, .ref q15])), (q12, .inl (cI 2, 256, .inr (.inl (fun _ => 0)))), (q13, .inl (cI 0, 630, .inl (fun _ => 0))), (q14, .inl (cI 0, 128, .inl (fun _ => 0))), (q15, .inl (cI 0, 128, .inl (fun _ => 0))), (q16, .inr (2, [.ref q17, .ref q18])), (q17, .inl (cI 0, 7, .inl (fun _ => 0))), (q18, .inl (cI 0, 128, .inl (fun _ => 0)))]) rfl ?_
  refine hw_aload0 X dX7_init_56 ?_
  refine hw_new X hA nwX7_45 rfl rfl dX7_init_57 (fun q19 => ?_)
  refine hw_ws (ws2 := [(a, .inr (7, [.ref q1, .ref q2, .ref q8, .ref q11, .ref q16, .null, .null, .int 0, .int 0])), (q1, .inl (cI 3, 4, .inr (.inr (.inr (.inr (fun _ => none)))))), (q2, .inr (0, [.int 0, .int 0, .int 0, .ref q3, .ref q4, .ref q5, .ref q6, .ref q7])), (q3, .inl (cI 0, 7, .inl (fun _ => 0))), (q4, .inl (cI 0, 7, .inl (fun _ => 0))), (q5, .inl (cI 0, 7, .inl (fun _ => 0))), (q6, .inl (cI 0, 7, .inl (fun _ => 0))), (q7, .inl (cI 1, 7, .inl (fun _ => 0))), (q8, .inr (5, [.ref q9, .ref q10])), (q9, .inl (cI 0, 7, .inl (fun _ => 0))), (q10, .inl (cI 0, 7, .inl (fun _ => 0))), (q11, .inr (6, [.ref q12, .ref q13, .int 0, .ref q14, .int 0, .ref q15])), (q12, .inl (cI 2, 256, .inr (.inl (fun _ => 0)))), (q13, .inl (cI 0, 630, .inl (fun _ => 0))), (q14, .inl (cI 0, 128, .inl (fun _ => 0))), (q15, .inl (cI 0, 128, .inl (fun _ => 0))), (q16, .inr (2, [.ref q17, .ref q18])), (q17, .inl (cI 0, 7, .inl (fun _ => 0))), (q18, .inl (cI 0, 128, .inl (fun _ => 0))), (q19, .inr (1, [.null]))]) rfl ?_
  refine hw_cs (c2 := 19) (s2 := 1349) rfl rfl ?_
  refine hw_dup rfl X dX7_init_60 ?_
  refine hw_call (cells := 19) (slots := 1349) (pre := [(a, .inr (7, [.ref q1, .ref q2, .ref q8, .ref q11, .ref q16, .null, .null, .int 0, .int 0])), (q1, .inl (cI 3, 4, .inr (.inr (.inr (.inr (fun _ => none)))))), (q2, .inr (0, [.int 0, .int 0, .int 0, .ref q3, .ref q4, .ref q5, .ref q6, .ref q7])), (q3, .inl (cI 0, 7, .inl (fun _ => 0))), (q4, .inl (cI 0, 7, .inl (fun _ => 0))), (q5, .inl (cI 0, 7, .inl (fun _ => 0))), (q6, .inl (cI 0, 7, .inl (fun _ => 0))), (q7, .inl (cI 1, 7, .inl (fun _ => 0))), (q8, .inr (5, [.ref q9, .ref q10])), (q9, .inl (cI 0, 7, .inl (fun _ => 0))), (q10, .inl (cI 0, 7, .inl (fun _ => 0))), (q11, .inr (6, [.ref q12, .ref q13, .int 0, .ref q14, .int 0, .ref q15])), (q12, .inl (cI 2, 256, .inr (.inl (fun _ => 0)))), (q13, .inl (cI 0, 630, .inl (fun _ => 0))), (q14, .inl (cI 0, 128, .inl (fun _ => 0))), (q15, .inl (cI 0, 128, .inl (fun _ => 0))), (q16, .inr (2, [.ref q17, .ref q18])), (q17, .inl (cI 0, 7, .inl (fun _ => 0))), (q18, .inl (cI 0, 128, .inl (fun _ => 0)))]) (a := q19) (st := [.ref q19, .ref a]) X hA hO lkKX7_47 mkK1 (cK1 l) rfl rfl rfl rfl rfl dX7_init_61 ?_
  rintro _ ⟨q20, rfl⟩
  refine hw_ws (ws2 := [(a, .inr (7, [.ref q1, .ref q2, .ref q8, .ref q11, .ref q16, .null, .null, .int 0, .int 0])), (q1, .inl (cI 3, 4, .inr (.inr (.inr (.inr (fun _ => none)))))), (q2, .inr (0, [.int 0, .int 0, .int 0, .ref q3, .ref q4, .ref q5, .ref q6, .ref q7])), (q3, .inl (cI 0, 7, .inl (fun _ => 0))), (q4, .inl (cI 0, 7, .inl (fun _ => 0))), (q5, .inl (cI 0, 7, .inl (fun _ => 0))), (q6, .inl (cI 0, 7, .inl (fun _ => 0))), (q7, .inl (cI 1, 7, .inl (fun _ => 0))), (q8, .inr (5, [.ref q9, .ref q10])), (q9, .inl (cI 0, 7, .inl (fun _ => 0))), (q10, .inl (cI 0, 7, .inl (fun _ => 0))), (q11, .inr (6, [.ref q12, .ref q13, .int 0, .ref q14, .int 0, .ref q15])), (q12, .inl (cI 2, 256, .inr (.inl (fun _ => 0)))), (q13, .inl (cI 0, 630, .inl (fun _ => 0))), (q14, .inl (cI 0, 128, .inl (fun _ => 0))), (q15, .inl (cI 0, 128, .inl (fun _ => 0))), (q16, .inr (2, [.ref q17, .ref q18])), (q17, .inl (cI 0, 7, .inl (fun _ => 0))), (q18, .inl (cI 0, 128, .inl (fun _ => 0))), (q19, .inr (1, [.ref q20])), (q20, .inl (cI 0, 128, .inl (fun _ => 0)))]) rfl ?_
  refine hw_cs (c2 := 20) (s2 := 1477) rfl rfl ?_
  refine hw_putF 0 X hin ff7_48 rfl rfl rfl rfl dX7_init_64 ?_
  refine hw_ws (ws2 := [(a, .inr (7, [.ref q1, .ref q2, .ref q8, .ref q11, .ref q16, .ref q19, .null, .int 0, .int 0])), (q1, .inl (cI 3, 4, .inr (.inr (.inr (.inr (fun _ => none)))))), (q2, .inr (0, [.int 0, .int 0, .int 0, .ref q3, .ref q4, .ref q5, .ref q6, .ref q7])), (q3, .inl (cI 0, 7, .inl (fun _ => 0))), (q4, .inl (cI 0, 7, .inl (fun _ => 0))), (q5, .inl (cI 0, 7, .inl (fun _ => 0))), (q6, .inl (cI 0, 7, .inl (fun _ => 0))), (q7, .inl (cI 1, 7, .inl (fun _ => 0))), (q8, .inr (5, [.ref q9, .ref q10])), (q9, .inl (cI 0, 7, .inl (fun _ => 0))), (q10, .inl (cI 0, 7, .inl (fun _ => 0))), (q11, .inr (6, [.ref q12, .ref q13, .int 0, .ref q14, .int 0, .ref q15])), (q12, .inl (cI 2, 256, .inr (.inl (fun _ => 0)))), (q13, .inl (cI 0, 630, .inl (fun _ => 0))), (q14, .inl (cI 0, 128, .inl (fun _ => 0))), (q15, .inl (cI 0, 128, .inl (fun _ => 0))), (q16, .inr (2, [.ref q17, .ref q18])), (q17, .inl (cI 0, 7, .inl (fun _ => 0))), (q18, .inl (cI 0, 128, .inl (fun _ => 0))), (q19, .inr (1, [.ref q20])), (q20, .inl (cI 0, 128, .inl (fun _ => 0)))]) rfl ?_
  refine hw_aload0 X dX7_init_67 ?_
  refine hw_new X hA nwX7_52 rfl rfl dX7_init_68 (fun q21 => ?_)
  refine hw_ws (ws2 := [(a, .inr (7, [.ref q1, .ref q2, .ref q8, .ref q11, .ref q16, .ref q19, .null, .int 0, .int 0])), (q1, .inl (cI 3, 4, .inr (.inr (.inr (.inr (fun _ => none)))))), (q2, .inr (0, [.int 0, .int 0, .int 0, .ref q3, .ref q4, .ref q5, .ref q6, .ref q7])), (q3, .inl (cI 0, 7, .inl (fun _ => 0))), (q4, .inl (cI 0, 7, .inl (fun _ => 0))), (q5, .inl (cI 0, 7, .inl (fun _ => 0))), (q6, .inl (cI 0, 7, .inl (fun _ => 0))), (q7, .inl (cI 1, 7, .inl (fun _ => 0))), (q8, .inr (5, [.ref q9, .ref q10])), (q9, .inl (cI 0, 7, .inl (fun _ => 0))), (q10, .inl (cI 0, 7, .inl (fun _ => 0))), (q11, .inr (6, [.ref q12, .ref q13, .int 0, .ref q14, .int 0, .ref q15])), (q12, .inl (cI 2, 256, .inr (.inl (fun _ => 0)))), (q13, .inl (cI 0, 630, .inl (fun _ => 0))), (q14, .inl (cI 0, 128, .inl (fun _ => 0))), (q15, .inl (cI 0, 128, .inl (fun _ => 0))), (q16, .inr (2, [.ref q17, .ref q18])), (q17, .inl (cI 0, 7, .inl (fun _ => 0))), (q18, .inl (cI 0, 128, .inl (fun _ => 0))), (q19, .inr (1, [.ref q20])), (q20, .inl (cI 0, 128, .inl (fun _ => 0))), (q21, .inr (3, [.int 0, .null, .null, .null, .null]))]) rfl ?_
  refine hw_cs (c2 := 21) (s2 := 1482) rfl rfl ?_
  refine hw_dup rfl X dX7_init_71 ?_
  refine hw_call (cells := 21) (slots := 1482) (pre := [(a, .inr (7, [.ref q1, .ref q2, .ref q8, .ref q11, .ref q16, .ref q19, .null, .int 0, .int 0])), (q1, .inl (cI 3, 4, .inr (.inr (.inr (.inr (fun _ => none)))))), (q2, .inr (0, [.int 0, .int 0, .int 0, .ref q3, .ref q4, .ref q5, .ref q6, .ref q7])), (q3, .inl (cI 0, 7, .inl (fun _ => 0))), (q4, .inl (cI 0, 7, .inl (fun _ => 0))), (q5, .inl (cI 0, 7, .inl (fun _ => 0))), (q6, .inl (cI 0, 7, .inl (fun _ => 0))), (q7, .inl (cI 1, 7, .inl (fun _ => 0))), (q8, .inr (5, [.ref q9, .ref q10])), (q9, .inl (cI 0, 7, .inl (fun _ => 0))), (q10, .inl (cI 0, 7, .inl (fun _ => 0))), (q11, .inr (6, [.ref q12, .ref q13, .int 0, .ref q14, .int 0, .ref q15])), (q12, .inl (cI 2, 256, .inr (.inl (fun _ => 0)))), (q13, .inl (cI 0, 630, .inl (fun _ => 0))), (q14, .inl (cI 0, 128, .inl (fun _ => 0))), (q15, .inl (cI 0, 128, .inl (fun _ => 0))), (q16, .inr (2, [.ref q17, .ref q18])), (q17, .inl (cI 0, 7, .inl (fun _ => 0))), (q18, .inl (cI 0, 128, .inl (fun _ => 0))), (q19, .inr (1, [.ref q20])), (q20, .inl (cI 0, 128, .inl (fun _ => 0)))]) (a := q21) (st := [.ref q21, .ref a]) X hA hO lkKX7_54 mkK3 (cK3 l) rfl rfl rfl rfl rfl dX7_init_72 ?_
  rintro _ ⟨q22, q23, q24, q25, rfl⟩
  refine hw_ws (ws2 := [(a, .inr (7, [.ref q1, .ref q2, .ref q8, .ref q11, .ref q16, .ref q19, .null, .int 0, .int 0])), (q1, .inl (cI 3, 4, .inr (.inr (.inr (.inr (fun _ => none)))))), (q2, .inr (0, [.int 0, .int 0, .int 0, .ref q3, .ref q4, .ref q5, .ref q6, .ref q7])), (q3, .inl (cI 0, 7, .inl (fun _ => 0))), (q4, .inl (cI 0, 7, .inl (fun _ => 0))), (q5, .inl (cI 0, 7, .inl (fun _ => 0))), (q6, .inl (cI 0, 7, .inl (fun _ => 0))), (q7, .inl (cI 1, 7, .inl (fun _ => 0))), (q8, .inr (5, [.ref q9, .ref q10])), (q9, .inl (cI 0, 7, .inl (fun _ => 0))), (q10, .inl (cI 0, 7, .inl (fun _ => 0))), (q11, .inr (6, [.ref q12, .ref q13, .int 0, .ref q14, .int 0, .ref q15])), (q12, .inl (cI 2, 256, .inr (.inl (fun _ => 0)))), (q13, .inl (cI 0, 630, .inl (fun _ => 0))), (q14, .inl (cI 0, 128, .inl (fun _ => 0))), (q15, .inl (cI 0, 128, .inl (fun _ => 0))), (q16, .inr (2, [.ref q17, .ref q18])), (q17, .inl (cI 0, 7, .inl (fun _ => 0))), (q18, .inl (cI 0, 128, .inl (fun _ => 0))), (q19, .inr (1, [.ref q20])), (q20, .inl (cI 0, 128, .inl (fun _ => 0))), (q21, .inr (3, [.int 0, .ref q22, .ref q23, .ref q24, .ref q25])), (q22, .inl (cI 0, 8, .inl (fun _ => 0))), (q23, .inl (cI 0, 8, .inl (fun _ => 0))), (q24, .inl (cI 0, 8, .inl (fun _ => 0))), (q25, .inl (cI 0, 8, .inl (fun _ => 0)))]) rfl ?_
  refine hw_cs (c2 := 25) (s2 := 1514) rfl rfl ?_
  refine hw_putF 0 X hin ff7_55 rfl rfl rfl rfl dX7_init_75 ?_
  refine hw_ws (ws2 := [(a, .inr (7, [.ref q1, .ref q2, .ref q8, .ref q11, .ref q16, .ref q19, .ref q21, .int 0, .int 0])), (q1, .inl (cI 3, 4, .inr (.inr (.inr (.inr (fun _ => none)))))), (q2, .inr (0, [.int 0, .int 0, .int 0, .ref q3, .ref q4, .ref q5, .ref q6, .ref q7])), (q3, .inl (cI 0, 7, .inl (fun _ => 0))), (q4, .inl (cI 0, 7, .inl (fun _ => 0))), (q5, .inl (cI 0, 7, .inl (fun _ => 0))), (q6, .inl (cI 0, 7, .inl (fun _ => 0))), (q7, .inl (cI 1, 7, .inl (fun _ => 0))), (q8, .inr (5, [.ref q9, .ref q10])), (q9, .inl (cI 0, 7, .inl (fun _ => 0))), (q10, .inl (cI 0, 7, .inl (fun _ => 0))), (q11, .inr (6, [.ref q12, .ref q13, .int 0, .ref q14, .int 0, .ref q15])), (q12, .inl (cI 2, 256, .inr (.inl (fun _ => 0)))), (q13, .inl (cI 0, 630, .inl (fun _ => 0))), (q14, .inl (cI 0, 128, .inl (fun _ => 0))), (q15, .inl (cI 0, 128, .inl (fun _ => 0))), (q16, .inr (2, [.ref q17, .ref q18])), (q17, .inl (cI 0, 7, .inl (fun _ => 0))), (q18, .inl (cI 0, 128, .inl (fun _ => 0))), (q19, .inr (1, [.ref q20])), (q20, .inl (cI 0, 128, .inl (fun _ => 0))), (q21, .inr (3, [.int 0, .ref q22, .ref q23, .ref q24, .ref q25])), (q22, .inl (cI 0, 8, .inl (fun _ => 0))), (q23, .inl (cI 0, 8, .inl (fun _ => 0))), (q24, .inl (cI 0, 8, .inl (fun _ => 0))), (q25, .inl (cI 0, 8, .inl (fun _ => 0)))]) rfl ?_
  refine hw_aload0 X dX7_init_78 ?_
  refine hw_iconst 0 (by decide) X dX7_init_79 ?_
  refine hw_putI 0 X fkX7_59 fp7_7 rfl rfl (by decide +kernel) (by decide +kernel) dX7_init_80 ?_
  refine hw_ws (ws2 := [(a, .inr (7, [.ref q1, .ref q2, .ref q8, .ref q11, .ref q16, .ref q19, .ref q21, .int 0, .int 0])), (q1, .inl (cI 3, 4, .inr (.inr (.inr (.inr (fun _ => none)))))), (q2, .inr (0, [.int 0, .int 0, .int 0, .ref q3, .ref q4, .ref q5, .ref q6, .ref q7])), (q3, .inl (cI 0, 7, .inl (fun _ => 0))), (q4, .inl (cI 0, 7, .inl (fun _ => 0))), (q5, .inl (cI 0, 7, .inl (fun _ => 0))), (q6, .inl (cI 0, 7, .inl (fun _ => 0))), (q7, .inl (cI 1, 7, .inl (fun _ => 0))), (q8, .inr (5, [.ref q9, .ref q10])), (q9, .inl (cI 0, 7, .inl (fun _ => 0))), (q10, .inl (cI 0, 7, .inl (fun _ => 0))), (q11, .inr (6, [.ref q12, .ref q13, .int 0, .ref q14, .int 0, .ref q15])), (q12, .inl (cI 2, 256, .inr (.inl (fun _ => 0)))), (q13, .inl (cI 0, 630, .inl (fun _ => 0))), (q14, .inl (cI 0, 128, .inl (fun _ => 0))), (q15, .inl (cI 0, 128, .inl (fun _ => 0))), (q16, .inr (2, [.ref q17, .ref q18])), (q17, .inl (cI 0, 7, .inl (fun _ => 0))), (q18, .inl (cI 0, 128, .inl (fun _ => 0))), (q19, .inr (1, [.ref q20])), (q20, .inl (cI 0, 128, .inl (fun _ => 0))), (q21, .inr (3, [.int 0, .ref q22, .ref q23, .ref q24, .ref q25])), (q22, .inl (cI 0, 8, .inl (fun _ => 0))), (q23, .inl (cI 0, 8, .inl (fun _ => 0))), (q24, .inl (cI 0, 8, .inl (fun _ => 0))), (q25, .inl (cI 0, 8, .inl (fun _ => 0)))]) rfl ?_
  refine hw_aload0 X dX7_init_83 ?_
  refine hw_iconst 0 (by decide) X dX7_init_84 ?_
  refine hw_putI 0 X fkX7_63 fp7_8 rfl rfl (by decide +kernel) (by decide +kernel) dX7_init_85 ?_
  refine hw_ws (ws2 := [(a, .inr (7, [.ref q1, .ref q2, .ref q8, .ref q11, .ref q16, .ref q19, .ref q21, .int 0, .int 0])), (q1, .inl (cI 3, 4, .inr (.inr (.inr (.inr (fun _ => none)))))), (q2, .inr (0, [.int 0, .int 0, .int 0, .ref q3, .ref q4, .ref q5, .ref q6, .ref q7])), (q3, .inl (cI 0, 7, .inl (fun _ => 0))), (q4, .inl (cI 0, 7, .inl (fun _ => 0))), (q5, .inl (cI 0, 7, .inl (fun _ => 0))), (q6, .inl (cI 0, 7, .inl (fun _ => 0))), (q7, .inl (cI 1, 7, .inl (fun _ => 0))), (q8, .inr (5, [.ref q9, .ref q10])), (q9, .inl (cI 0, 7, .inl (fun _ => 0))), (q10, .inl (cI 0, 7, .inl (fun _ => 0))), (q11, .inr (6, [.ref q12, .ref q13, .int 0, .ref q14, .int 0, .ref q15])), (q12, .inl (cI 2, 256, .inr (.inl (fun _ => 0)))), (q13, .inl (cI 0, 630, .inl (fun _ => 0))), (q14, .inl (cI 0, 128, .inl (fun _ => 0))), (q15, .inl (cI 0, 128, .inl (fun _ => 0))), (q16, .inr (2, [.ref q17, .ref q18])), (q17, .inl (cI 0, 7, .inl (fun _ => 0))), (q18, .inl (cI 0, 128, .inl (fun _ => 0))), (q19, .inr (1, [.ref q20])), (q20, .inl (cI 0, 128, .inl (fun _ => 0))), (q21, .inr (3, [.int 0, .ref q22, .ref q23, .ref q24, .ref q25])), (q22, .inl (cI 0, 8, .inl (fun _ => 0))), (q23, .inl (cI 0, 8, .inl (fun _ => 0))), (q24, .inl (cI 0, 8, .inl (fun _ => 0))), (q25, .inl (cI 0, 8, .inl (fun _ => 0)))]) rfl ?_
  refine hw_iconst 0 (by decide) X dX7_init_88 ?_
  refine hw_istore1 X dX7_init_89 (by decide) rfl ?_
  refine hw_iload1 X dX7_init_90 ?_
  refine hw_aload0 X dX7_init_91 ?_
  refine hw_getR 0 X fkX7_13 rfl rfl dX7_init_92 ?_
  refine hw_alenq 4 1 X rfl (by decide) dX7_init_95 ?_
  refine hw_icmp_ge (tgt := 118) rfl X dX7_init_96 (fun h => absurd h (by decide)) (fun _ => ?_)
  refine hw_aload0 X dX7_init_99 ?_
  refine hw_getR 0 X fkX7_13 rfl rfl dX7_init_100 ?_
  refine hw_iload1 X dX7_init_103 ?_
  refine hw_new X hA nwX7_11 rfl rfl dX7_init_104 (fun q26 => ?_)
  refine hw_ws (ws2 := [(a, .inr (7, [.ref q1, .ref q2, .ref q8, .ref q11, .ref q16, .ref q19, .ref q21, .int 0, .int 0])), (q1, .inl (cI 3, 4, .inr (.inr (.inr (.inr (fun _ => none)))))), (q2, .inr (0, [.int 0, .int 0, .int 0, .ref q3, .ref q4, .ref q5, .ref q6, .ref q7])), (q3, .inl (cI 0, 7, .inl (fun _ => 0))), (q4, .inl (cI 0, 7, .inl (fun _ => 0))), (q5, .inl (cI 0, 7, .inl (fun _ => 0))), (q6, .inl (cI 0, 7, .inl (fun _ => 0))), (q7, .inl (cI 1, 7, .inl (fun _ => 0))), (q8, .inr (5, [.ref q9, .ref q10])), (q9, .inl (cI 0, 7, .inl (fun _ => 0))), (q10, .inl (cI 0, 7, .inl (fun _ => 0))), (q11, .inr (6, [.ref q12, .ref q13, .int 0, .ref q14, .int 0, .ref q15])), (q12, .inl (cI 2, 256, .inr (.inl (fun _ => 0)))), (q13, .inl (cI 0, 630, .inl (fun _ => 0))), (q14, .inl (cI 0, 128, .inl (fun _ => 0))), (q15, .inl (cI 0, 128, .inl (fun _ => 0))), (q16, .inr (2, [.ref q17, .ref q18])), (q17, .inl (cI 0, 7, .inl (fun _ => 0))), (q18, .inl (cI 0, 128, .inl (fun _ => 0))), (q19, .inr (1, [.ref q20])), (q20, .inl (cI 0, 128, .inl (fun _ => 0))), (q21, .inr (3, [.int 0, .ref q22, .ref q23, .ref q24, .ref q25])), (q22, .inl (cI 0, 8, .inl (fun _ => 0))), (q23, .inl (cI 0, 8, .inl (fun _ => 0))), (q24, .inl (cI 0, 8, .inl (fun _ => 0))), (q25, .inl (cI 0, 8, .inl (fun _ => 0))), (q26, .inr (4, [.int 0, .int 0, .int 0, .null]))]) rfl ?_
  refine hw_cs (c2 := 26) (s2 := 1518) rfl rfl ?_
  refine hw_dup rfl X dX7_init_107 ?_
  refine hw_call (cells := 26) (slots := 1518) (pre := [(a, .inr (7, [.ref q1, .ref q2, .ref q8, .ref q11, .ref q16, .ref q19, .ref q21, .int 0, .int 0])), (q1, .inl (cI 3, 4, .inr (.inr (.inr (.inr (fun _ => none)))))), (q2, .inr (0, [.int 0, .int 0, .int 0, .ref q3, .ref q4, .ref q5, .ref q6, .ref q7])), (q3, .inl (cI 0, 7, .inl (fun _ => 0))), (q4, .inl (cI 0, 7, .inl (fun _ => 0))), (q5, .inl (cI 0, 7, .inl (fun _ => 0))), (q6, .inl (cI 0, 7, .inl (fun _ => 0))), (q7, .inl (cI 1, 7, .inl (fun _ => 0))), (q8, .inr (5, [.ref q9, .ref q10])), (q9, .inl (cI 0, 7, .inl (fun _ => 0))), (q10, .inl (cI 0, 7, .inl (fun _ => 0))), (q11, .inr (6, [.ref q12, .ref q13, .int 0, .ref q14, .int 0, .ref q15])), (q12, .inl (cI 2, 256, .inr (.inl (fun _ => 0)))), (q13, .inl (cI 0, 630, .inl (fun _ => 0))), (q14, .inl (cI 0, 128, .inl (fun _ => 0))), (q15, .inl (cI 0, 128, .inl (fun _ => 0))), (q16, .inr (2, [.ref q17, .ref q18])), (q17, .inl (cI 0, 7, .inl (fun _ => 0))), (q18, .inl (cI 0, 128, .inl (fun _ => 0))), (q19, .inr (1, [.ref q20])), (q20, .inl (cI 0, 128, .inl (fun _ => 0))), (q21, .inr (3, [.int 0, .ref q22, .ref q23, .ref q24, .ref q25])), (q22, .inl (cI 0, 8, .inl (fun _ => 0))), (q23, .inl (cI 0, 8, .inl (fun _ => 0))), (q24, .inl (cI 0, 8, .inl (fun _ => 0))), (q25, .inl (cI 0, 8, .inl (fun _ => 0)))]) (a := q26) (st := [.ref q26, .int 0, .ref q1]) X hA hO lkKX7_66 mkK4 (cK4 l) rfl rfl rfl rfl rfl dX7_init_108 ?_
  rintro _ ⟨q27, rfl⟩
  refine hw_ws (ws2 := [(a, .inr (7, [.ref q1, .ref q2, .ref q8, .ref q11, .ref q16, .ref q19, .ref q21, .int 0, .int 0])), (q1, .inl (cI 3, 4, .inr (.inr (.inr (.inr (fun _ => none)))))), (q2, .inr (0, [.int 0, .int 0, .int 0, .ref q3, .ref q4, .ref q5, .ref q6, .ref q7])), (q3, .inl (cI 0, 7, .inl (fun _ => 0))), (q4, .inl (cI 0, 7, .inl (fun _ => 0))), (q5, .inl (cI 0, 7, .inl (fun _ => 0))), (q6, .inl (cI 0, 7, .inl (fun _ => 0))), (q7, .inl (cI 1, 7, .inl (fun _ => 0))), (q8, .inr (5, [.ref q9, .ref q10])), (q9, .inl (cI 0, 7, .inl (fun _ => 0))), (q10, .inl (cI 0, 7, .inl (fun _ => 0))), (q11, .inr (6, [.ref q12, .ref q13, .int 0, .ref q14, .int 0, .ref q15])), (q12, .inl (cI 2, 256, .inr (.inl (fun _ => 0)))), (q13, .inl (cI 0, 630, .inl (fun _ => 0))), (q14, .inl (cI 0, 128, .inl (fun _ => 0))), (q15, .inl (cI 0, 128, .inl (fun _ => 0))), (q16, .inr (2, [.ref q17, .ref q18])), (q17, .inl (cI 0, 7, .inl (fun _ => 0))), (q18, .inl (cI 0, 128, .inl (fun _ => 0))), (q19, .inr (1, [.ref q20])), (q20, .inl (cI 0, 128, .inl (fun _ => 0))), (q21, .inr (3, [.int 0, .ref q22, .ref q23, .ref q24, .ref q25])), (q22, .inl (cI 0, 8, .inl (fun _ => 0))), (q23, .inl (cI 0, 8, .inl (fun _ => 0))), (q24, .inl (cI 0, 8, .inl (fun _ => 0))), (q25, .inl (cI 0, 8, .inl (fun _ => 0))), (q26, .inr (4, [.int 0, .int 0, .int 0, .ref q27])), (q27, .inl (cI 0, 50, .inl (fun _ => 0)))]) rfl ?_
  refine hw_cs (c2 := 27) (s2 := 1568) rfl rfl ?_
  refine hw_astq 1 26 X rfl rfl (show ow_inn _ _ by decide +kernel) dX7_init_111 ?_
  refine hw_ws (ws2 := [(a, .inr (7, [.ref q1, .ref q2, .ref q8, .ref q11, .ref q16, .ref q19, .ref q21, .int 0, .int 0])), (q1, .inl (cI 3, 4, .inr (.inr (.inr (.inr (va_up (fun _ => none) 0 (some q26))))))), (q2, .inr (0, [.int 0, .int 0, .int 0, .ref q3, .ref q4, .ref q5, .ref q6, .ref q7])), (q3, .inl (cI 0, 7, .inl (fun _ => 0))), (q4, .inl (cI 0, 7, .inl (fun _ => 0))), (q5, .inl (cI 0, 7, .inl (fun _ => 0))), (q6, .inl (cI 0, 7, .inl (fun _ => 0))), (q7, .inl (cI 1, 7, .inl (fun _ => 0))), (q8, .inr (5, [.ref q9, .ref q10])), (q9, .inl (cI 0, 7, .inl (fun _ => 0))), (q10, .inl (cI 0, 7, .inl (fun _ => 0))), (q11, .inr (6, [.ref q12, .ref q13, .int 0, .ref q14, .int 0, .ref q15])), (q12, .inl (cI 2, 256, .inr (.inl (fun _ => 0)))), (q13, .inl (cI 0, 630, .inl (fun _ => 0))), (q14, .inl (cI 0, 128, .inl (fun _ => 0))), (q15, .inl (cI 0, 128, .inl (fun _ => 0))), (q16, .inr (2, [.ref q17, .ref q18])), (q17, .inl (cI 0, 7, .inl (fun _ => 0))), (q18, .inl (cI 0, 128, .inl (fun _ => 0))), (q19, .inr (1, [.ref q20])), (q20, .inl (cI 0, 128, .inl (fun _ => 0))), (q21, .inr (3, [.int 0, .ref q22, .ref q23, .ref q24, .ref q25])), (q22, .inl (cI 0, 8, .inl (fun _ => 0))), (q23, .inl (cI 0, 8, .inl (fun _ => 0))), (q24, .inl (cI 0, 8, .inl (fun _ => 0))), (q25, .inl (cI 0, 8, .inl (fun _ => 0))), (q26, .inr (4, [.int 0, .int 0, .int 0, .ref q27])), (q27, .inl (cI 0, 50, .inl (fun _ => 0)))]) rfl ?_
  refine hw_iinc1 1 X dX7_init_112 (by decide) rfl (by decide) ?_
  refine hw_goto (tgt := 90) rfl X dX7_init_115 ?_
  refine hw_iload1 X dX7_init_90 ?_
  refine hw_aload0 X dX7_init_91 ?_
  refine hw_getR 0 X fkX7_13 rfl rfl dX7_init_92 ?_
  refine hw_alenq 4 1 X rfl (by decide) dX7_init_95 ?_
  refine hw_icmp_ge (tgt := 118) rfl X dX7_init_96 (fun h => absurd h (by decide)) (fun _ => ?_)
  refine hw_aload0 X dX7_init_99 ?_
  refine hw_getR 0 X fkX7_13 rfl rfl dX7_init_100 ?_
  refine hw_iload1 X dX7_init_103 ?_
  refine hw_new X hA nwX7_11 rfl rfl dX7_init_104 (fun q28 => ?_)
  refine hw_ws (ws2 := [(a, .inr (7, [.ref q1, .ref q2, .ref q8, .ref q11, .ref q16, .ref q19, .ref q21, .int 0, .int 0])), (q1, .inl (cI 3, 4, .inr (.inr (.inr (.inr (va_up (fun _ => none) 0 (some q26))))))), (q2, .inr (0, [.int 0, .int 0, .int 0, .ref q3, .ref q4, .ref q5, .ref q6, .ref q7])), (q3, .inl (cI 0, 7, .inl (fun _ => 0))), (q4, .inl (cI 0, 7, .inl (fun _ => 0))), (q5, .inl (cI 0, 7, .inl (fun _ => 0))), (q6, .inl (cI 0, 7, .inl (fun _ => 0))), (q7, .inl (cI 1, 7, .inl (fun _ => 0))), (q8, .inr (5, [.ref q9, .ref q10])), (q9, .inl (cI 0, 7, .inl (fun _ => 0))), (q10, .inl (cI 0, 7, .inl (fun _ => 0))), (q11, .inr (6, [.ref q12, .ref q13, .int 0, .ref q14, .int 0, .ref q15])), (q12, .inl (cI 2, 256, .inr (.inl (fun _ => 0)))), (q13, .inl (cI 0, 630, .inl (fun _ => 0))), (q14, .inl (cI 0, 128, .inl (fun _ => 0))), (q15, .inl (cI 0, 128, .inl (fun _ => 0))), (q16, .inr (2, [.ref q17, .ref q18])), (q17, .inl (cI 0, 7, .inl (fun _ => 0))), (q18, .inl (cI 0, 128, .inl (fun _ => 0))), (q19, .inr (1, [.ref q20])), (q20, .inl (cI 0, 128, .inl (fun _ => 0))), (q21, .inr (3, [.int 0, .ref q22, .ref q23, .ref q24, .ref q25])), (q22, .inl (cI 0, 8, .inl (fun _ => 0))), (q23, .inl (cI 0, 8, .inl (fun _ => 0))), (q24, .inl (cI 0, 8, .inl (fun _ => 0))), (q25, .inl (cI 0, 8, .inl (fun _ => 0))), (q26, .inr (4, [.int 0, .int 0, .int 0, .ref q27])), (q27, .inl (cI 0, 50, .inl (fun _ => 0))), (q28, .inr (4, [.int 0, .int 0, .int 0, .null]))]) rfl ?_
  refine hw_cs (c2 := 28) (s2 := 1572) rfl rfl ?_
  refine hw_dup rfl X dX7_init_107 ?_
  refine hw_call (cells := 28) (slots := 1572) (pre := [(a, .inr (7, [.ref q1, .ref q2, .ref q8, .ref q11, .ref q16, .ref q19, .ref q21, .int 0, .int 0])), (q1, .inl (cI 3, 4, .inr (.inr (.inr (.inr (va_up (fun _ => none) 0 (some q26))))))), (q2, .inr (0, [.int 0, .int 0, .int 0, .ref q3, .ref q4, .ref q5, .ref q6, .ref q7])), (q3, .inl (cI 0, 7, .inl (fun _ => 0))), (q4, .inl (cI 0, 7, .inl (fun _ => 0))), (q5, .inl (cI 0, 7, .inl (fun _ => 0))), (q6, .inl (cI 0, 7, .inl (fun _ => 0))), (q7, .inl (cI 1, 7, .inl (fun _ => 0))), (q8, .inr (5, [.ref q9, .ref q10])), (q9, .inl (cI 0, 7, .inl (fun _ => 0))), (q10, .inl (cI 0, 7, .inl (fun _ => 0))), (q11, .inr (6, [.ref q12, .ref q13, .int 0, .ref q14, .int 0, .ref q15])), (q12, .inl (cI 2, 256, .inr (.inl (fun _ => 0)))), (q13, .inl (cI 0, 630, .inl (fun _ => 0))), (q14, .inl (cI 0, 128, .inl (fun _ => 0))), (q15, .inl (cI 0, 128, .inl (fun _ => 0))), (q16, .inr (2, [.ref q17, .ref q18])), (q17, .inl (cI 0, 7, .inl (fun _ => 0))), (q18, .inl (cI 0, 128, .inl (fun _ => 0))), (q19, .inr (1, [.ref q20])), (q20, .inl (cI 0, 128, .inl (fun _ => 0))), (q21, .inr (3, [.int 0, .ref q22, .ref q23, .ref q24, .ref q25])), (q22, .inl (cI 0, 8, .inl (fun _ => 0))), (q23, .inl (cI 0, 8, .inl (fun _ => 0))), (q24, .inl (cI 0, 8, .inl (fun _ => 0))), (q25, .inl (cI 0, 8, .inl (fun _ => 0))), (q26, .inr (4, [.int 0, .int 0, .int 0, .ref q27])), (q27, .inl (cI 0, 50, .inl (fun _ => 0)))]) (a := q28) (st := [.ref q28, .int 1, .ref q1]) X hA hO lkKX7_66 mkK4 (cK4 l) rfl rfl rfl rfl rfl dX7_init_108 ?_
  rintro _ ⟨q29, rfl⟩
  refine hw_ws (ws2 := [(a, .inr (7, [.ref q1, .ref q2, .ref q8, .ref q11, .ref q16, .ref q19, .ref q21, .int 0, .int 0])), (q1, .inl (cI 3, 4, .inr (.inr (.inr (.inr (va_up (fun _ => none) 0 (some q26))))))), (q2, .inr (0, [.int 0, .int 0, .int 0, .ref q3, .ref q4, .ref q5, .ref q6, .ref q7])), (q3, .inl (cI 0, 7, .inl (fun _ => 0))), (q4, .inl (cI 0, 7, .inl (fun _ => 0))), (q5, .inl (cI 0, 7, .inl (fun _ => 0))), (q6, .inl (cI 0, 7, .inl (fun _ => 0))), (q7, .inl (cI 1, 7, .inl (fun _ => 0))), (q8, .inr (5, [.ref q9, .ref q10])), (q9, .inl (cI 0, 7, .inl (fun _ => 0))), (q10, .inl (cI 0, 7, .inl (fun _ => 0))), (q11, .inr (6, [.ref q12, .ref q13, .int 0, .ref q14, .int 0, .ref q15])), (q12, .inl (cI 2, 256, .inr (.inl (fun _ => 0)))), (q13, .inl (cI 0, 630, .inl (fun _ => 0))), (q14, .inl (cI 0, 128, .inl (fun _ => 0))), (q15, .inl (cI 0, 128, .inl (fun _ => 0))), (q16, .inr (2, [.ref q17, .ref q18])), (q17, .inl (cI 0, 7, .inl (fun _ => 0))), (q18, .inl (cI 0, 128, .inl (fun _ => 0))), (q19, .inr (1, [.ref q20])), (q20, .inl (cI 0, 128, .inl (fun _ => 0))), (q21, .inr (3, [.int 0, .ref q22, .ref q23, .ref q24, .ref q25])), (q22, .inl (cI 0, 8, .inl (fun _ => 0))), (q23, .inl (cI 0, 8, .inl (fun _ => 0))), (q24, .inl (cI 0, 8, .inl (fun _ => 0))), (q25, .inl (cI 0, 8, .inl (fun _ => 0))), (q26, .inr (4, [.int 0, .int 0, .int 0, .ref q27])), (q27, .inl (cI 0, 50, .inl (fun _ => 0))), (q28, .inr (4, [.int 0, .int 0, .int 0, .ref q29])), (q29, .inl (cI 0, 50, .inl (fun _ => 0)))]) rfl ?_
  refine hw_cs (c2 := 29) (s2 := 1622) rfl rfl ?_
  refine hw_astq 1 28 X rfl rfl (show ow_inn _ _ by decide +kernel) dX7_init_111 ?_
  refine hw_ws (ws2 := [(a, .inr (7, [.ref q1, .ref q2, .ref q8, .ref q11, .ref q16, .ref q19, .ref q21, .int 0, .int 0])), (q1, .inl (cI 3, 4, .inr (.inr (.inr (.inr (va_up (va_up (fun _ => none) 0 (some q26)) 1 (some q28))))))), (q2, .inr (0, [.int 0, .int 0, .int 0, .ref q3, .ref q4, .ref q5, .ref q6, .ref q7])), (q3, .inl (cI 0, 7, .inl (fun _ => 0))), (q4, .inl (cI 0, 7, .inl (fun _ => 0))), (q5, .inl (cI 0, 7, .inl (fun _ => 0))), (q6, .inl (cI 0, 7, .inl (fun _ => 0))), (q7, .inl (cI 1, 7, .inl (fun _ => 0))), (q8, .inr (5, [.ref q9, .ref q10])), (q9, .inl (cI 0, 7, .inl (fun _ => 0))), (q10, .inl (cI 0, 7, .inl (fun _ => 0))), (q11, .inr (6, [.ref q12, .ref q13, .int 0, .ref q14, .int 0, .ref q15])), (q12, .inl (cI 2, 256, .inr (.inl (fun _ => 0)))), (q13, .inl (cI 0, 630, .inl (fun _ => 0))), (q14, .inl (cI 0, 128, .inl (fun _ => 0))), (q15, .inl (cI 0, 128, .inl (fun _ => 0))), (q16, .inr (2, [.ref q17, .ref q18])), (q17, .inl (cI 0, 7, .inl (fun _ => 0))), (q18, .inl (cI 0, 128, .inl (fun _ => 0))), (q19, .inr (1, [.ref q20])), (q20, .inl (cI 0, 128, .inl (fun _ => 0))), (q21, .inr (3, [.int 0, .ref q22, .ref q23, .ref q24, .ref q25])), (q22, .inl (cI 0, 8, .inl (fun _ => 0))), (q23, .inl (cI 0, 8, .inl (fun _ => 0))), (q24, .inl (cI 0, 8, .inl (fun _ => 0))), (q25, .inl (cI 0, 8, .inl (fun _ => 0))), (q26, .inr (4, [.int 0, .int 0, .int 0, .ref q27])), (q27, .inl (cI 0, 50, .inl (fun _ => 0))), (q28, .inr (4, [.int 0, .int 0, .int 0, .ref q29])), (q29, .inl (cI 0, 50, .inl (fun _ => 0)))]) rfl ?_
  refine hw_iinc1 2 X dX7_init_112 (by decide) rfl (by decide) ?_
  refine hw_goto (tgt := 90) rfl X dX7_init_115 ?_
  refine hw_iload1 X dX7_init_90 ?_
  refine hw_aload0 X dX7_init_91 ?_
  refine hw_getR 0 X fkX7_13 rfl rfl dX7_init_92 ?_
  refine hw_alenq 4 1 X rfl (by decide) dX7_init_95 ?_
  refine hw_icmp_ge (tgt := 118) rfl X dX7_init_96 (fun h => absurd h (by decide)) (fun _ => ?_)
  refine hw_aload0 X dX7_init_99 ?_
  refine hw_getR 0 X fkX7_13 rfl rfl dX7_init_100 ?_
  refine hw_iload1 X dX7_init_103 ?_
  refine hw_new X hA nwX7_11 rfl rfl dX7_init_104 (fun q30 => ?_)
  refine hw_ws (ws2 := [(a, .inr (7, [.ref q1, .ref q2, .ref q8, .ref q11, .ref q16, .ref q19, .ref q21, .int 0, .int 0])), (q1, .inl (cI 3, 4, .inr (.inr (.inr (.inr (va_up (va_up (fun _ => none) 0 (some q26)) 1 (some q28))))))), (q2, .inr (0, [.int 0, .int 0, .int 0, .ref q3, .ref q4, .ref q5, .ref q6, .ref q7])), (q3, .inl (cI 0, 7, .inl (fun _ => 0))), (q4, .inl (cI 0, 7, .inl (fun _ => 0))), (q5, .inl (cI 0, 7, .inl (fun _ => 0))), (q6, .inl (cI 0, 7, .inl (fun _ => 0))), (q7, .inl (cI 1, 7, .inl (fun _ => 0))), (q8, .inr (5, [.ref q9, .ref q10])), (q9, .inl (cI 0, 7, .inl (fun _ => 0))), (q10, .inl (cI 0, 7, .inl (fun _ => 0))), (q11, .inr (6, [.ref q12, .ref q13, .int 0, .ref q14, .int 0, .ref q15])), (q12, .inl (cI 2, 256, .inr (.inl (fun _ => 0)))), (q13, .inl (cI 0, 630, .inl (fun _ => 0))), (q14, .inl (cI 0, 128, .inl (fun _ => 0))), (q15, .inl (cI 0, 128, .inl (fun _ => 0))), (q16, .inr (2, [.ref q17, .ref q18])), (q17, .inl (cI 0, 7, .inl (fun _ => 0))), (q18, .inl (cI 0, 128, .inl (fun _ => 0))), (q19, .inr (1, [.ref q20])), (q20, .inl (cI 0, 128, .inl (fun _ => 0))), (q21, .inr (3, [.int 0, .ref q22, .ref q23, .ref q24, .ref q25])), (q22, .inl (cI 0, 8, .inl (fun _ => 0))), (q23, .inl (cI 0, 8, .inl (fun _ => 0))), (q24, .inl (cI 0, 8, .inl (fun _ => 0))), (q25, .inl (cI 0, 8, .inl (fun _ => 0))), (q26, .inr (4, [.int 0, .int 0, .int 0, .ref q27])), (q27, .inl (cI 0, 50, .inl (fun _ => 0))), (q28, .inr (4, [.int 0, .int 0, .int 0, .ref q29])), (q29, .inl (cI 0, 50, .inl (fun _ => 0))), (q30, .inr (4, [.int 0, .int 0, .int 0, .null]))]) rfl ?_
  refine hw_cs (c2 := 30) (s2 := 1626) rfl rfl ?_
  refine hw_dup rfl X dX7_init_107 ?_
  refine hw_call (cells := 30) (slots := 1626) (pre := [(a, .inr (7, [.ref q1, .ref q2, .ref q8, .ref q11, .ref q16, .ref q19, .ref q21, .int 0, .int 0])), (q1, .inl (cI 3, 4, .inr (.inr (.inr (.inr (va_up (va_up (fun _ => none) 0 (some q26)) 1 (some q28))))))), (q2, .inr (0, [.int 0, .int 0, .int 0, .ref q3, .ref q4, .ref q5, .ref q6, .ref q7])), (q3, .inl (cI 0, 7, .inl (fun _ => 0))), (q4, .inl (cI 0, 7, .inl (fun _ => 0))), (q5, .inl (cI 0, 7, .inl (fun _ => 0))), (q6, .inl (cI 0, 7, .inl (fun _ => 0))), (q7, .inl (cI 1, 7, .inl (fun _ => 0))), (q8, .inr (5, [.ref q9, .ref q10])), (q9, .inl (cI 0, 7, .inl (fun _ => 0))), (q10, .inl (cI 0, 7, .inl (fun _ => 0))), (q11, .inr (6, [.ref q12, .ref q13, .int 0, .ref q14, .int 0, .ref q15])), (q12, .inl (cI 2, 256, .inr (.inl (fun _ => 0)))), (q13, .inl (cI 0, 630, .inl (fun _ => 0))), (q14, .inl (cI 0, 128, .inl (fun _ => 0))), (q15, .inl (cI 0, 128, .inl (fun _ => 0))), (q16, .inr (2, [.ref q17, .ref q18])), (q17, .inl (cI 0, 7, .inl (fun _ => 0))), (q18, .inl (cI 0, 128, .inl (fun _ => 0))), (q19, .inr (1, [.ref q20])), (q20, .inl (cI 0, 128, .inl (fun _ => 0))), (q21, .inr (3, [.int 0, .ref q22, .ref q23, .ref q24, .ref q25])), (q22, .inl (cI 0, 8, .inl (fun _ => 0))), (q23, .inl (cI 0, 8, .inl (fun _ => 0))), (q24, .inl (cI 0, 8, .inl (fun _ => 0))), (q25, .inl (cI 0, 8, .inl (fun _ => 0))), (q26, .inr (4, [.int 0, .int 0, .int 0, .ref q27])), (q27, .inl (cI 0, 50, .inl (fun _ => 0))), (q28, .inr (4, [.int 0, .int 0, .int 0, .ref q29])), (q29, .inl (cI 0, 50, .inl (fun _ => 0)))]) (a := q30) (st := [.ref q30, .int 2, .ref q1]) X hA hO lkKX7_66 mkK4 (cK4 l) rfl rfl rfl rfl rfl dX7_init_108 ?_
  rintro _ ⟨q31, rfl⟩
  refine hw_ws (ws2 := [(a, .inr (7, [.ref q1, .ref q2, .ref q8, .ref q11, .ref q16, .ref q19, .ref q21, .int 0, .int 0])), (q1, .inl (cI 3, 4, .inr (.inr (.inr (.inr (va_up (va_up (fun _ => none) 0 (some q26)) 1 (some q28))))))), (q2, .inr (0, [.int 0, .int 0, .int 0, .ref q3, .ref q4, .ref q5, .ref q6, .ref q7])), (q3, .inl (cI 0, 7, .inl (fun _ => 0))), (q4, .inl (cI 0, 7, .inl (fun _ => 0))), (q5, .inl (cI 0, 7, .inl (fun _ => 0))), (q6, .inl (cI 0, 7, .inl (fun _ => 0))), (q7, .inl (cI 1, 7, .inl (fun _ => 0))), (q8, .inr (5, [.ref q9, .ref q10])), (q9, .inl (cI 0, 7, .inl (fun _ => 0))), (q10, .inl (cI 0, 7, .inl (fun _ => 0))), (q11, .inr (6, [.ref q12, .ref q13, .int 0, .ref q14, .int 0, .ref q15])), (q12, .inl (cI 2, 256, .inr (.inl (fun _ => 0)))), (q13, .inl (cI 0, 630, .inl (fun _ => 0))), (q14, .inl (cI 0, 128, .inl (fun _ => 0))), (q15, .inl (cI 0, 128, .inl (fun _ => 0))), (q16, .inr (2, [.ref q17, .ref q18])), (q17, .inl (cI 0, 7, .inl (fun _ => 0))), (q18, .inl (cI 0, 128, .inl (fun _ => 0))), (q19, .inr (1, [.ref q20])), (q20, .inl (cI 0, 128, .inl (fun _ => 0))), (q21, .inr (3, [.int 0, .ref q22, .ref q23, .ref q24, .ref q25])), (q22, .inl (cI 0, 8, .inl (fun _ => 0))), (q23, .inl (cI 0, 8, .inl (fun _ => 0))), (q24, .inl (cI 0, 8, .inl (fun _ => 0))), (q25, .inl (cI 0, 8, .inl (fun _ => 0))), (q26, .inr (4, [.int 0, .int 0, .int 0, .ref q27])), (q27, .inl (cI 0, 50, .inl (fun _ => 0))), (q28, .inr (4, [.int 0, .int 0, .int 0, .ref q29])), (q29, .inl (cI 0, 50, .inl (fun _ => 0))), (q30, .inr (4, [.int 0, .int 0, .int 0, .ref q31])), (q31, .inl (cI 0, 50, .inl (fun _ => 0)))]) rfl ?_
  refine hw_cs (c2 := 31) (s2 := 1676) rfl rfl ?_
  refine hw_astq 1 30 X rfl rfl (show ow_inn _ _ by decide +kernel) dX7_init_111 ?_
  refine hw_ws (ws2 := [(a, .inr (7, [.ref q1, .ref q2, .ref q8, .ref q11, .ref q16, .ref q19, .ref q21, .int 0, .int 0])), (q1, .inl (cI 3, 4, .inr (.inr (.inr (.inr (va_up (va_up (va_up (fun _ => none) 0 (some q26)) 1 (some q28)) 2 (some q30))))))), (q2, .inr (0, [.int 0, .int 0, .int 0, .ref q3, .ref q4, .ref q5, .ref q6, .ref q7])), (q3, .inl (cI 0, 7, .inl (fun _ => 0))), (q4, .inl (cI 0, 7, .inl (fun _ => 0))), (q5, .inl (cI 0, 7, .inl (fun _ => 0))), (q6, .inl (cI 0, 7, .inl (fun _ => 0))), (q7, .inl (cI 1, 7, .inl (fun _ => 0))), (q8, .inr (5, [.ref q9, .ref q10])), (q9, .inl (cI 0, 7, .inl (fun _ => 0))), (q10, .inl (cI 0, 7, .inl (fun _ => 0))), (q11, .inr (6, [.ref q12, .ref q13, .int 0, .ref q14, .int 0, .ref q15])), (q12, .inl (cI 2, 256, .inr (.inl (fun _ => 0)))), (q13, .inl (cI 0, 630, .inl (fun _ => 0))), (q14, .inl (cI 0, 128, .inl (fun _ => 0))), (q15, .inl (cI 0, 128, .inl (fun _ => 0))), (q16, .inr (2, [.ref q17, .ref q18])), (q17, .inl (cI 0, 7, .inl (fun _ => 0))), (q18, .inl (cI 0, 128, .inl (fun _ => 0))), (q19, .inr (1, [.ref q20])), (q20, .inl (cI 0, 128, .inl (fun _ => 0))), (q21, .inr (3, [.int 0, .ref q22, .ref q23, .ref q24, .ref q25])), (q22, .inl (cI 0, 8, .inl (fun _ => 0))), (q23, .inl (cI 0, 8, .inl (fun _ => 0))), (q24, .inl (cI 0, 8, .inl (fun _ => 0))), (q25, .inl (cI 0, 8, .inl (fun _ => 0))), (q26, .inr (4, [.int 0, .int 0, .int 0, .ref q27])), (q27, .inl (cI 0, 50, .inl (fun _ => 0))), (q28, .inr (4, [.int 0, .int 0, .int 0, .ref q29])), (q29, .inl (cI 0, 50, .inl (fun _ => 0))), (q30, .inr (4, [.int 0, .int 0, .int 0, .ref q31])), (q31, .inl (cI 0, 50, .inl (fun _ => 0)))]) rfl ?_
  refine hw_iinc1 3 X dX7_init_112 (by decide) rfl (by decide) ?_
  refine hw_goto (tgt := 90) rfl X dX7_init_115 ?_
  refine hw_iload1 X dX7_init_90 ?_
  refine hw_aload0 X dX7_init_91 ?_
  refine hw_getR 0 X fkX7_13 rfl rfl dX7_init_92 ?_
  refine hw_alenq 4 1 X rfl (by decide) dX7_init_95 ?_
  refine hw_icmp_ge (tgt := 118) rfl X dX7_init_96 (fun h => absurd h (by decide)) (fun _ => ?_)
  refine hw_aload0 X dX7_init_99 ?_
  refine hw_getR 0 X fkX7_13 rfl rfl dX7_init_100 ?_
  refine hw_iload1 X dX7_init_103 ?_
  refine hw_new X hA nwX7_11 rfl rfl dX7_init_104 (fun q32 => ?_)
  refine hw_ws (ws2 := [(a, .inr (7, [.ref q1, .ref q2, .ref q8, .ref q11, .ref q16, .ref q19, .ref q21, .int 0, .int 0])), (q1, .inl (cI 3, 4, .inr (.inr (.inr (.inr (va_up (va_up (va_up (fun _ => none) 0 (some q26)) 1 (some q28)) 2 (some q30))))))), (q2, .inr (0, [.int 0, .int 0, .int 0, .ref q3, .ref q4, .ref q5, .ref q6, .ref q7])), (q3, .inl (cI 0, 7, .inl (fun _ => 0))), (q4, .inl (cI 0, 7, .inl (fun _ => 0))), (q5, .inl (cI 0, 7, .inl (fun _ => 0))), (q6, .inl (cI 0, 7, .inl (fun _ => 0))), (q7, .inl (cI 1, 7, .inl (fun _ => 0))), (q8, .inr (5, [.ref q9, .ref q10])), (q9, .inl (cI 0, 7, .inl (fun _ => 0))), (q10, .inl (cI 0, 7, .inl (fun _ => 0))), (q11, .inr (6, [.ref q12, .ref q13, .int 0, .ref q14, .int 0, .ref q15])), (q12, .inl (cI 2, 256, .inr (.inl (fun _ => 0)))), (q13, .inl (cI 0, 630, .inl (fun _ => 0))), (q14, .inl (cI 0, 128, .inl (fun _ => 0))), (q15, .inl (cI 0, 128, .inl (fun _ => 0))), (q16, .inr (2, [.ref q17, .ref q18])), (q17, .inl (cI 0, 7, .inl (fun _ => 0))), (q18, .inl (cI 0, 128, .inl (fun _ => 0))), (q19, .inr (1, [.ref q20])), (q20, .inl (cI 0, 128, .inl (fun _ => 0))), (q21, .inr (3, [.int 0, .ref q22, .ref q23, .ref q24, .ref q25])), (q22, .inl (cI 0, 8, .inl (fun _ => 0))), (q23, .inl (cI 0, 8, .inl (fun _ => 0))), (q24, .inl (cI 0, 8, .inl (fun _ => 0))), (q25, .inl (cI 0, 8, .inl (fun _ => 0))), (q26, .inr (4, [.int 0, .int 0, .int 0, .ref q27])), (q27, .inl (cI 0, 50, .inl (fun _ => 0))), (q28, .inr (4, [.int 0, .int 0, .int 0, .ref q29])), (q29, .inl (cI 0, 50, .inl (fun _ => 0))), (q30, .inr (4, [.int 0, .int 0, .int 0, .ref q31])), (q31, .inl (cI 0, 50, .inl (fun _ => 0))), (q32, .inr (4, [.int 0, .int 0, .int 0, .null]))]) rfl ?_
  refine hw_cs (c2 := 32) (s2 := 1680) rfl rfl ?_
  refine hw_dup rfl X dX7_init_107 ?_
  refine hw_call (cells := 32) (slots := 1680) (pre := [(a, .inr (7, [.ref q1, .ref q2, .ref q8, .ref q11, .ref q16, .ref q19, .ref q21, .int 0, .int 0])), (q1, .inl (cI 3, 4, .inr (.inr (.inr (.inr (va_up (va_up (va_up (fun _ => none) 0 (some q26)) 1 (some q28)) 2 (some q30))))))), (q2, .inr (0, [.int 0, .int 0, .int 0, .ref q3, .ref q4, .ref q5, .ref q6, .ref q7])), (q3, .inl (cI 0, 7, .inl (fun _ => 0))), (q4, .inl (cI 0, 7, .inl (fun _ => 0))), (q5, .inl (cI 0, 7, .inl (fun _ => 0))), (q6, .inl (cI 0, 7, .inl (fun _ => 0))), (q7, .inl (cI 1, 7, .inl (fun _ => 0))), (q8, .inr (5, [.ref q9, .ref q10])), (q9, .inl (cI 0, 7, .inl (fun _ => 0))), (q10, .inl (cI 0, 7, .inl (fun _ => 0))), (q11, .inr (6, [.ref q12, .ref q13, .int 0, .ref q14, .int 0, .ref q15])), (q12, .inl (cI 2, 256, .inr (.inl (fun _ => 0)))), (q13, .inl (cI 0, 630, .inl (fun _ => 0))), (q14, .inl (cI 0, 128, .inl (fun _ => 0))), (q15, .inl (cI 0, 128, .inl (fun _ => 0))), (q16, .inr (2, [.ref q17, .ref q18])), (q17, .inl (cI 0, 7, .inl (fun _ => 0))), (q18, .inl (cI 0, 128, .inl (fun _ => 0))), (q19, .inr (1, [.ref q20])), (q20, .inl (cI 0, 128, .inl (fun _ => 0))), (q21, .inr (3, [.int 0, .ref q22, .ref q23, .ref q24, .ref q25])), (q22, .inl (cI 0, 8, .inl (fun _ => 0))), (q23, .inl (cI 0, 8, .inl (fun _ => 0))), (q24, .inl (cI 0, 8, .inl (fun _ => 0))), (q25, .inl (cI 0, 8, .inl (fun _ => 0))), (q26, .inr (4, [.int 0, .int 0, .int 0, .ref q27])), (q27, .inl (cI 0, 50, .inl (fun _ => 0))), (q28, .inr (4, [.int 0, .int 0, .int 0, .ref q29])), (q29, .inl (cI 0, 50, .inl (fun _ => 0))), (q30, .inr (4, [.int 0, .int 0, .int 0, .ref q31])), (q31, .inl (cI 0, 50, .inl (fun _ => 0)))]) (a := q32) (st := [.ref q32, .int 3, .ref q1]) X hA hO lkKX7_66 mkK4 (cK4 l) rfl rfl rfl rfl rfl dX7_init_108 ?_
  rintro _ ⟨q33, rfl⟩
  refine hw_ws (ws2 := [(a, .inr (7, [.ref q1, .ref q2, .ref q8, .ref q11, .ref q16, .ref q19, .ref q21, .int 0, .int 0])), (q1, .inl (cI 3, 4, .inr (.inr (.inr (.inr (va_up (va_up (va_up (fun _ => none) 0 (some q26)) 1 (some q28)) 2 (some q30))))))), (q2, .inr (0, [.int 0, .int 0, .int 0, .ref q3, .ref q4, .ref q5, .ref q6, .ref q7])), (q3, .inl (cI 0, 7, .inl (fun _ => 0))), (q4, .inl (cI 0, 7, .inl (fun _ => 0))), (q5, .inl (cI 0, 7, .inl (fun _ => 0))), (q6, .inl (cI 0, 7, .inl (fun _ => 0))), (q7, .inl (cI 1, 7, .inl (fun _ => 0))), (q8, .inr (5, [.ref q9, .ref q10])), (q9, .inl (cI 0, 7, .inl (fun _ => 0))), (q10, .inl (cI 0, 7, .inl (fun _ => 0))), (q11, .inr (6, [.ref q12, .ref q13, .int 0, .ref q14, .int 0, .ref q15])), (q12, .inl (cI 2, 256, .inr (.inl (fun _ => 0)))), (q13, .inl (cI 0, 630, .inl (fun _ => 0))), (q14, .inl (cI 0, 128, .inl (fun _ => 0))), (q15, .inl (cI 0, 128, .inl (fun _ => 0))), (q16, .inr (2, [.ref q17, .ref q18])), (q17, .inl (cI 0, 7, .inl (fun _ => 0))), (q18, .inl (cI 0, 128, .inl (fun _ => 0))), (q19, .inr (1, [.ref q20])), (q20, .inl (cI 0, 128, .inl (fun _ => 0))), (q21, .inr (3, [.int 0, .ref q22, .ref q23, .ref q24, .ref q25])), (q22, .inl (cI 0, 8, .inl (fun _ => 0))), (q23, .inl (cI 0, 8, .inl (fun _ => 0))), (q24, .inl (cI 0, 8, .inl (fun _ => 0))), (q25, .inl (cI 0, 8, .inl (fun _ => 0))), (q26, .inr (4, [.int 0, .int 0, .int 0, .ref q27])), (q27, .inl (cI 0, 50, .inl (fun _ => 0))), (q28, .inr (4, [.int 0, .int 0, .int 0, .ref q29])), (q29, .inl (cI 0, 50, .inl (fun _ => 0))), (q30, .inr (4, [.int 0, .int 0, .int 0, .ref q31])), (q31, .inl (cI 0, 50, .inl (fun _ => 0))), (q32, .inr (4, [.int 0, .int 0, .int 0, .ref q33])), (q33, .inl (cI 0, 50, .inl (fun _ => 0)))]) rfl ?_
  refine hw_cs (c2 := 33) (s2 := 1730) rfl rfl ?_
  refine hw_astq 1 32 X rfl rfl (show ow_inn _ _ by decide +kernel) dX7_init_111 ?_
  refine hw_ws (ws2 := [(a, .inr (7, [.ref q1, .ref q2, .ref q8, .ref q11, .ref q16, .ref q19, .ref q21, .int 0, .int 0])), (q1, .inl (cI 3, 4, .inr (.inr (.inr (.inr (va_up (va_up (va_up (va_up (fun _ => none) 0 (some q26)) 1 (some q28)) 2 (some q30)) 3 (some q32))))))), (q2, .inr (0, [.int 0, .int 0, .int 0, .ref q3, .ref q4, .ref q5, .ref q6, .ref q7])), (q3, .inl (cI 0, 7, .inl (fun _ => 0))), (q4, .inl (cI 0, 7, .inl (fun _ => 0))), (q5, .inl (cI 0, 7, .inl (fun _ => 0))), (q6, .inl (cI 0, 7, .inl (fun _ => 0))), (q7, .inl (cI 1, 7, .inl (fun _ => 0))), (q8, .inr (5, [.ref q9, .ref q10])), (q9, .inl (cI 0, 7, .inl (fun _ => 0))), (q10, .inl (cI 0, 7, .inl (fun _ => 0))), (q11, .inr (6, [.ref q12, .ref q13, .int 0, .ref q14, .int 0, .ref q15])), (q12, .inl (cI 2, 256, .inr (.inl (fun _ => 0)))), (q13, .inl (cI 0, 630, .inl (fun _ => 0))), (q14, .inl (cI 0, 128, .inl (fun _ => 0))), (q15, .inl (cI 0, 128, .inl (fun _ => 0))), (q16, .inr (2, [.ref q17, .ref q18])), (q17, .inl (cI 0, 7, .inl (fun _ => 0))), (q18, .inl (cI 0, 128, .inl (fun _ => 0))), (q19, .inr (1, [.ref q20])), (q20, .inl (cI 0, 128, .inl (fun _ => 0))), (q21, .inr (3, [.int 0, .ref q22, .ref q23, .ref q24, .ref q25])), (q22, .inl (cI 0, 8, .inl (fun _ => 0))), (q23, .inl (cI 0, 8, .inl (fun _ => 0))), (q24, .inl (cI 0, 8, .inl (fun _ => 0))), (q25, .inl (cI 0, 8, .inl (fun _ => 0))), (q26, .inr (4, [.int 0, .int 0, .int 0, .ref q27])), (q27, .inl (cI 0, 50, .inl (fun _ => 0))), (q28, .inr (4, [.int 0, .int 0, .int 0, .ref q29])), (q29, .inl (cI 0, 50, .inl (fun _ => 0))), (q30, .inr (4, [.int 0, .int 0, .int 0, .ref q31])), (q31, .inl (cI 0, 50, .inl (fun _ => 0))), (q32, .inr (4, [.int 0, .int 0, .int 0, .ref q33])), (q33, .inl (cI 0, 50, .inl (fun _ => 0)))]) rfl ?_
  refine hw_iinc1 4 X dX7_init_112 (by decide) rfl (by decide) ?_
  refine hw_goto (tgt := 90) rfl X dX7_init_115 ?_
  refine hw_iload1 X dX7_init_90 ?_
  refine hw_aload0 X dX7_init_91 ?_
  refine hw_getR 0 X fkX7_13 rfl rfl dX7_init_92 ?_
  refine hw_alenq 4 1 X rfl (by decide) dX7_init_95 ?_
  refine hw_icmp_ge (tgt := 118) rfl X dX7_init_96 (fun _ => ?_) (fun h => absurd (by decide) h)
  exact hw_ret X hr hAe rfl rfl ⟨q1, q2, q3, q4, q5, q6, q7, q8, q9, q10, q11, q12, q13, q14, q15, q16, q17, q18, q19, q20, q21, q22, q23, q24, q25, q26, q27, q28, q29, q30, q31, q32, q33, rfl⟩ dX7_init_118

theorem ff8_9 : ow_ff RX8 9 8 2 (.array .int) := ⟨RX8, TX8, 32, rfl, cfX8, by decide, rfl, rfl, rfl, by decide +kernel, ow_mb 660 (by decide +kernel) rfl⟩
theorem ff8_13 : ow_ff RX8 13 8 3 (.array .int) := ⟨RX8, TX8, 32, rfl, cfX8, by decide, rfl, rfl, rfl, by decide +kernel, ow_mb 661 (by decide +kernel) rfl⟩
theorem ff8_16 : ow_ff RX8 16 8 4 (.array .int) := ⟨RX8, TX8, 32, rfl, cfX8, by decide, rfl, rfl, rfl, by decide +kernel, ow_mb 662 (by decide +kernel) rfl⟩
theorem ff8_19 : ow_ff RX8 19 8 8 (.array .int) := ⟨RX8, TX8, 32, rfl, cfX8, by decide, rfl, rfl, rfl, by decide +kernel, ow_mb 666 (by decide +kernel) rfl⟩
theorem ff8_22 : ow_ff RX8 22 8 9 (.array .int) := ⟨RX8, TX8, 32, rfl, cfX8, by decide, rfl, rfl, rfl, by decide +kernel, ow_mb 667 (by decide +kernel) rfl⟩
theorem ff8_25 : ow_ff RX8 25 8 10 (.array .int) := ⟨RX8, TX8, 32, rfl, cfX8, by decide, rfl, rfl, rfl, by decide +kernel, ow_mb 668 (by decide +kernel) rfl⟩
theorem ff8_28 : ow_ff RX8 28 8 11 (.array .int) := ⟨RX8, TX8, 32, rfl, cfX8, by decide, rfl, rfl, rfl, by decide +kernel, ow_mb 669 (by decide +kernel) rfl⟩
theorem ff8_31 : ow_ff RX8 31 8 15 (.array .int) := ⟨RX8, TX8, 32, rfl, cfX8, by decide, rfl, rfl, rfl, by decide +kernel, ow_mb 673 (by decide +kernel) rfl⟩
theorem ff8_34 : ow_ff RX8 34 8 16 (.array .int) := ⟨RX8, TX8, 32, rfl, cfX8, by decide, rfl, rfl, rfl, by decide +kernel, ow_mb 674 (by decide +kernel) rfl⟩
theorem ff8_37 : ow_ff RX8 37 8 17 (.array .int) := ⟨RX8, TX8, 32, rfl, cfX8, by decide, rfl, rfl, rfl, by decide +kernel, ow_mb 675 (by decide +kernel) rfl⟩
theorem ff8_40 : ow_ff RX8 40 8 18 (.array .int) := ⟨RX8, TX8, 32, rfl, cfX8, by decide, rfl, rfl, rfl, by decide +kernel, ow_mb 676 (by decide +kernel) rfl⟩
theorem ff8_43 : ow_ff RX8 43 8 19 (.array .int) := ⟨RX8, TX8, 32, rfl, cfX8, by decide, rfl, rfl, rfl, by decide +kernel, ow_mb 677 (by decide +kernel) rfl⟩
theorem ff8_46 : ow_ff RX8 46 8 20 (.array .int) := ⟨RX8, TX8, 32, rfl, cfX8, by decide, rfl, rfl, rfl, by decide +kernel, ow_mb 678 (by decide +kernel) rfl⟩
theorem ff8_49 : ow_ff RX8 49 8 21 (.array .int) := ⟨RX8, TX8, 32, rfl, cfX8, by decide, rfl, rfl, rfl, by decide +kernel, ow_mb 679 (by decide +kernel) rfl⟩
theorem ff8_52 : ow_ff RX8 52 8 22 (.array .int) := ⟨RX8, TX8, 32, rfl, cfX8, by decide, rfl, rfl, rfl, by decide +kernel, ow_mb 680 (by decide +kernel) rfl⟩
theorem ff8_55 : ow_ff RX8 55 8 24 (.array .int) := ⟨RX8, TX8, 32, rfl, cfX8, by decide, rfl, rfl, rfl, by decide +kernel, ow_mb 682 (by decide +kernel) rfl⟩
theorem ff8_58 : ow_ff RX8 58 8 25 (.array .int) := ⟨RX8, TX8, 32, rfl, cfX8, by decide, rfl, rfl, rfl, by decide +kernel, ow_mb 683 (by decide +kernel) rfl⟩
theorem ff8_61 : ow_ff RX8 61 8 26 (.array .int) := ⟨RX8, TX8, 32, rfl, cfX8, by decide, rfl, rfl, rfl, by decide +kernel, ow_mb 684 (by decide +kernel) rfl⟩
theorem ff8_64 : ow_ff RX8 64 8 28 (.array .int) := ⟨RX8, TX8, 32, rfl, cfX8, by decide, rfl, rfl, rfl, by decide +kernel, ow_mb 686 (by decide +kernel) rfl⟩
theorem ff8_67 : ow_ff RX8 67 8 29 (.array .int) := ⟨RX8, TX8, 32, rfl, cfX8, by decide, rfl, rfl, rfl, by decide +kernel, ow_mb 687 (by decide +kernel) rfl⟩
theorem ff8_70 : ow_ff RX8 70 8 30 (.array .int) := ⟨RX8, TX8, 32, rfl, cfX8, by decide, rfl, rfl, rfl, by decide +kernel, ow_mb 688 (by decide +kernel) rfl⟩
theorem ff8_73 : ow_ff RX8 73 8 31 (.array .int) := ⟨RX8, TX8, 32, rfl, cfX8, by decide, rfl, rfl, rfl, by decide +kernel, ow_mb 689 (by decide +kernel) rfl⟩
theorem lo8_1 : Cond.methodLink RX8 1 Lib.objectInit ∈ ow_base := ow_mb 657 (by decide +kernel) rfl
set_option maxRecDepth 20000 in
theorem mkK8 : ow_okK yX8_init cX8_init 1 := ⟨ow_mb 656 rfl rfl, ow_mb 82 (by decide +kernel) rfl, ⟨by decide, by decide⟩, by decide +kernel, rfl, ow_mb 655 (by decide +kernel) rfl⟩
def pkX8 (cI : Nat → ClassId) (a : Nat) (w : va_W) : Prop := ∃ (q1 q2 q3 q4 q5 q6 q7 q8 q9 q10 q11 q12 q13 q14 q15 q16 q17 q18 q19 q20 q21 q22 : Nat), w = [(a, .inr (8, [.int 0, .int 0, .ref q1, .ref q2, .ref q3, .int 0, .int 0, .int 0, .ref q4, .ref q5, .ref q6, .ref q7, .int 0, .int 0, .int 0, .ref q8, .ref q9, .ref q10, .ref q11, .ref q12, .ref q13, .ref q14, .ref q15, .int 0, .ref q16, .ref q17, .ref q18, .int 0, .ref q19, .ref q20, .ref q21, .ref q22])), (q1, .inl (cI 0, 4, .inl (upd (upd (upd (upd (fun _ => 0) 0 (-9)) 1 (-9)) 2 (-9)) 3 (-9)))), (q2, .inl (cI 0, 4, .inl (fun _ => 0))), (q3, .inl (cI 0, 200, .inl (fun _ => 0))), (q4, .inl (cI 0, 7, .inl (fun _ => 0))), (q5, .inl (cI 0, 7, .inl (fun _ => 0))), (q6, .inl (cI 0, 7, .inl (fun _ => 0))), (q7, .inl (cI 0, 7, .inl (fun _ => 0))), (q8, .inl (cI 0, 7, .inl (fun _ => 0))), (q9, .inl (cI 0, 7, .inl (fun _ => 0))), (q10, .inl (cI 0, 7, .inl (fun _ => 0))), (q11, .inl (cI 0, 7, .inl (fun _ => 0))), (q12, .inl (cI 0, 7, .inl (fun _ => 0))), (q13, .inl (cI 0, 7, .inl (fun _ => 0))), (q14, .inl (cI 0, 16384, .inl (fun _ => 0))), (q15, .inl (cI 0, 16384, .inl (fun _ => 0))), (q16, .inl (cI 0, 7, .inl (fun _ => 0))), (q17, .inl (cI 0, 128, .inl (fun _ => 0))), (q18, .inl (cI 0, 128, .inl (fun _ => 0))), (q19, .inl (cI 0, 8, .inl (fun _ => 0))), (q20, .inl (cI 0, 8, .inl (fun _ => 0))), (q21, .inl (cI 0, 8, .inl (fun _ => 0))), (q22, .inl (cI 0, 8, .inl (fun _ => 0)))]
set_option maxRecDepth 100000 in
set_option maxHeartbeats 4000000 in
theorem cK8 (l : Launch) : ow_Ck l 1 yX8_init cX8_init 1 22 33341 (.inr (8, [.int 0, .int 0, .null, .null, .null, .int 0, .int 0, .int 0, .null, .null, .null, .null, .int 0, .int 0, .int 0, .null, .null, .null, .null, .null, .null, .null, .null, .int 0, .null, .null, .null, .int 0, .null, .null, .null, .null])) pkX8 := by
  refine ow_enterK (own := RX8) rfl (by decide +kernel) rfl rfl ?_
  intro p e s m args below meth c cI D a A X hO hin hr hAe hA
  show ow_H p l e (ow_rc 1 22 33341) s m args below meth c _ A D 1 [(a, .inr (8, [.int 0, .int 0, .null, .null, .null, .int 0, .int 0, .int 0, .null, .null, .null, .null, .int 0, .int 0, .int 0, .null, .null, .null, .null, .null, .null, .null, .null, .int 0, .null, .null, .null, .int 0, .null, .null, .null, .null]))] 0 0 0 [some (.ref a)] []
  refine hw_aload0 X dX8_init_0 ?_
  refine hw_obj X lo8_1 mk_obj rfl rfl dX8_init_1 ?_
  refine hw_aload0 X dX8_init_4 ?_
  refine hw_iconst 4 (by decide) X dX8_init_5 ?_
  refine hw_newa0 4 X hA mk_arr_int (by decide) (by decide) rfl rfl rfl dX8_init_6 (fun q1 => ?_)
  refine hw_ws (ws2 := [(a, .inr (8, [.int 0, .int 0, .null, .null, .null, .int 0, .int 0, .int 0, .null, .null, .null, .null, .int 0, .int 0, .int 0, .null, .null, .null, .null, .null, .null, .null, .null, .int 0, .null, .null, .null, .int 0, .null, .null, .null, .null])), (q1, .inl (cI 0, 4, .inl (fun _ => 0)))]) rfl ?_
  refine hw_cs (c2 := 1) (s2 := 4) rfl rfl ?_
  refine hw_dup rfl X dX8_init_8 ?_
  refine hw_iconst 0 (by decide) X dX8_init_9 ?_
  refine hw_bipush (-9) (by decide) X dX8_init_10 ?_
  refine hw_iast 1 X rfl (show ow_inn _ _ by decide +kernel) dX8_init_12 ?_
  refine hw_ws (ws2 := [(a, .inr (8, [.int 0, .int 0, .null, .null, .null, .int 0, .int 0, .int 0, .null, .null, .null, .null, .int 0, .int 0, .int 0, .null, .null, .null, .null, .null, .null, .null, .null, .int 0, .null, .null, .null, .int 0, .null, .null, .null, .null])), (q1, .inl (cI 0, 4, .inl (upd (fun _ => 0) 0 (-9))))]) rfl ?_
  refine hw_dup rfl X dX8_init_13 ?_
  refine hw_iconst 1 (by decide) X dX8_init_14 ?_
  refine hw_bipush (-9) (by decide) X dX8_init_15 ?_
  refine hw_iast 1 X rfl (show ow_inn _ _ by decide +kernel) dX8_init_17 ?_
  refine hw_ws (ws2 := [(a, .inr (8, [.int 0, .int 0, .null, .null, .null, .int 0, .int 0, .int 0, .null, .null, .null, .null, .int 0, .int 0, .int 0, .null, .null, .null, .null, .null, .null, .null, .null, .int 0, .null, .null, .null, .int 0, .null, .null, .null, .null])), (q1, .inl (cI 0, 4, .inl (upd (upd (fun _ => 0) 0 (-9)) 1 (-9))))]) rfl ?_
  refine hw_dup rfl X dX8_init_18 ?_
  refine hw_iconst 2 (by decide) X dX8_init_19 ?_
  refine hw_bipush (-9) (by decide) X dX8_init_20 ?_
  refine hw_iast 1 X rfl (show ow_inn _ _ by decide +kernel) dX8_init_22 ?_
  refine hw_ws (ws2 := [(a, .inr (8, [.int 0, .int 0, .null, .null, .null, .int 0, .int 0, .int 0, .null, .null, .null, .null, .int 0, .int 0, .int 0, .null, .null, .null, .null, .null, .null, .null, .null, .int 0, .null, .null, .null, .int 0, .null, .null, .null, .null])), (q1, .inl (cI 0, 4, .inl (upd (upd (upd (fun _ => 0) 0 (-9)) 1 (-9)) 2 (-9))))]) rfl ?_
  refine hw_dup rfl X dX8_init_23 ?_
  refine hw_iconst 3 (by decide) X dX8_init_24 ?_
  refine hw_bipush (-9) (by decide) X dX8_init_25 ?_
  refine hw_iast 1 X rfl (show ow_inn _ _ by decide +kernel) dX8_init_27 ?_
  refine hw_ws (ws2 := [(a, .inr (8, [.int 0, .int 0, .null, .null, .null, .int 0, .int 0, .int 0, .null, .null, .null, .null, .int 0, .int 0, .int 0, .null, .null, .null, .null, .null, .null, .null, .null, .int 0, .null, .null, .null, .int 0, .null, .null, .null, .null])), (q1, .inl (cI 0, 4, .inl (upd (upd (upd (upd (fun _ => 0) 0 (-9)) 1 (-9)) 2 (-9)) 3 (-9))))]) rfl ?_
  refine hw_putF 0 X hin ff8_9 rfl rfl rfl rfl dX8_init_28 ?_
  refine hw_ws (ws2 := [(a, .inr (8, [.int 0, .int 0, .ref q1, .null, .null, .int 0, .int 0, .int 0, .null, .null, .null, .null, .int 0, .int 0, .int 0, .null, .null, .null, .null, .null, .null, .null, .null, .int 0, .null, .null, .null, .int 0, .null, .null, .null, .null])), (q1, .inl (cI 0, 4, .inl (upd (upd (upd (upd (fun _ => 0) 0 (-9)) 1 (-9)) 2 (-9)) 3 (-9))))]) rfl ?_
  refine hw_aload0 X dX8_init_31 ?_
  refine hw_iconst 4 (by decide) X dX8_init_32 ?_
  refine hw_newa0 4 X hA mk_arr_int (by decide) (by decide) rfl rfl rfl dX8_init_33 (fun q2 => ?_)
  refine hw_ws (ws2 := [(a, .inr (8, [.int 0, .int 0, .ref q1, .null, .null, .int 0, .int 0, .int 0, .null, .null, .null, .null, .int 0, .int 0, .int 0, .null, .null, .null, .null, .null, .null, .null, .null, .int 0, .null, .null, .null, .int 0, .null, .null, .null, .null])), (q1, .inl (cI 0, 4, .inl (upd (upd (upd (upd (fun _ => 0) 0 (-9)) 1 (-9)) 2 (-9)) 3 (-9)))), (q2, .inl (cI 0, 4, .inl (fun _ => 0)))]) rfl ?_
  refine hw_cs (c2 := 2) (s2 := 8) rfl rfl ?_
  refine hw_putF 0 X hin ff8_13 rfl rfl rfl rfl dX8_init_35 ?_
  refine hw_ws (ws2 := [(a, .inr (8, [.int 0, .int 0, .ref q1, .ref q2, .null, .int 0, .int 0, .int 0, .null, .null, .null, .null, .int 0, .int 0, .int 0, .null, .null, .null, .null, .null, .null, .null, .null, .int 0, .null, .null, .null, .int 0, .null, .null, .null, .null])), (q1, .inl (cI 0, 4, .inl (upd (upd (upd (upd (fun _ => 0) 0 (-9)) 1 (-9)) 2 (-9)) 3 (-9)))), (q2, .inl (cI 0, 4, .inl (fun _ => 0)))]) rfl ?_
  refine hw_aload0 X dX8_init_38 ?_
  refine hw_sipush 200 (by decide) X dX8_init_39 ?_
  refine hw_newa0 200 X hA mk_arr_int (by decide) (by decide) rfl rfl rfl dX8_init_42 (fun q3 => ?_)
  refine hw_ws (ws2 := [(a, .inr (8, [.int 0, .int 0, .ref q1, .ref q2, .null, .int 0, .int 0, .int 0, .null, .null, .null, .null, .int 0, .int 0, .int 0, .null, .null, .null, .null, .null, .null, .null, .null, .int 0, .null, .null, .null, .int 0, .null, .null, .null, .null])), (q1, .inl (cI 0, 4, .inl (upd (upd (upd (upd (fun _ => 0) 0 (-9)) 1 (-9)) 2 (-9)) 3 (-9)))), (q2, .inl (cI 0, 4, .inl (fun _ => 0))), (q3, .inl (cI 0, 200, .inl (fun _ => 0)))]) rfl ?_
  refine hw_cs (c2 := 3) (s2 := 208) rfl rfl ?_
  refine hw_putF 0 X hin ff8_16 rfl rfl rfl rfl dX8_init_44 ?_
  refine hw_ws (ws2 := [(a, .inr (8, [.int 0, .int 0, .ref q1, .ref q2, .ref q3, .int 0, .int 0, .int 0, .null, .null, .null, .null, .int 0, .int 0, .int 0, .null, .null, .null, .null, .null, .null, .null, .null, .int 0, .null, .null, .null, .int 0, .null, .null, .null, .null])), (q1, .inl (cI 0, 4, .inl (upd (upd (upd (upd (fun _ => 0) 0 (-9)) 1 (-9)) 2 (-9)) 3 (-9)))), (q2, .inl (cI 0, 4, .inl (fun _ => 0))), (q3, .inl (cI 0, 200, .inl (fun _ => 0)))]) rfl ?_
  refine hw_aload0 X dX8_init_47 ?_
  refine hw_bipush 7 (by decide) X dX8_init_48 ?_
  refine hw_newa0 7 X hA mk_arr_int (by decide) (by decide) rfl rfl rfl dX8_init_50 (fun q4 => ?_)
  refine hw_ws (ws2 := [(a, .inr (8, [.int 0, .int 0, .ref q1, .ref q2, .ref q3, .int 0, .int 0, .int 0, .null, .null, .null, .null, .int 0, .int 0, .int 0, .null, .null, .null, .null, .null, .null, .null, .null, .int 0, .null, .null, .null, .int 0, .null, .null, .null, .null])), (q1, .inl (cI 0, 4, .inl (upd (upd (upd (upd (fun _ => 0) 0 (-9)) 1 (-9)) 2 (-9)) 3 (-9)))), (q2, .inl (cI 0, 4, .inl (fun _ => 0))), (q3, .inl (cI 0, 200, .inl (fun _ => 0))), (q4, .inl (cI 0, 7, .inl (fun _ => 0)))]) rfl ?_
  refine hw_cs (c2 := 4) (s2 := 215) rfl rfl ?_
  refine hw_putF 0 X hin ff8_19 rfl rfl rfl rfl dX8_init_52 ?_
  refine hw_ws (ws2 := [(a, .inr (8, [.int 0, .int 0, .ref q1, .ref q2, .ref q3, .int 0, .int 0, .int 0, .ref q4, .null, .null, .null, .int 0, .int 0, .int 0, .null, .null, .null, .null, .null, .null, .null, .null, .int 0, .null, .null, .null, .int 0, .null, .null, .null, .null])), (q1, .inl (cI 0, 4, .inl (upd (upd (upd (upd (fun _ => 0) 0 (-9)) 1 (-9)) 2 (-9)) 3 (-9)))), (q2, .inl (cI 0, 4, .inl (fun _ => 0))), (q3, .inl (cI 0, 200, .inl (fun _ => 0))), (q4, .inl (cI 0, 7, .inl (fun _ => 0)))]) rfl ?_
  refine hw_aload0 X dX8_init_55 ?_
  refine hw_bipush 7 (by decide) X dX8_init_56 ?_
  refine hw_newa0 7 X hA mk_arr_int (by decide) (by decide) rfl rfl rfl dX8_init_58 (fun q5 => ?_)
  refine hw_ws (ws2 := [(a, .inr (8, [.int 0, .int 0, .ref q1, .ref q2, .ref q3, .int 0, .int 0, .int 0, .ref q4, .null, .null, .null, .int 0, .int 0, .int 0, .null, .null, .null, .null, .null, .null, .null, .null, .int 0, .null, .null, .null, .int 0, .null, .null, .null, .null])), (q1, .inl (cI 0, 4, .inl (upd (upd (upd (upd (fun _ => 0) 0 (-9)) 1 (-9)) 2 (-9)) 3 (-9)))), (q2, .inl (cI 0, 4, .inl (fun _ => 0))), (q3, .inl (cI 0, 200, .inl (fun _ => 0))), (q4, .inl (cI 0, 7, .inl (fun _ => 0))), (q5, .inl (cI 0, 7, .inl (fun _ => 0)))]) rfl ?_
  refine hw_cs (c2 := 5) (s2 := 222) rfl rfl ?_
  refine hw_putF 0 X hin ff8_22 rfl rfl rfl rfl dX8_init_60 ?_
  refine hw_ws (ws2 := [(a, .inr (8, [.int 0, .int 0, .ref q1, .ref q2, .ref q3, .int 0, .int 0, .int 0, .ref q4, .ref q5, .null, .null, .int 0, .int 0, .int 0, .null, .null, .null, .null, .null, .null, .null, .null, .int 0, .null, .null, .null, .int 0, .null, .null, .null, .null])), (q1, .inl (cI 0, 4, .inl (upd (upd (upd (upd (fun _ => 0) 0 (-9)) 1 (-9)) 2 (-9)) 3 (-9)))), (q2, .inl (cI 0, 4, .inl (fun _ => 0))), (q3, .inl (cI 0, 200, .inl (fun _ => 0))), (q4, .inl (cI 0, 7, .inl (fun _ => 0))), (q5, .inl (cI 0, 7, .inl (fun _ => 0)))]) rfl ?_
  refine hw_aload0 X dX8_init_63 ?_
  refine hw_bipush 7 (by decide) X dX8_init_64 ?_
  refine hw_newa0 7 X hA mk_arr_int (by decide) (by decide) rfl rfl rfl dX8_init_66 (fun q6 => ?_)
  refine hw_ws (ws2 := [(a, .inr (8, [.int 0, .int 0, .ref q1, .ref q2, .ref q3, .int 0, .int 0, .int 0, .ref q4, .ref q5, .null, .null, .int 0, .int 0, .int 0, .null, .null, .null, .null, .null, .null, .null, .null, .int 0, .null, .null, .null, .int 0, .null, .null, .null, .null])), (q1, .inl (cI 0, 4, .inl (upd (upd (upd (upd (fun _ => 0) 0 (-9)) 1 (-9)) 2 (-9)) 3 (-9)))), (q2, .inl (cI 0, 4, .inl (fun _ => 0))), (q3, .inl (cI 0, 200, .inl (fun _ => 0))), (q4, .inl (cI 0, 7, .inl (fun _ => 0))), (q5, .inl (cI 0, 7, .inl (fun _ => 0))), (q6, .inl (cI 0, 7, .inl (fun _ => 0)))]) rfl ?_
  refine hw_cs (c2 := 6) (s2 := 229) rfl rfl ?_
  refine hw_putF 0 X hin ff8_25 rfl rfl rfl rfl dX8_init_68 ?_
  refine hw_ws (ws2 := [(a, .inr (8, [.int 0, .int 0, .ref q1, .ref q2, .ref q3, .int 0, .int 0, .int 0, .ref q4, .ref q5, .ref q6, .null, .int 0, .int 0, .int 0, .null, .null, .null, .null, .null, .null, .null, .null, .int 0, .null, .null, .null, .int 0, .null, .null, .null, .null])), (q1, .inl (cI 0, 4, .inl (upd (upd (upd (upd (fun _ => 0) 0 (-9)) 1 (-9)) 2 (-9)) 3 (-9)))), (q2, .inl (cI 0, 4, .inl (fun _ => 0))), (q3, .inl (cI 0, 200, .inl (fun _ => 0))), (q4, .inl (cI 0, 7, .inl (fun _ => 0))), (q5, .inl (cI 0, 7, .inl (fun _ => 0))), (q6, .inl (cI 0, 7, .inl (fun _ => 0)))]) rfl ?_
  refine hw_aload0 X dX8_init_71 ?_
  refine hw_bipush 7 (by decide) X dX8_init_72 ?_
  refine hw_newa0 7 X hA mk_arr_int (by decide) (by decide) rfl rfl rfl dX8_init_74 (fun q7 => ?_)
  refine hw_ws (ws2 := [(a, .inr (8, [.int 0, .int 0, .ref q1, .ref q2, .ref q3, .int 0, .int 0, .int 0, .ref q4, .ref q5, .ref q6, .null, .int 0, .int 0, .int 0, .null, .null, .null, .null, .null, .null, .null, .null, .int 0, .null, .null, .null, .int 0, .null, .null, .null, .null])), (q1, .inl (cI 0, 4, .inl (upd (upd (upd (upd (fun _ => 0) 0 (-9)) 1 (-9)) 2 (-9)) 3 (-9)))), (q2, .inl (cI 0, 4, .inl (fun _ => 0))), (q3, .inl (cI 0, 200, .inl (fun _ => 0))), (q4, .inl (cI 0, 7, .inl (fun _ => 0))), (q5, .inl (cI 0, 7, .inl (fun _ => 0))), (q6, .inl (cI 0, 7, .inl (fun _ => 0))), (q7, .inl (cI 0, 7, .inl (fun _ => 0)))]) rfl ?_
  refine hw_cs (c2 := 7) (s2 := 236) rfl rfl ?_
  refine hw_putF 0 X hin ff8_28 rfl rfl rfl rfl dX8_init_76 ?_
  refine hw_ws (ws2 := [(a, .inr (8, [.int 0, .int 0, .ref q1, .ref q2, .ref q3, .int 0, .int 0, .int 0, .ref q4, .ref q5, .ref q6, .ref q7, .int 0, .int 0, .int 0, .null, .null, .null, .null, .null, .null, .null, .null, .int 0, .null, .null, .null, .int 0, .null, .null, .null, .null])), (q1, .inl (cI 0, 4, .inl (upd (upd (upd (upd (fun _ => 0) 0 (-9)) 1 (-9)) 2 (-9)) 3 (-9)))), (q2, .inl (cI 0, 4, .inl (fun _ => 0))), (q3, .inl (cI 0, 200, .inl (fun _ => 0))), (q4, .inl (cI 0, 7, .inl (fun _ => 0))), (q5, .inl (cI 0, 7, .inl (fun _ => 0))), (q6, .inl (cI 0, 7, .inl (fun _ => 0))), (q7, .inl (cI 0, 7, .inl (fun _ => 0)))]) rfl ?_
  refine hw_aload0 X dX8_init_79 ?_
  refine hw_bipush 7 (by decide) X dX8_init_80 ?_
  refine hw_newa0 7 X hA mk_arr_int (by decide) (by decide) rfl rfl rfl dX8_init_82 (fun q8 => ?_)
  refine hw_ws (ws2 := [(a, .inr (8, [.int 0, .int 0, .ref q1, .ref q2, .ref q3, .int 0, .int 0, .int 0, .ref q4, .ref q5, .ref q6, .ref q7, .int 0, .int 0, .int 0, .null, .null, .null, .null, .null, .null, .null, .null, .int 0, .null, .null, .null, .int 0, .null, .null, .null, .null])), (q1, .inl (cI 0, 4, .inl (upd (upd (upd (upd (fun _ => 0) 0 (-9)) 1 (-9)) 2 (-9)) 3 (-9)))), (q2, .inl (cI 0, 4, .inl (fun _ => 0))), (q3, .inl (cI 0, 200, .inl (fun _ => 0))), (q4, .inl (cI 0, 7, .inl (fun _ => 0))), (q5, .inl (cI 0, 7, .inl (fun _ => 0))), (q6, .inl (cI 0, 7, .inl (fun _ => 0))), (q7, .inl (cI 0, 7, .inl (fun _ => 0))), (q8, .inl (cI 0, 7, .inl (fun _ => 0)))]) rfl ?_
  refine hw_cs (c2 := 8) (s2 := 243) rfl rfl ?_
  refine hw_putF 0 X hin ff8_31 rfl rfl rfl rfl dX8_init_84 ?_
  refine hw_ws (ws2 := [(a, .inr (8, [.int 0, .int 0, .ref q1, .ref q2, .ref q3, .int 0, .int 0, .int 0, .ref q4, .ref q5, .ref q6, .ref q7, .int 0, .int 0, .int 0, .ref q8, .null, .null, .null, .null, .null, .null, .null, .int 0, .null, .null, .null, .int 0, .null, .null, .null, .null])), (q1, .inl (cI 0, 4, .inl (upd (upd (upd (upd (fun _ => 0) 0 (-9)) 1 (-9)) 2 (-9)) 3 (-9)))), (q2, .inl (cI 0, 4, .inl (fun _ => 0))), (q3, .inl (cI 0, 200, .inl (fun _ => 0))), (q4, .inl (cI 0, 7, .inl (fun _ => 0))), (q5, .inl (cI 0, 7, .inl (fun _ => 0))), (q6, .inl (cI 0, 7, .inl (fun _ => 0))), (q7, .inl (cI 0, 7, .inl (fun _ => 0))), (q8, .inl (cI 0, 7, .inl (fun _ => 0)))]) rfl ?_
  refine hw_aload0 X dX8_init_87 ?_
  refine hw_bipush 7 (by decide) X dX8_init_88 ?_
  refine hw_newa0 7 X hA mk_arr_int (by decide) (by decide) rfl rfl rfl dX8_init_90 (fun q9 => ?_)
  refine hw_ws (ws2 := [(a, .inr (8, [.int 0, .int 0, .ref q1, .ref q2, .ref q3, .int 0, .int 0, .int 0, .ref q4, .ref q5, .ref q6, .ref q7, .int 0, .int 0, .int 0, .ref q8, .null, .null, .null, .null, .null, .null, .null, .int 0, .null, .null, .null, .int 0, .null, .null, .null, .null])), (q1, .inl (cI 0, 4, .inl (upd (upd (upd (upd (fun _ => 0) 0 (-9)) 1 (-9)) 2 (-9)) 3 (-9)))), (q2, .inl (cI 0, 4, .inl (fun _ => 0))), (q3, .inl (cI 0, 200, .inl (fun _ => 0))), (q4, .inl (cI 0, 7, .inl (fun _ => 0))), (q5, .inl (cI 0, 7, .inl (fun _ => 0))), (q6, .inl (cI 0, 7, .inl (fun _ => 0))), (q7, .inl (cI 0, 7, .inl (fun _ => 0))), (q8, .inl (cI 0, 7, .inl (fun _ => 0))), (q9, .inl (cI 0, 7, .inl (fun _ => 0)))]) rfl ?_
  refine hw_cs (c2 := 9) (s2 := 250) rfl rfl ?_
  refine hw_putF 0 X hin ff8_34 rfl rfl rfl rfl dX8_init_92 ?_
  refine hw_ws (ws2 := [(a, .inr (8, [.int 0, .int 0, .ref q1, .ref q2, .ref q3, .int 0, .int 0, .int 0, .ref q4, .ref q5, .ref q6, .ref q7, .int 0, .int 0, .int 0, .ref q8, .ref q9, .null, .null, .null, .null, .null, .null, .int 0, .null, .null, .null, .int 0, .null, .null, .null, .null])), (q1, .inl (cI 0, 4, .inl (upd (upd (upd (upd (fun _ => 0) 0 (-9)) 1 (-9)) 2 (-9)) 3 (-9)))), (q2, .inl (cI 0, 4, .inl (fun _ => 0))), (q3, .inl (cI 0, 200, .inl (fun _ => 0))), (q4, .inl (cI 0, 7, .inl (fun _ => 0))), (q5, .inl (cI 0, 7, .inl (fun _ => 0))), (q6, .inl (cI 0, 7, .inl (fun _ => 0))), (q7, .inl (cI 0, 7, .inl (fun _ => 0))), (q8, .inl (cI 0, 7, .inl (fun _ => 0))), (q9, .inl (cI 0, 7, .inl (fun _ => 0)))]) rfl ?_
  refine hw_aload0 X dX8_init_95 ?_
  refine hw_bipush 7 (by decide) X dX8_init_96 ?_
  refine hw_newa0 7 X hA mk_arr_int (by decide) (by decide) rfl rfl rfl dX8_init_98 (fun q10 => ?_)
  refine hw_ws (ws2 := [(a, .inr (8, [.int 0, .int 0, .ref q1, .ref q2, .ref q3, .int 0, .int 0, .int 0, .ref q4, .ref q5, .ref q6, .ref q7, .int 0, .int 0, .int 0, .ref q8, .ref q9, .null, .null, .null, .null, .null, .null, .int 0, .null, .null, .null, .int 0, .null, .null, .null, .null])), (q1, .inl (cI 0, 4, .inl (upd (upd (upd (upd (fun _ => 0) 0 (-9)) 1 (-9)) 2 (-9)) 3 (-9)))), (q2, .inl (cI 0, 4, .inl (fun _ => 0))), (q3, .inl (cI 0, 200, .inl (fun _ => 0))), (q4, .inl (cI 0, 7, .inl (fun _ => 0))), (q5, .inl (cI 0, 7, .inl (fun _ => 0))), (q6, .inl (cI 0, 7, .inl (fun _ => 0))), (q7, .inl (cI 0, 7, .inl (fun _ => 0))), (q8, .inl (cI 0, 7, .inl (fun _ => 0))), (q9, .inl (cI 0, 7, .inl (fun _ => 0))), (q10, .inl (cI 0, 7, .inl (fun _ => 0)))]) rfl ?_
  refine hw_cs (c2 := 10) (s2 := 257) rfl rfl ?_
  refine hw_putF 0 X hin ff8_37 rfl rfl rfl rfl dX8_init_100 ?_
  refine hw_ws (ws2 := [(a, .inr (8, [.int 0, .int 0, .ref q1, .ref q2, .ref q3, .int 0, .int 0, .int 0, .ref q4, .ref q5, .ref q6, .ref q7, .int 0, .int 0, .int 0, .ref q8, .ref q9, .ref q10, .null, .null, .null, .null, .null, .int 0, .null, .null, .null, .int 0, .null, .null, .null, .null])), (q1, .inl (cI 0, 4, .inl (upd (upd (upd (upd (fun _ => 0) 0 (-9)) 1 (-9)) 2 (-9)) 3 (-9)))), (q2, .inl (cI 0, 4, .inl (fun _ => 0))), (q3, .inl (cI 0, 200, .inl (fun _ => 0))), (q4, .inl (cI 0, 7, .inl (fun _ => 0))), (q5, .inl (cI 0, 7, .inl (fun _ => 0))), (q6, .inl (cI 0, 7, .inl (fun _ => 0))), (q7, .inl (cI 0, 7, .inl (fun _ => 0))), (q8, .inl (cI 0, 7, .inl (fun _ => 0))), (q9, .inl (cI 0, 7, .inl (fun _ => 0))), (q10, .inl (cI 0, 7, .inl (fun _ => 0)))]) rfl ?_
  refine hw_aload0 X dX8_init_103 ?_
  refine hw_bipush 7 (by decide) X dX8_init_104 ?_
  refine hw_newa0 7 X hA mk_arr_int (by decide) (by decide) rfl rfl rfl dX8_init_106 (fun q11 => ?_)
  refine hw_ws (ws2 := [(a, .inr (8, [.int 0, .int 0, .ref q1, .ref q2, .ref q3, .int 0, .int 0, .int 0, .ref q4, .ref q5, .ref q6, .ref q7, .int 0, .int 0, .int 0, .ref q8, .ref q9, .ref q10, .null, .null, .null, .null, .null, .int 0, .null, .null, .null, .int 0, .null, .null, .null, .null])), (q1, .inl (cI 0, 4, .inl (upd (upd (upd (upd (fun _ => 0) 0 (-9)) 1 (-9)) 2 (-9)) 3 (-9)))), (q2, .inl (cI 0, 4, .inl (fun _ => 0))), (q3, .inl (cI 0, 200, .inl (fun _ => 0))), (q4, .inl (cI 0, 7, .inl (fun _ => 0))), (q5, .inl (cI 0, 7, .inl (fun _ => 0))), (q6, .inl (cI 0, 7, .inl (fun _ => 0))), (q7, .inl (cI 0, 7, .inl (fun _ => 0))), (q8, .inl (cI 0, 7, .inl (fun _ => 0))), (q9, .inl (cI 0, 7, .inl (fun _ => 0))), (q10, .inl (cI 0, 7, .inl (fun _ => 0))), (q11, .inl (cI 0, 7, .inl (fun _ => 0)))]) rfl ?_
  refine hw_cs (c2 := 11) (s2 := 264) rfl rfl ?_
  refine hw_putF 0 X hin ff8_40 rfl rfl rfl rfl dX8_init_108 ?_
  refine hw_ws (ws2 := [(a, .inr (8, [.int 0, .int 0, .ref q1, .ref q2, .ref q3, .int 0, .int 0, .int 0, .ref q4, .ref q5, .ref q6, .ref q7, .int 0, .int 0, .int 0, .ref q8, .ref q9, .ref q10, .ref q11, .null, .null, .null, .null, .int 0, .null, .null, .null, .int 0, .null, .null, .null, .null])), (q1, .inl (cI 0, 4, .inl (upd (upd (upd (upd (fun _ => 0) 0 (-9)) 1 (-9)) 2 (-9)) 3 (-9)))), (q2, .inl (cI 0, 4, .inl (fun _ => 0))), (q3, .inl (cI 0, 200, .inl (fun _ => 0))), (q4, .inl (cI 0, 7, .inl (fun _ => 0))), (q5, .inl (cI 0, 7, .inl (fun _ => 0))), (q6, .inl (cI 0, 7, .inl (fun _ => 0))), (q7, .inl (cI 0, 7, .inl (fun _ => 0))), (q8, .inl (cI 0, 7, .inl (fun _ => 0))), (q9, .inl (cI 0, 7, .inl (fun _ => 0))), (q10, .inl (cI 0, 7, .inl (fun _ => 0))), (q11, .inl (cI 0, 7, .inl (fun _ => 0)))]) rfl ?_
  refine hw_aload0 X dX8_init_111 ?_
  refine hw_bipush 7 (by decide) X dX8_init_112 ?_
  refine hw_newa0 7 X hA mk_arr_int (by decide) (by decide) rfl rfl rfl dX8_init_114 (fun q12 => ?_)
  refine hw_ws (ws2 := [(a, .inr (8, [.int 0, .int 0, .ref q1, .ref q2, .ref q3, .int 0, .int 0, .int 0, .ref q4, .ref q5, .ref q6, .ref q7, .int 0, .int 0, .int 0, .ref q8, .ref q9, .ref q10, .ref q11, .null, .null, .null, .null, .int 0, .null, .null, .null, .int 0, .null, .null, .null, .null])), (q1, .inl (cI 0, 4, .inl (upd (upd (upd (upd (fun _ => 0) 0 (-9)) 1 (-9)) 2 (-9)) 3 (-9)))), (q2, .inl (cI 0, 4, .inl (fun _ => 0))), (q3, .inl (cI 0, 200, .inl (fun _ => 0))), (q4, .inl (cI 0, 7, .inl (fun _ => 0))), (q5, .inl (cI 0, 7, .inl (fun _ => 0))), (q6, .inl (cI 0, 7, .inl (fun _ => 0))), (q7, .inl (cI 0, 7, .inl (fun _ => 0))), (q8, .inl (cI 0, 7, .inl (fun _ => 0))), (q9, .inl (cI 0, 7, .inl (fun _ => 0))), (q10, .inl (cI 0, 7, .inl (fun _ => 0))), (q11, .inl (cI 0, 7, .inl (fun _ => 0))), (q12, .inl (cI 0, 7, .inl (fun _ => 0)))]) rfl ?_
  refine hw_cs (c2 := 12) (s2 := 271) rfl rfl ?_
  refine hw_putF 0 X hin ff8_43 rfl rfl rfl rfl dX8_init_116 ?_
  refine hw_ws (ws2 := [(a, .inr (8, [.int 0, .int 0, .ref q1, .ref q2, .ref q3, .int 0, .int 0, .int 0, .ref q4, .ref q5, .ref q6, .ref q7, .int 0, .int 0, .int 0, .ref q8, .ref q9, .ref q10, .ref q11, .ref q12, .null, .null, .null, .int 0, .null, .null, .null, .int 0, .null, .null, .null, .null])), (q1, .inl (cI 0, 4, .inl (upd (upd (upd (upd (fun _ => 0) 0 (-9)) 1 (-9)) 2 (-9)) 3 (-9)))), (q2, .inl (cI 0, 4, .inl (fun _ => 0))), (q3, .inl (cI 0, 200, .inl (fun _ => 0))), (q4, .inl (cI 0, 7, .inl (fun _ => 0))), (q5, .inl (cI 0, 7, .inl (fun _ => 0))), (q6, .inl (cI 0, 7, .inl (fun _ => 0))), (q7, .inl (cI 0, 7, .inl (fun _ => 0))), (q8, .inl (cI 0, 7, .inl (fun _ => 0))), (q9, .inl (cI 0, 7, .inl (fun _ => 0))), (q10, .inl (cI 0, 7, .inl (fun _ => 0))), (q11, .inl (cI 0, 7, .inl (fun _ => 0))), (q12, .inl (cI 0, 7, .inl (fun _ => 0)))]) rfl ?_
  refine hw_aload0 X dX8_init_119 ?_
  refine hw_bipush 7 (by decide) X dX8_init_120 ?_
  refine hw_newa0 7 X hA mk_arr_int (by decide) (by decide) rfl rfl rfl dX8_init_122 (fun q13 => ?_)
  refine hw_ws (ws2 := [(a, .inr (8, [.int 0, .int 0, .ref q1, .ref q2, .ref q3, .int 0, .int 0, .int 0, .ref q4, .ref q5, .ref q6, .ref q7, .int 0, .int 0, .int 0, .ref q8, .ref q9, .ref q10, .ref q11, .ref q12, .null, .null, .null, .int 0, .null, .null, .null, .int 0, .null, .null, .null, .null])), (q1, .inl (cI 0, 4, .inl (upd (upd (upd (upd (fun _ => 0) 0 (-9)) 1 (-9)) 2 (-9)) 3 (-9)))), (q2, .inl (cI 0, 4, .inl (fun _ => 0))), (q3, .inl (cI 0, 200, .inl (fun _ => 0))), (q4, .inl (cI 0, 7, .inl (fun _ => 0))), (q5, .inl (cI 0, 7, .inl (fun _ => 0))), (q6, .inl (cI 0, 7, .inl (fun _ => 0))), (q7, .inl (cI 0, 7, .inl (fun _ => 0))), (q8, .inl (cI 0, 7, .inl (fun _ => 0))), (q9, .inl (cI 0, 7, .inl (fun _ => 0))), (q10, .inl (cI 0, 7, .inl (fun _ => 0))), (q11, .inl (cI 0, 7, .inl (fun _ => 0))), (q12, .inl (cI 0, 7, .inl (fun _ => 0))), (q13, .inl (cI 0, 7, .inl (fun _ => 0)))]) rfl ?_
  refine hw_cs (c2 := 13) (s2 := 278) rfl rfl ?_
  refine hw_putF 0 X hin ff8_46 rfl rfl rfl rfl dX8_init_124 ?_
  refine hw_ws (ws2 := [(a, .inr (8, [.int 0, .int 0, .ref q1, .ref q2, .ref q3, .int 0, .int 0, .int 0, .ref q4, .ref q5, .ref q6, .ref q7, .int 0, .int 0, .int 0, .ref q8, .ref q9, .ref q10, .ref q11, .ref q12, .ref q13, .null, .null, .int 0, .null, .null, .null, .int 0, .null, .null, .null, .null])), (q1, .inl (cI 0, 4, .inl (upd (upd (upd (upd (fun _ => 0) 0 (-9)) 1 (-9)) 2 (-9)) 3 (-9)))), (q2, .inl (cI 0, 4, .inl (fun _ => 0))), (q3, .inl (cI 0, 200, .inl (fun _ => 0))), (q4, .inl (cI 0, 7, .inl (fun _ => 0))), (q5, .inl (cI 0, 7, .inl (fun _ => 0))), (q6, .inl (cI 0, 7, .inl (fun _ => 0))), (q7, .inl (cI 0, 7, .inl (fun _ => 0))), (q8, .inl (cI 0, 7, .inl (fun _ => 0))), (q9, .inl (cI 0, 7, .inl (fun _ => 0))), (q10, .inl (cI 0, 7, .inl (fun _ => 0))), (q11, .inl (cI 0, 7, .inl (fun _ => 0))), (q12, .inl (cI 0, 7, .inl (fun _ => 0))), (q13, .inl (cI 0, 7, .inl (fun _ => 0)))]) rfl ?_
  refine hw_aload0 X dX8_init_127 ?_
  refine hw_sipush 16384 (by decide) X dX8_init_128 ?_
  refine hw_newa0 16384 X hA mk_arr_int (by decide) (by decide) rfl rfl rfl dX8_init_131 (fun q14 => ?_)
  refine hw_ws (ws2 := [(a, .inr (8, [.int 0, .int 0, .ref q1, .ref q2, .ref q3, .int 0, .int 0, .int 0, .ref q4, .ref q5, .ref q6, .ref q7, .int 0, .int 0, .int 0, .ref q8, .ref q9, .ref q10, .ref q11, .ref q12, .ref q13, .null, .null, .int 0, .null, .null, .null, .int 0, .null, .null, .null, .null])), (q1, .inl (cI 0, 4, .inl (upd (upd (upd (upd (fun _ => 0) 0 (-9)) 1 (-9)) 2 (-9)) 3 (-9)))), (q2, .inl (cI 0, 4, .inl (fun _ => 0))), (q3, .inl (cI 0, 200, .inl (fun _ => 0))), (q4, .inl (cI 0, 7, .inl (fun _ => 0))), (q5, .inl (cI 0, 7, .inl (fun _ => 0))), (q6, .inl (cI 0, 7, .inl (fun _ => 0))), (q7, .inl (cI 0, 7, .inl (fun _ => 0))), (q8, .inl (cI 0, 7, .inl (fun _ => 0))), (q9, .inl (cI 0, 7, .inl (fun _ => 0))), (q10, .inl (cI 0, 7, .inl (fun _ => 0))), (q11, .inl (cI 0, 7, .inl (fun _ => 0))), (q12, .inl (cI 0, 7, .inl (fun _ => 0))), (q13, .inl (cI 0, 7, .inl (fun _ => 0))), (q14, .inl (cI 0, 16384, .inl (fun _ => 0)))]) rfl ?_
  refine hw_cs (c2 := 14) (s2 := 16662) rfl rfl ?_
  refine hw_putF 0 X hin ff8_49 rfl rfl rfl rfl dX8_init_133 ?_
  refine hw_ws (ws2 := [(a, .inr (8, [.int 0, .int 0, .ref q1, .ref q2, .ref q3, .int 0, .int 0, .int 0, .ref q4, .ref q5, .ref q6, .ref q7, .int 0, .int 0, .int 0, .ref q8, .ref q9, .ref q10, .ref q11, .ref q12, .ref q13, .ref q14, .null, .int 0, .null, .null, .null, .int 0, .null, .null, .null, .null])), (q1, .inl (cI 0, 4, .inl (upd (upd (upd (upd (fun _ => 0) 0 (-9)) 1 (-9)) 2 (-9)) 3 (-9)))), (q2, .inl (cI 0, 4, .inl (fun _ => 0))), (q3, .inl (cI 0, 200, .inl (fun _ => 0))), (q4, .inl (cI 0, 7, .inl (fun _ => 0))), (q5, .inl (cI 0, 7, .inl (fun _ => 0))), (q6, .inl (cI 0, 7, .inl (fun _ => 0))), (q7, .inl (cI 0, 7, .inl (fun _ => 0))), (q8, .inl (cI 0, 7, .inl (fun _ => 0))), (q9, .inl (cI 0, 7, .inl (fun _ => 0))), (q10, .inl (cI 0, 7, .inl (fun _ => 0))), (q11, .inl (cI 0, 7, .inl (fun _ => 0))), (q12, .inl (cI 0, 7, .inl (fun _ => 0))), (q13, .inl (cI 0, 7, .inl (fun _ => 0))), (q14, .inl (cI 0, 16384, .inl (fun _ => 0)))]) rfl ?_
  refine hw_aload0 X dX8_init_136 ?_
  refine hw_sipush 16384 (by decide) X dX8_init_137 ?_
  refine hw_newa0 16384 X hA mk_arr_int (by decide) (by decide) rfl rfl rfl dX8_init_140 (fun q15 => ?_)
  refine hw_ws (ws2 := [(a, .inr (8, [.int 0, .int 0, .ref q1, .ref q2, .ref q3, .int 0, .int 0, .int 0, .ref q4, .ref q5, .ref q6, .ref q7, .int 0, .int 0, .int 0, .ref q8, .ref q9, .ref q10, .ref q11, .ref q12, .ref q13, .ref q14, .null, .int 0, .null, .null, .null, .int 0, .null, .null, .null, .null])), (q1, .inl (cI 0, 4, .inl (upd (upd (upd (upd (fun _ => 0) 0 (-9)) 1 (-9)) 2 (-9)) 3 (-9)))), (q2, .inl (cI 0, 4, .inl (fun _ => 0))), (q3, .inl (cI 0, 200, .inl (fun _ => 0))), (q4, .inl (cI 0, 7, .inl (fun _ => 0))), (q5, .inl (cI 0, 7, .inl (fun _ => 0))), (q6, .inl (cI 0, 7, .inl (fun _ => 0))), (q7, .inl (cI 0, 7, .inl (fun _ => 0))), (q8, .inl (cI 0, 7, .inl (fun _ => 0))), (q9, .inl (cI 0, 7, .inl (fun _ => 0))), (q10, .inl (cI 0, 7, .inl (fun _ => 0))), (q11, .inl (cI 0, 7, .inl (fun _ => 0))), (q12, .inl (cI 0, 7, .inl (fun _ => 0))), (q13, .inl (cI 0, 7, .inl (fun _ => 0))), (q14, .inl (cI 0, 16384, .inl (fun _ => 0))), (q15, .inl (cI 0, 16384, .inl (fun _ => 0)))]) rfl ?_
  refine hw_cs (c2 := 15) (s2 := 33046) rfl rfl ?_
  refine hw_putF 0 X hin ff8_52 rfl rfl rfl rfl dX8_init_142 ?_
  refine hw_ws (ws2 := [(a, .inr (8, [.int 0, .int 0, .ref q1, .ref q2, .ref q3, .int 0, .int 0, .int 0, .ref q4, .ref q5, .ref q6, .ref q7, .int 0, .int 0, .int 0, .ref q8, .ref q9, .ref q10, .ref q11, .ref q12, .ref q13, .ref q14, .ref q15, .int 0, .null, .null, .null, .int 0, .null, .null, .null, .null])), (q1, .inl (cI 0, 4, .inl (upd (upd (upd (upd (fun _ => 0) 0 (-9)) 1 (-9)) 2 (-9)) 3 (-9)))), (q2, .inl (cI 0, 4, .inl (fun _ => 0))), (q3, .inl (cI 0, 200, .inl (fun _ => 0))), (q4, .inl (cI 0, 7, .inl (fun _ => 0))), (q5, .inl (cI 0, 7, .inl (fun _ => 0))), (q6, .inl (cI 0, 7, .inl (fun _ => 0))), (q7, .inl (cI 0, 7, .inl (fun _ => 0))), (q8, .inl (cI 0, 7, .inl (fun _ => 0))), (q9, .inl (cI 0, 7, .inl (fun _ => 0))), (q10, .inl (cI 0, 7, .inl (fun _ => 0))), (q11, .inl (cI 0, 7, .inl (fun _ => 0))), (q12, .inl (cI 0, 7, .inl (fun _ => 0))), (q13, .inl (cI 0, 7, .inl (fun _ => 0))), (q14, .inl (cI 0, 16384, .inl (fun _ => 0))), (q15, .inl (cI 0, 16384, .inl (fun _ => 0)))]) rfl ?_
  refine hw_aload0 X dX8_init_145 ?_
  refine hw_bipush 7 (by decide) X dX8_init_146 ?_
  refine hw_newa0 7 X hA mk_arr_int (by decide) (by decide) rfl rfl rfl dX8_init_148 (fun q16 => ?_)
  refine hw_ws (ws2 := [(a, .inr (8, [.int 0, .int 0, .ref q1, .ref q2, .ref q3, .int 0, .int 0, .int 0, .ref q4, .ref q5, .ref q6, .ref q7, .int 0, .int 0, .int 0, .ref q8, .ref q9, .ref q10, .ref q11, .ref q12, .ref q13, .ref q14, .ref q15, .int 0, .null, .null, .null, .int 0, .null, .null, .null, .null])), (q1, .inl (cI 0, 4, .inl (upd (upd (upd (upd (fun _ => 0) 0 (-9)) 1 (-9)) 2 (-9)) 3 (-9)))), (q2, .inl (cI 0, 4, .inl (fun _ => 0))), (q3, .inl (cI 0, 200, .inl (fun _ => 0))), (q4, .inl (cI 0, 7, .inl (fun _ => 0))), (q5, .inl (cI 0, 7, .inl (fun _ => 0))), (q6, .inl (cI 0, 7, .inl (fun _ => 0))), (q7, .inl (cI 0, 7, .inl (fun _ => 0))), (q8, .inl (cI 0, 7, .inl (fun _ => 0))), (q9, .inl (cI 0, 7, .inl (fun _ => 0))), (q10, .inl (cI 0, 7, .inl (fun _ => 0))), (q11, .inl (cI 0, 7, .inl (fun _ => 0))), (q12, .inl (cI 0, 7, .inl (fun _ => 0))), (q13, .inl (cI 0, 7, .inl (fun _ => 0))), (q14, .inl (cI 0, 16384, .inl (fun _ => 0))), (q15, .inl (cI 0, 16384, .inl (fun _ => 0))), (q16, .inl (cI 0, 7, .inl (fun _ => 0)))]) rfl ?_
  refine hw_cs (c2 := 16) (s2 := 33053) rfl rfl ?_
  refine hw_putF 0 X hin ff8_55 rfl rfl rfl rfl dX8_init_150 ?_
  refine hw_ws (ws2 := [(a, .inr (8, [.int 0, .int 0, .ref q1, .ref q2, .ref q3, .int 0, .int 0, .int 0, .ref q4, .ref q5, .ref q6, .ref q7, .int 0, .int 0, .int 0, .ref q8, .ref q9, .ref q10, .ref q11, .ref q12, .ref q13, .ref q14, .ref q15, .int 0, .ref q16, .null, .null, .int 0, .null, .null, .null, .null])), (q1, .inl (cI 0, 4, .inl (upd (upd (upd (upd (fun _ => 0) 0 (-9)) 1 (-9)) 2 (-9)) 3 (-9)))), (q2, .inl (cI 0, 4, .inl (fun _ => 0))), (q3, .inl (cI 0, 200, .inl (fun _ => 0))), (q4, .inl (cI 0, 7, .inl (fun _ => 0))), (q5, .inl (cI 0, 7, .inl (fun _ => 0))), (q6, .inl (cI 0, 7, .inl (fun _ => 0))), (q7, .inl (cI 0, 7, .inl (fun _ => 0))), (q8, .inl (cI 0, 7, .inl (fun _ => 0))), (q9, .inl (cI 0, 7, .inl (fun _ => 0))), (q10, .inl (cI 0, 7, .inl (fun _ => 0))), (q11, .inl (cI 0, 7, .inl (fun _ => 0))), (q12, .inl (cI 0, 7, .inl (fun _ => 0))), (q13, .inl (cI 0, 7, .inl (fun _ => 0))), (q14, .inl (cI 0, 16384, .inl (fun _ => 0))), (q15, .inl (cI 0, 16384, .inl (fun _ => 0))), (q16, .inl (cI 0, 7, .inl (fun _ => 0)))]) rfl ?_
  refine hw_aload0 X dX8_init_153 ?_
  refine hw_sipush 128 (by decide) X dX8_init_154 ?_
  refine hw_newa0 128 X hA mk_arr_int (by decide) (by decide) rfl rfl rfl dX8_init_157 (fun q17 => ?_)
  refine hw_ws (ws2 := [(a, .inr (8, [.int 0, .int 0, .ref q1, .ref q2, .ref q3, .int 0, .int 0, .int 0, .ref q4, .ref q5, .ref q6, .ref q7, .int 0, .int 0, .int 0, .ref q8, .ref q9, .ref q10, .ref q11, .ref q12, .ref q13, .ref q14, .ref q15, .int 0, .ref q16, .null, .null, .int 0, .null, .null, .null, .null])), (q1, .inl (cI 0, 4, .inl (upd (upd (upd (upd (fun _ => 0) 0 (-9)) 1 (-9)) 2 (-9)) 3 (-9)))), (q2, .inl (cI 0, 4, .inl (fun _ => 0))), (q3, .inl (cI 0, 200, .inl (fun _ => 0))), (q4, .inl (cI 0, 7, .inl (fun _ => 0))), (q5, .inl (cI 0, 7, .inl (fun _ => 0))), (q6, .inl (cI 0, 7, .inl (fun _ => 0))), (q7, .inl (cI 0, 7, .inl (fun _ => 0))), (q8, .inl (cI 0, 7, .inl (fun _ => 0))), (q9, .inl (cI 0, 7, .inl (fun _ => 0))), (q10, .inl (cI 0, 7, .inl (fun _ => 0))), (q11, .inl (cI 0, 7, .inl (fun _ => 0))), (q12, .inl (cI 0, 7, .inl (fun _ => 0))), (q13, .inl (cI 0, 7, .inl (fun _ => 0))), (q14, .inl (cI 0, 16384, .inl (fun _ => 0))), (q15, .inl (cI 0, 16384, .inl (fun _ => 0))), (q16, .inl (cI 0, 7, .inl (fun _ => 0))), (q17, .inl (cI 0, 128, .inl (fun _ => 0)))]) rfl ?_
  refine hw_cs (c2 := 17) (s2 := 33181) rfl rfl ?_
  refine hw_putF 0 X hin ff8_58 rfl rfl rfl rfl dX8_init_159 ?_
  refine hw_ws (ws2 := [(a, .inr (8, [.int 0, .int 0, .ref q1, .ref q2, .ref q3, .int 0, .int 0, .int 0, .ref q4, .ref q5, .ref q6, .ref q7, .int 0, .int 0, .int 0, .ref q8, .ref q9, .ref q10, .ref q11, .ref q12, .ref q13, .ref q14, .ref q15, .int 0, .ref q16, .ref q17, .null, .int 0, .null, .null, .null, .null])), (q1, .inl (cI 0, 4, .inl (upd (upd (upd (upd (fun _ => 0) 0 (-9)) 1 (-9)) 2 (-9)) 3 (-9)))), (q2, .inl (cI 0, 4, .inl (fun _ => 0))), (q3, .inl (cI 0, 200, .inl (fun _ => 0))), (q4, .inl (cI 0, 7, .inl (fun _ => 0))), (q5, .inl (cI 0, 7, .inl (fun _ => 0))), (q6, .inl (cI 0, 7, .inl (fun _ => 0))), (q7, .inl (cI 0, 7, .inl (fun _ => 0))), (q8, .inl (cI 0, 7, .inl (fun _ => 0))), (q9, .inl (cI 0, 7, .inl (fun _ => 0))), (q10, .inl (cI 0, 7, .inl (fun _ => 0))), (q11, .inl (cI 0, 7, .inl (fun _ => 0))), (q12, .inl (cI 0, 7, .inl (fun _ => 0))), (q13, .inl (cI 0, 7, .inl (fun _ => 0))), (q14, .inl (cI 0, 16384, .inl (fun _ => 0))), (q15, .inl (cI 0, 16384, .inl (fun _ => 0))), (q16, .inl (cI 0, 7, .inl (fun _ => 0))), (q17, .inl (cI 0, 128, .inl (fun _ => 0)))]) rfl ?_
  refine hw_aload0 X dX8_init_162 ?_
  refine hw_sipush 128 (by decide) X dX8_init_163 ?_
  refine hw_newa0 128 X hA mk_arr_int (by decide) (by decide) rfl rfl rfl dX8_init_166 (fun q18 => ?_)
  refine hw_ws (ws2 := [(a, .inr (8, [.int 0, .int 0, .ref q1, .ref q2, .ref q3, .int 0, .int 0, .int 0, .ref q4, .ref q5, .ref q6, .ref q7, .int 0, .int 0, .int 0, .ref q8, .ref q9, .ref q10, .ref q11, .ref q12, .ref q13, .ref q14, .ref q15, .int 0, .ref q16, .ref q17, .null, .int 0, .null, .null, .null, .null])), (q1, .inl (cI 0, 4, .inl (upd (upd (upd (upd (fun _ => 0) 0 (-9)) 1 (-9)) 2 (-9)) 3 (-9)))), (q2, .inl (cI 0, 4, .inl (fun _ => 0))), (q3, .inl (cI 0, 200, .inl (fun _ => 0))), (q4, .inl (cI 0, 7, .inl (fun _ => 0))), (q5, .inl (cI 0, 7, .inl (fun _ => 0))), (q6, .inl (cI 0, 7, .inl (fun _ => 0))), (q7, .inl (cI 0, 7, .inl (fun _ => 0))), (q8, .inl (cI 0, 7, .inl (fun _ => 0))), (q9, .inl (cI 0, 7, .inl (fun _ => 0))), (q10, .inl (cI 0, 7, .inl (fun _ => 0))), (q11, .inl (cI 0, 7, .inl (fun _ => 0))), (q12, .inl (cI 0, 7, .inl (fun _ => 0))), (q13, .inl (cI 0, 7, .inl (fun _ => 0))), (q14, .inl (cI 0, 16384, .inl (fun _ => 0))), (q15, .inl (cI 0, 16384, .inl (fun _ => 0))), (q16, .inl (cI 0, 7, .inl (fun _ => 0))), (q17, .inl (cI 0, 128, .inl (fun _ => 0))), (q18, .inl (cI 0, 128, .inl (fun _ => 0)))]) rfl ?_
  refine hw_cs (c2 := 18) (s2 := 33309) rfl rfl ?_
  refine hw_putF 0 X hin ff8_61 rfl rfl rfl rfl dX8_init_168 ?_
  refine hw_ws (ws2 := [(a, .inr (8, [.int 0, .int 0, .ref q1, .ref q2, .ref q3, .int 0, .int 0, .int 0, .ref q4, .ref q5, .ref q6, .ref q7, .int 0, .int 0, .int 0, .ref q8, .ref q9, .ref q10, .ref q11, .ref q12, .ref q13, .ref q14, .ref q15, .int 0, .ref q16, .ref q17, .ref q18, .int 0, .null, .null, .null, .null])), (q1, .inl (cI 0, 4, .inl (upd (upd (upd (upd (fun _ => 0) 0 (-9)) 1 (-9)) 2 (-9)) 3 (-9)))), (q2, .inl (cI 0, 4, .inl (fun _ => 0))), (q3, .inl (cI 0, 200, .inl (fun _ => 0))), (q4, .inl (cI 0, 7, .inl (fun _ => 0))), (q5, .inl (cI 0, 7, .inl (fun _ => 0))), (q6, .inl (cI 0, 7, .inl (fun _ => 0))), (q7, .inl (cI 0, 7, .inl (fun _ => 0))), (q8, .inl (cI 0, 7, .inl (fun _ => 0))), (q9, .inl (cI 0, 7, .inl (fun _ => 0))), (q10, .inl (cI 0, 7, .inl (fun _ => 0))), (q11, .inl (cI 0, 7, .inl (fun _ => 0))), (q12, .inl (cI 0, 7, .inl (fun _ => 0))), (q13, .inl (cI 0, 7, .inl (fun _ => 0))), (q14, .inl (cI 0, 16384, .inl (fun _ => 0))), (q15, .inl (cI 0, 16384, .inl (fun _ => 0))), (q16, .inl (cI 0, 7, .inl (fun _ => 0))), (q17, .inl (cI 0, 128, .inl (fun _ => 0))), (q18, .inl (cI 0, 128, .inl (fun _ => 0)))]) rfl ?_
  refine hw_aload0 X dX8_init_171 ?_
  refine hw_bipush 8 (by decide) X dX8_init_172 ?_
  refine hw_newa0 8 X hA mk_arr_int (by decide) (by decide) rfl rfl rfl dX8_init_174 (fun q19 => ?_)
  refine hw_ws (ws2 := [(a, .inr (8, [.int 0, .int 0, .ref q1, .ref q2, .ref q3, .int 0, .int 0, .int 0, .ref q4, .ref q5, .ref q6, .ref q7, .int 0, .int 0, .int 0, .ref q8, .ref q9, .ref q10, .ref q11, .ref q12, .ref q13, .ref q14, .ref q15, .int 0, .ref q16, .ref q17, .ref q18, .int 0, .null, .null, .null, .null])), (q1, .inl (cI 0, 4, .inl (upd (upd (upd (upd (fun _ => 0) 0 (-9)) 1 (-9)) 2 (-9)) 3 (-9)))), (q2, .inl (cI 0, 4, .inl (fun _ => 0))), (q3, .inl (cI 0, 200, .inl (fun _ => 0))), (q4, .inl (cI 0, 7, .inl (fun _ => 0))), (q5, .inl (cI 0, 7, .inl (fun _ => 0))), (q6, .inl (cI 0, 7, .inl (fun _ => 0))), (q7, .inl (cI 0, 7, .inl (fun _ => 0))), (q8, .inl (cI 0, 7, .inl (fun _ => 0))), (q9, .inl (cI 0, 7, .inl (fun _ => 0))), (q10, .inl (cI 0, 7, .inl (fun _ => 0))), (q11, .inl (cI 0, 7, .inl (fun _ => 0))), (q12, .inl (cI 0, 7, .inl (fun _ => 0))), (q13, .inl (cI 0, 7, .inl (fun _ => 0))), (q14, .inl (cI 0, 16384, .inl (fun _ => 0))), (q15, .inl (cI 0, 16384, .inl (fun _ => 0))), (q16, .inl (cI 0, 7, .inl (fun _ => 0))), (q17, .inl (cI 0, 128, .inl (fun _ => 0))), (q18, .inl (cI 0, 128, .inl (fun _ => 0))), (q19, .inl (cI 0, 8, .inl (fun _ => 0)))]) rfl ?_
  refine hw_cs (c2 := 19) (s2 := 33317) rfl rfl ?_
  refine hw_putF 0 X hin ff8_64 rfl rfl rfl rfl dX8_init_176 ?_
  refine hw_ws (ws2 := [(a, .inr (8, [.int 0, .int 0, .ref q1, .ref q2, .ref q3, .int 0, .int 0, .int 0, .ref q4, .ref q5, .ref q6, .ref q7, .int 0, .int 0, .int 0, .ref q8, .ref q9, .ref q10, .ref q11, .ref q12, .ref q13, .ref q14, .ref q15, .int 0, .ref q16, .ref q17, .ref q18, .int 0, .ref q19, .null, .null, .null])), (q1, .inl (cI 0, 4, .inl (upd (upd (upd (upd (fun _ => 0) 0 (-9)) 1 (-9)) 2 (-9)) 3 (-9)))), (q2, .inl (cI 0, 4, .inl (fun _ => 0))), (q3, .inl (cI 0, 200, .inl (fun _ => 0))), (q4, .inl (cI 0, 7, .inl (fun _ => 0))), (q5, .inl (cI 0, 7, .inl (fun _ => 0))), (q6, .inl (cI 0, 7, .inl (fun _ => 0))), (q7, .inl (cI 0, 7, .inl (fun _ => 0))), (q8, .inl (cI 0, 7, .inl (fun _ => 0))), (q9, .inl (cI 0, 7, .inl (fun _ => 0))), (q10, .inl (cI 0, 7, .inl (fun _ => 0))), (q11, .inl (cI 0, 7, .inl (fun _ => 0))), (q12, .inl (cI 0, 7, .inl (fun _ => 0))), (q13, .inl (cI 0, 7, .inl (fun _ => 0))), (q14, .inl (cI 0, 16384, .inl (fun _ => 0))), (q15, .inl (cI 0, 16384, .inl (fun _ => 0))), (q16, .inl (cI 0, 7, .inl (fun _ => 0))), (q17, .inl (cI 0, 128, .inl (fun _ => 0))), (q18, .inl (cI 0, 128, .inl (fun _ => 0))), (q19, .inl (cI 0, 8, .inl (fun _ => 0)))]) rfl ?_
  refine hw_aload0 X dX8_init_179 ?_
  refine hw_bipush 8 (by decide) X dX8_init_180 ?_
  refine hw_newa0 8 X hA mk_arr_int (by decide) (by decide) rfl rfl rfl dX8_init_182 (fun q20 => ?_)
  refine hw_ws (ws2 := [(a, .inr (8, [.int 0, .int 0, .ref q1, .ref q2, .ref q3, .int 0, .int 0, .int 0, .ref q4, .ref q5, .ref q6, .ref q7, .int 0, .int 0, .int 0, .ref q8, .ref q9, .ref q10, .ref q11, .ref q12, .ref q13, .ref q14, .ref q15, .int 0, .ref q16, .ref q17, .ref q18, .int 0, .ref q19, .null, .null, .null])), (q1, .inl (cI 0, 4, .inl (upd (upd (upd (upd (fun _ => 0) 0 (-9)) 1 (-9)) 2 (-9)) 3 (-9)))), (q2, .inl (cI 0, 4, .inl (fun _ => 0))), (q3, .inl (cI 0, 200, .inl (fun _ => 0))), (q4, .inl (cI 0, 7, .inl (fun _ => 0))), (q5, .inl (cI 0, 7, .inl (fun _ => 0))), (q6, .inl (cI 0, 7, .inl (fun _ => 0))), (q7, .inl (cI 0, 7, .inl (fun _ => 0))), (q8, .inl (cI 0, 7, .inl (fun _ => 0))), (q9, .inl (cI 0, 7, .inl (fun _ => 0))), (q10, .inl (cI 0, 7, .inl (fun _ => 0))), (q11, .inl (cI 0, 7, .inl (fun _ => 0))), (q12, .inl (cI 0, 7, .inl (fun _ => 0))), (q13, .inl (cI 0, 7, .inl (fun _ => 0))), (q14, .inl (cI 0, 16384, .inl (fun _ => 0))), (q15, .inl (cI 0, 16384, .inl (fun _ => 0))), (q16, .inl (cI 0, 7, .inl (fun _ => 0))), (q17, .inl (cI 0, 128, .inl (fun _ => 0))), (q18, .inl (cI 0, 128, .inl (fun _ => 0))), (q19, .inl (cI 0, 8, .inl (fun _ => 0))), (q20, .inl (cI 0, 8, .inl (fun _ => 0)))]) rfl ?_
  refine hw_cs (c2 := 20) (s2 := 33325) rfl rfl ?_
  refine hw_putF 0 X hin ff8_67 rfl rfl rfl rfl dX8_init_184 ?_
  refine hw_ws (ws2 := [(a, .inr (8, [.int 0, .int 0, .ref q1, .ref q2, .ref q3, .int 0, .int 0, .int 0, .ref q4, .ref q5, .ref q6, .ref q7, .int 0, .int 0, .int 0, .ref q8, .ref q9, .ref q10, .ref q11, .ref q12, .ref q13, .ref q14, .ref q15, .int 0, .ref q16, .ref q17, .ref q18, .int 0, .ref q19, .ref q20, .null, .null])), (q1, .inl (cI 0, 4, .inl (upd (upd (upd (upd (fun _ => 0) 0 (-9)) 1 (-9)) 2 (-9)) 3 (-9)))), (q2, .inl (cI 0, 4, .inl (fun _ => 0))), (q3, .inl (cI 0, 200, .inl (fun _ => 0))), (q4, .inl (cI 0, 7, .inl (fun _ => 0))), (q5, .inl (cI 0, 7, .inl (fun _ => 0))), (q6, .inl (cI 0, 7, .inl (fun _ => 0))), (q7, .inl (cI 0, 7, .inl (fun _ => 0))), (q8, .inl (cI 0, 7, .inl (fun _ => 0))), (q9, .inl (cI 0, 7, .inl (fun _ => 0))), (q10, .inl (cI 0, 7, .inl (fun _ => 0))), (q11, .inl (cI 0, 7, .inl (fun _ => 0))), (q12, .inl (cI 0, 7, .inl (fun _ => 0))), (q13, .inl (cI 0, 7, .inl (fun _ => 0))), (q14, .inl (cI 0, 16384, .inl (fun _ => 0))), (q15, .inl (cI 0, 16384, .inl (fun _ => 0))), (q16, .inl (cI 0, 7, .inl (fun _ => 0))), (q17, .inl (cI 0, 128, .inl (fun _ => 0))), (q18, .inl (cI 0, 128, .inl (fun _ => 0))), (q19, .inl (cI 0, 8, .inl (fun _ => 0))), (q20, .inl (cI 0, 8, .inl (fun _ => 0)))]) rfl ?_
  refine hw_aload0 X dX8_init_187 ?_
  refine hw_bipush 8 (by decide) X dX8_init_188 ?_
  refine hw_newa0 8 X hA mk_arr_int (by decide) (by decide) rfl rfl rfl dX8_init_190 (fun q21 => ?_)
  refine hw_ws (ws2 := [(a, .inr (8, [.int 0, .int 0, .ref q1, .ref q2, .ref q3, .int 0, .int 0, .int 0, .ref q4, .ref q5, .ref q6, .ref q7, .int 0, .int 0, .int 0, .ref q8, .ref q9, .ref q10, .ref q11, .ref q12, .ref q13, .ref q14, .ref q15, .int 0, .ref q16, .ref q17, .ref q18, .int 0, .ref q19, .ref q20, .null, .null])), (q1, .inl (cI 0, 4, .inl (upd (upd (upd (upd (fun _ => 0) 0 (-9)) 1 (-9)) 2 (-9)) 3 (-9)))), (q2, .inl (cI 0, 4, .inl (fun _ => 0))), (q3, .inl (cI 0, 200, .inl (fun _ => 0))), (q4, .inl (cI 0, 7, .inl (fun _ => 0))), (q5, .inl (cI 0, 7, .inl (fun _ => 0))), (q6, .inl (cI 0, 7, .inl (fun _ => 0))), (q7, .inl (cI 0, 7, .inl (fun _ => 0))), (q8, .inl (cI 0, 7, .inl (fun _ => 0))), (q9, .inl (cI 0, 7, .inl (fun _ => 0))), (q10, .inl (cI 0, 7, .inl (fun _ => 0))), (q11, .inl (cI 0, 7, .inl (fun _ => 0))), (q12, .inl (cI 0, 7, .inl (fun _ => 0))), (q13, .inl (cI 0, 7, .inl (fun _ => 0))), (q14, .inl (cI 0, 16384, .inl (fun _ => 0))), (q15, .inl (cI 0, 16384, .inl (fun _ => 0))), (q16, .inl (cI 0, 7, .inl (fun _ => 0))), (q17, .inl (cI 0, 128, .inl (fun _ => 0))), (q18, .inl (cI 0, 128, .inl (fun _ => 0))), (q19, .inl (cI 0, 8, .inl (fun _ => 0))), (q20, .inl (cI 0, 8, .inl (fun _ => 0))), (q21, .inl (cI 0, 8, .inl (fun _ => 0)))]) rfl ?_
  refine hw_cs (c2 := 21) (s2 := 33333) rfl rfl ?_
  refine hw_putF 0 X hin ff8_70 rfl rfl rfl rfl dX8_init_192 ?_
  refine hw_ws (ws2 := [(a, .inr (8, [.int 0, .int 0, .ref q1, .ref q2, .ref q3, .int 0, .int 0, .int 0, .ref q4, .ref q5, .ref q6, .ref q7, .int 0, .int 0, .int 0, .ref q8, .ref q9, .ref q10, .ref q11, .ref q12, .ref q13, .ref q14, .ref q15, .int 0, .ref q16, .ref q17, .ref q18, .int 0, .ref q19, .ref q20, .ref q21, .null])), (q1, .inl (cI 0, 4, .inl (upd (upd (upd (upd (fun _ => 0) 0 (-9)) 1 (-9)) 2 (-9)) 3 (-9)))), (q2, .inl (cI 0, 4, .inl (fun _ => 0))), (q3, .inl (cI 0, 200, .inl (fun _ => 0))), (q4, .inl (cI 0, 7, .inl (fun _ => 0))), (q5, .inl (cI 0, 7, .inl (fun _ => 0))), (q6, .inl (cI 0, 7, .inl (fun _ => 0))), (q7, .inl (cI 0, 7, .inl (fun _ => 0))), (q8, .inl (cI 0, 7, .inl (fun _ => 0))), (q9, .inl (cI 0, 7, .inl (fun _ => 0))), (q10, .inl (cI 0, 7, .inl (fun _ => 0))), (q11, .inl (cI 0, 7, .inl (fun _ => 0))), (q12, .inl (cI 0, 7, .inl (fun _ => 0))), (q13, .inl (cI 0, 7, .inl (fun _ => 0))), (q14, .inl (cI 0, 16384, .inl (fun _ => 0))), (q15, .inl (cI 0, 16384, .inl (fun _ => 0))), (q16, .inl (cI 0, 7, .inl (fun _ => 0))), (q17, .inl (cI 0, 128, .inl (fun _ => 0))), (q18, .inl (cI 0, 128, .inl (fun _ => 0))), (q19, .inl (cI 0, 8, .inl (fun _ => 0))), (q20, .inl (cI 0, 8, .inl (fun _ => 0))), (q21, .inl (cI 0, 8, .inl (fun _ => 0)))]) rfl ?_
  refine hw_aload0 X dX8_init_195 ?_
  refine hw_bipush 8 (by decide) X dX8_init_196 ?_
  refine hw_newa0 8 X hA mk_arr_int (by decide) (by decide) rfl rfl rfl dX8_init_198 (fun q22 => ?_)
  refine hw_ws (ws2 := [(a, .inr (8, [.int 0, .int 0, .ref q1, .ref q2, .ref q3, .int 0, .int 0, .int 0, .ref q4, .ref q5, .ref q6, .ref q7, .int 0, .int 0, .int 0, .ref q8, .ref q9, .ref q10, .ref q11, .ref q12, .ref q13, .ref q14, .ref q15, .int 0, .ref q16, .ref q17, .ref q18, .int 0, .ref q19, .ref q20, .ref q21, .null])), (q1, .inl (cI 0, 4, .inl (upd (upd (upd (upd (fun _ => 0) 0 (-9)) 1 (-9)) 2 (-9)) 3 (-9)))), (q2, .inl (cI 0, 4, .inl (fun _ => 0))), (q3, .inl (cI 0, 200, .inl (fun _ => 0))), (q4, .inl (cI 0, 7, .inl (fun _ => 0))), (q5, .inl (cI 0, 7, .inl (fun _ => 0))), (q6, .inl (cI 0, 7, .inl (fun _ => 0))), (q7, .inl (cI 0, 7, .inl (fun _ => 0))), (q8, .inl (cI 0, 7, .inl (fun _ => 0))), (q9, .inl (cI 0, 7, .inl (fun _ => 0))), (q10, .inl (cI 0, 7, .inl (fun _ => 0))), (q11, .inl (cI 0, 7, .inl (fun _ => 0))), (q12, .inl (cI 0, 7, .inl (fun _ => 0))), (q13, .inl (cI 0, 7, .inl (fun _ => 0))), (q14, .inl (cI 0, 16384, .inl (fun _ => 0))), (q15, .inl (cI 0, 16384, .inl (fun _ => 0))), (q16, .inl (cI 0, 7, .inl (fun _ => 0))), (q17, .inl (cI 0, 128, .inl (fun _ => 0))), (q18, .inl (cI 0, 128, .inl (fun _ => 0))), (q19, .inl (cI 0, 8, .inl (fun _ => 0))), (q20, .inl (cI 0, 8, .inl (fun _ => 0))), (q21, .inl (cI 0, 8, .inl (fun _ => 0))), (q22, .inl (cI 0, 8, .inl (fun _ => 0)))]) rfl ?_
  refine hw_cs (c2 := 22) (s2 := 33341) rfl rfl ?_
  refine hw_putF 0 X hin ff8_73 rfl rfl rfl rfl dX8_init_200 ?_
  refine hw_ws (ws2 := [(a, .inr (8, [.int 0, .int 0, .ref q1, .ref q2, .ref q3, .int 0, .int 0, .int 0, .ref q4, .ref q5, .ref q6, .ref q7, .int 0, .int 0, .int 0, .ref q8, .ref q9, .ref q10, .ref q11, .ref q12, .ref q13, .ref q14, .ref q15, .int 0, .ref q16, .ref q17, .ref q18, .int 0, .ref q19, .ref q20, .ref q21, .ref q22])), (q1, .inl (cI 0, 4, .inl (upd (upd (upd (upd (fun _ => 0) 0 (-9)) 1 (-9)) 2 (-9)) 3 (-9)))), (q2, .inl (cI 0, 4, .inl (fun _ => 0))), (q3, .inl (cI 0, 200, .inl (fun _ => 0))), (q4, .inl (cI 0, 7, .inl (fun _ => 0))), (q5, .inl (cI 0, 7, .inl (fun _ => 0))), (q6, .inl (cI 0, 7, .inl (fun _ => 0))), (q7, .inl (cI 0, 7, .inl (fun _ => 0))), (q8, .inl (cI 0, 7, .inl (fun _ => 0))), (q9, .inl (cI 0, 7, .inl (fun _ => 0))), (q10, .inl (cI 0, 7, .inl (fun _ => 0))), (q11, .inl (cI 0, 7, .inl (fun _ => 0))), (q12, .inl (cI 0, 7, .inl (fun _ => 0))), (q13, .inl (cI 0, 7, .inl (fun _ => 0))), (q14, .inl (cI 0, 16384, .inl (fun _ => 0))), (q15, .inl (cI 0, 16384, .inl (fun _ => 0))), (q16, .inl (cI 0, 7, .inl (fun _ => 0))), (q17, .inl (cI 0, 128, .inl (fun _ => 0))), (q18, .inl (cI 0, 128, .inl (fun _ => 0))), (q19, .inl (cI 0, 8, .inl (fun _ => 0))), (q20, .inl (cI 0, 8, .inl (fun _ => 0))), (q21, .inl (cI 0, 8, .inl (fun _ => 0))), (q22, .inl (cI 0, 8, .inl (fun _ => 0)))]) rfl ?_
  exact hw_ret X hr hAe rfl rfl ⟨q1, q2, q3, q4, q5, q6, q7, q8, q9, q10, q11, q12, q13, q14, q15, q16, q17, q18, q19, q20, q21, q22, rfl⟩ dX8_init_203

