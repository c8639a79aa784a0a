/-! what the tables and the premises say at the law's entry -/
theorem wt_g {w : Cond} (h : w ∈ tables_1) : w ∈ lw_tbl := List.mem_append_right _ h
theorem wt_1 {w : Cond} (h : w ∈ tables_1_1) : w ∈ lw_tbl := wt_g (List.mem_append_left _ h)
theorem wt_2 {w : Cond} (h : w ∈ tables_1_2) : w ∈ lw_tbl := wt_g (List.mem_append_right _ (List.mem_append_left _ h))
theorem wt_3 {w : Cond} (h : w ∈ tables_1_3) : w ∈ lw_tbl := wt_g (List.mem_append_right _ (List.mem_append_right _ (List.mem_append_left _ h)))
theorem wt_4 {w : Cond} (h : w ∈ tables_1_4) : w ∈ lw_tbl := wt_g (List.mem_append_right _ (List.mem_append_right _ (List.mem_append_right _ (List.mem_append_left _ h))))
theorem wt_5 {w : Cond} (h : w ∈ tables_1_5) : w ∈ lw_tbl := wt_g (List.mem_append_right _ (List.mem_append_right _ (List.mem_append_right _ (List.mem_append_right _ (List.mem_append_left _ h)))))
theorem wt_6 {w : Cond} (h : w ∈ tables_1_6) : w ∈ lw_tbl := wt_g (List.mem_append_right _ (List.mem_append_right _ (List.mem_append_right _ (List.mem_append_right _ (List.mem_append_right _ (List.mem_append_left _ h))))))
theorem wt_7 {w : Cond} (h : w ∈ tables_1_7) : w ∈ lw_tbl := wt_g (List.mem_append_right _ (List.mem_append_right _ (List.mem_append_right _ (List.mem_append_right _ (List.mem_append_right _ (List.mem_append_right _ (h)))))))
theorem w_1_106 : Cond.superclass RX3 "java/lang/Object" ∈ lw_tbl := wt_1 (List.mem_of_getElem? (i := 106) rfl)
theorem w_1_130 : Cond.superclass RX2 "java/lang/Object" ∈ lw_tbl := wt_1 (List.mem_of_getElem? (i := 130) rfl)
theorem w_1_138 : Cond.arrayOver (Jvm.ClassFile.FieldType.object "TimetableBuilder$Table") ∈ lw_tbl := wt_1 (List.mem_of_getElem? (i := 138) rfl)
theorem w_1_150 : Cond.superclass RX1 "java/lang/Object" ∈ lw_tbl := wt_1 (List.mem_of_getElem? (i := 150) rfl)
theorem w_1_153 : Cond.methodLinkNest RX4 37 yX0_init RX4 ∈ lw_tbl := wt_1 (List.mem_of_getElem? (i := 153) rfl)
theorem w_1_187 : Cond.superclass RX0 "java/lang/Object" ∈ lw_tbl := wt_1 (List.mem_of_getElem? (i := 187) rfl)
theorem w_1_206 : Cond.superclass RX4 "java/lang/Object" ∈ lw_tbl := wt_1 (List.mem_of_getElem? (i := 206) rfl)
theorem w_2_48 : Cond.methodLinkNest RX2 75 yX4_contains RX4 ∈ lw_tbl := wt_2 (List.mem_of_getElem? (i := 48) rfl)
theorem w_2_138 : Cond.castable "java/lang/IndexOutOfBoundsException" "java/lang/IndexOutOfBoundsException" ∈ lw_tbl := wt_2 (List.mem_of_getElem? (i := 138) rfl)
theorem w_2_139 : Cond.declares ⟨"java/lang/RuntimeException", "<init>", "()V"⟩ ∈ lw_tbl := wt_2 (List.mem_of_getElem? (i := 139) rfl)
theorem w_2_140 : Cond.declares ⟨"java/lang/RuntimeException", "<init>", "(Ljava/lang/String;)V"⟩ ∈ lw_tbl := wt_2 (List.mem_of_getElem? (i := 140) rfl)
theorem w_2_141 : Cond.declares ⟨"java/lang/Exception", "<init>", "()V"⟩ ∈ lw_tbl := wt_2 (List.mem_of_getElem? (i := 141) rfl)
theorem w_2_142 : Cond.declares ⟨"java/lang/Exception", "<init>", "(Ljava/lang/String;)V"⟩ ∈ lw_tbl := wt_2 (List.mem_of_getElem? (i := 142) rfl)
theorem w_2_143 : Cond.declares ⟨"java/lang/Throwable", "<init>", "()V"⟩ ∈ lw_tbl := wt_2 (List.mem_of_getElem? (i := 143) rfl)
theorem w_2_144 : Cond.declares ⟨"java/lang/Throwable", "<init>", "(Ljava/lang/String;)V"⟩ ∈ lw_tbl := wt_2 (List.mem_of_getElem? (i := 144) rfl)
theorem w_2_158 : Cond.superclass "java/lang/Throwable" "java/lang/Object" ∈ lw_tbl := wt_2 (List.mem_of_getElem? (i := 158) rfl)
theorem w_2_163 : Cond.laysStatic "java/lang/Throwable" "UNASSIGNED_STACK" "[Ljava/lang/StackTraceElement;" ∈ lw_tbl := wt_2 (List.mem_of_getElem? (i := 163) rfl)
theorem w_2_165 : Cond.laysStatic "java/lang/Throwable" "SUPPRESSED_SENTINEL" "Ljava/util/List;" ∈ lw_tbl := wt_2 (List.mem_of_getElem? (i := 165) rfl)
theorem w_2_168 : Cond.sameMethod "java/lang/Throwable" "java/lang/Throwable" "fillInStackTrace" "()Ljava/lang/Throwable;" ∈ lw_tbl := wt_2 (List.mem_of_getElem? (i := 168) rfl)
theorem w_2_179 : Cond.stringRef RX4 197 "no such index" ∈ lw_tbl := wt_2 (List.mem_of_getElem? (i := 179) rfl)
theorem w_2_204 : Cond.superclass "java/lang/IndexOutOfBoundsException" "java/lang/RuntimeException" ∈ lw_tbl := wt_2 (List.mem_of_getElem? (i := 204) rfl)
theorem w_2_211 : Cond.castable "java/lang/IllegalArgumentException" "java/lang/IllegalArgumentException" ∈ lw_tbl := wt_2 (List.mem_of_getElem? (i := 211) rfl)
theorem w_2_218 : Cond.stringRef RX4 157 "out of range" ∈ lw_tbl := wt_2 (List.mem_of_getElem? (i := 218) rfl)
theorem w_2_224 : Cond.superclass "java/lang/IllegalArgumentException" "java/lang/RuntimeException" ∈ lw_tbl := wt_2 (List.mem_of_getElem? (i := 224) rfl)
theorem w_3_33 : Cond.stringRef RX4 79 "no such character" ∈ lw_tbl := wt_3 (List.mem_of_getElem? (i := 33) rfl)
theorem w_3_40 : Cond.castable "java/lang/IllegalStateException" "java/lang/IllegalStateException" ∈ lw_tbl := wt_3 (List.mem_of_getElem? (i := 40) rfl)
theorem w_3_47 : Cond.stringRef RX4 89 "the buffer is full" ∈ lw_tbl := wt_3 (List.mem_of_getElem? (i := 47) rfl)
theorem w_3_53 : Cond.superclass "java/lang/IllegalStateException" "java/lang/RuntimeException" ∈ lw_tbl := wt_3 (List.mem_of_getElem? (i := 53) rfl)
theorem w_3_97 : Cond.stringRef RX4 100 "an error in the text" ∈ lw_tbl := wt_3 (List.mem_of_getElem? (i := 97) rfl)
theorem w_3_102 : Cond.stringRef RX4 325 "no more events" ∈ lw_tbl := wt_3 (List.mem_of_getElem? (i := 102) rfl)
theorem w_3_119 : Cond.stringRef RX4 323 "no such event" ∈ lw_tbl := wt_3 (List.mem_of_getElem? (i := 119) rfl)
theorem w_3_134 : Cond.stringRef RX4 137 "not a part of the groups" ∈ lw_tbl := wt_3 (List.mem_of_getElem? (i := 134) rfl)
theorem w_3_164 : Cond.laysStatic RJ0 "COMPACT_STRINGS" "Z" ∈ lw_tbl := wt_3 (List.mem_of_getElem? (i := 164) rfl)
theorem w_3_183 : Cond.superclass RJ4 RJ5 ∈ lw_tbl := wt_3 (List.mem_of_getElem? (i := 183) rfl)
theorem w_3_217 : Cond.sameMethod "[B" "java/lang/Object" "clone" "()Ljava/lang/Object;" ∈ lw_tbl := wt_3 (List.mem_of_getElem? (i := 217) rfl)
theorem w_3_221 : Cond.castable "[B" RJx8e188 ∈ lw_tbl := wt_3 (List.mem_of_getElem? (i := 221) rfl)
theorem w_3_227 : Cond.sameMethod RJ5 RJ5 "isLatin1" "()Z" ∈ lw_tbl := wt_3 (List.mem_of_getElem? (i := 227) rfl)
theorem w_3_234 : Cond.laysStatic RJ6 "DigitOnes" "[B" ∈ lw_tbl := wt_3 (List.mem_of_getElem? (i := 234) rfl)
theorem w_3_236 : Cond.laysStatic RJ6 "DigitTens" "[B" ∈ lw_tbl := wt_3 (List.mem_of_getElem? (i := 236) rfl)
theorem w_4_10 : Cond.laysStatic RJ3 "SIOOBE_FORMATTER" "Ljava/util/function/BiFunction;" ∈ lw_tbl := wt_4 (List.mem_of_getElem? (i := 10) rfl)
theorem w_4_22 : Cond.laysStatic RJ2 "$assertionsDisabled" "Z" ∈ lw_tbl := wt_4 (List.mem_of_getElem? (i := 22) rfl)
theorem w_4_24 : Cond.laysStatic RJ2 "HI_BYTE_SHIFT" "I" ∈ lw_tbl := wt_4 (List.mem_of_getElem? (i := 24) rfl)
theorem w_4_26 : Cond.laysStatic RJ2 "LO_BYTE_SHIFT" "I" ∈ lw_tbl := wt_4 (List.mem_of_getElem? (i := 26) rfl)
theorem w_4_28 : Cond.methodLinkNest RX3 110 yX4_contains RX4 ∈ lw_tbl := wt_4 (List.mem_of_getElem? (i := 28) rfl)
theorem w_4_99 : Cond.castable "java/lang/UnsupportedOperationException" "java/lang/UnsupportedOperationException" ∈ lw_tbl := wt_4 (List.mem_of_getElem? (i := 99) rfl)
theorem w_4_106 : Cond.stringRef RX4 173 "the event is fixed" ∈ lw_tbl := wt_4 (List.mem_of_getElem? (i := 106) rfl)
theorem w_4_112 : Cond.superclass "java/lang/UnsupportedOperationException" "java/lang/RuntimeException" ∈ lw_tbl := wt_4 (List.mem_of_getElem? (i := 112) rfl)
theorem w_4_118 : Cond.stringRef RX4 329 "the place has an obstacle" ∈ lw_tbl := wt_4 (List.mem_of_getElem? (i := 118) rfl)
theorem w_4_131 : Cond.stringRef RX4 327 "the event is not placed" ∈ lw_tbl := wt_4 (List.mem_of_getElem? (i := 131) rfl)
theorem w_4_165 : Cond.castable "java/util/NoSuchElementException" "java/util/NoSuchElementException" ∈ lw_tbl := wt_4 (List.mem_of_getElem? (i := 165) rfl)
theorem w_4_177 : Cond.superclass "java/util/NoSuchElementException" "java/lang/RuntimeException" ∈ lw_tbl := wt_4 (List.mem_of_getElem? (i := 177) rfl)
theorem w_4_197 : Cond.stringRef RX4 206 "no event there" ∈ lw_tbl := wt_4 (List.mem_of_getElem? (i := 197) rfl)
theorem w_4_224 : Cond.stringRef RX4 217 "the event is placed" ∈ lw_tbl := wt_4 (List.mem_of_getElem? (i := 224) rfl)
theorem w_4_226 : Cond.stringRef RX4 225 "the event cannot be inserted" ∈ lw_tbl := wt_4 (List.mem_of_getElem? (i := 226) rfl)
theorem w_5_3 : Cond.stringRef RX4 259 "the event has no chain for this slot" ∈ lw_tbl := wt_5 (List.mem_of_getElem? (i := 3) rfl)
theorem w_5_34 : Cond.stringRef RX4 249 "the chain cannot be exchanged" ∈ lw_tbl := wt_5 (List.mem_of_getElem? (i := 34) rfl)
theorem w_5_130 : Cond.stringRef RX4 303 "no change can be taken back" ∈ lw_tbl := wt_5 (List.mem_of_getElem? (i := 130) rfl)
theorem w_5_143 : Cond.stringRef RX4 315 "nothing was saved" ∈ lw_tbl := wt_5 (List.mem_of_getElem? (i := 143) rfl)
theorem w_5_205 : Cond.superclass RX5 "java/lang/Object" ∈ lw_tbl := wt_5 (List.mem_of_getElem? (i := 205) rfl)
theorem w_7_45 : Cond.sameMethod "java/lang/Throwable" "java/lang/Throwable" "fillInStackTrace" "(I)Ljava/lang/Throwable;" ∈ lw_tbl := wt_7 (List.mem_of_getElem? (i := 45) rfl)
theorem w_7_46 : Cond.sameMethod RJ5 RJ5 "append" "(I)Ljava/lang/AbstractStringBuilder;" ∈ lw_tbl := wt_7 (List.mem_of_getElem? (i := 46) rfl)
theorem w_7_47 : Cond.sameMethod RJ5 RJ5 "ensureCapacityInternal" "(I)V" ∈ lw_tbl := wt_7 (List.mem_of_getElem? (i := 47) rfl)
theorem w_7_48 : Cond.sameMethod RJ5 RJ5 "newCapacity" "(I)I" ∈ lw_tbl := wt_7 (List.mem_of_getElem? (i := 48) rfl)
theorem w_7_49 : Cond.sameMethod RJ5 RJ5 "append" "(C)Ljava/lang/AbstractStringBuilder;" ∈ lw_tbl := wt_7 (List.mem_of_getElem? (i := 49) rfl)
theorem w_7_50 : Cond.sameMethod RJ5 RJ5 "inflate" "()V" ∈ lw_tbl := wt_7 (List.mem_of_getElem? (i := 50) rfl)
theorem w_7_51 : Cond.sameMethod RJ5 RJ5 "length" "()I" ∈ lw_tbl := wt_7 (List.mem_of_getElem? (i := 51) rfl)
theorem w_7_52 : Cond.sameMethod RJ5 RJ5 "charAt" "(I)C" ∈ lw_tbl := wt_7 (List.mem_of_getElem? (i := 52) rfl)
theorem w_7_53 : Cond.castable RX4 "java/lang/Object" ∈ lw_tbl := wt_7 (List.mem_of_getElem? (i := 53) rfl)
theorem w_7_54 : Cond.castable RX3 "java/lang/Object" ∈ lw_tbl := wt_7 (List.mem_of_getElem? (i := 54) rfl)
theorem w_7_55 : Cond.castable RX2 "java/lang/Object" ∈ lw_tbl := wt_7 (List.mem_of_getElem? (i := 55) rfl)
theorem w_7_56 : Cond.castable RX1 "java/lang/Object" ∈ lw_tbl := wt_7 (List.mem_of_getElem? (i := 56) rfl)
theorem w_7_57 : Cond.castable RX0 "java/lang/Object" ∈ lw_tbl := wt_7 (List.mem_of_getElem? (i := 57) rfl)
theorem w_7_58 : Cond.castable RX5 "java/lang/Object" ∈ lw_tbl := wt_7 (List.mem_of_getElem? (i := 58) rfl)
theorem w_7_59 : Cond.castable "java/lang/IndexOutOfBoundsException" "java/lang/Object" ∈ lw_tbl := wt_7 (List.mem_of_getElem? (i := 59) rfl)
theorem w_7_60 : Cond.castable "java/lang/IllegalArgumentException" "java/lang/Object" ∈ lw_tbl := wt_7 (List.mem_of_getElem? (i := 60) rfl)
theorem w_7_61 : Cond.castable "java/lang/IllegalStateException" "java/lang/Object" ∈ lw_tbl := wt_7 (List.mem_of_getElem? (i := 61) rfl)
theorem w_7_62 : Cond.castable RJ4 "java/lang/Object" ∈ lw_tbl := wt_7 (List.mem_of_getElem? (i := 62) rfl)
theorem w_7_63 : Cond.castable "java/lang/UnsupportedOperationException" "java/lang/Object" ∈ lw_tbl := wt_7 (List.mem_of_getElem? (i := 63) rfl)
theorem w_7_64 : Cond.castable "java/util/NoSuchElementException" "java/lang/Object" ∈ lw_tbl := wt_7 (List.mem_of_getElem? (i := 64) rfl)
theorem w_7_65 : Cond.castable "java/lang/Throwable" "java/lang/Object" ∈ lw_tbl := wt_7 (List.mem_of_getElem? (i := 65) rfl)
theorem w_7_66 : Cond.castable RJ0 "java/lang/Object" ∈ lw_tbl := wt_7 (List.mem_of_getElem? (i := 66) rfl)
theorem st_arr {args : Array Value} {s : State} {C : String} (h : (Cond.arrayOver (.object C)).before args s = true) : ∃ cA : ClassId, ArrOfT s cA (.object C) ∧ va_RA s cA (.object C) := by
  obtain ⟨comp, c, k, h1, h2, h3, h4, h5⟩ := Cond.arrayOver_spec h
  exact ⟨c, fun n z => ⟨fun k h => (by cases h), k, h3, comp, h4⟩, k, comp, h3, h4, h1, h5⟩
theorem st_int {args : Array Value} {s : State} (h : (Cond.arrayClass .int).before args s = true) : ∃ cA : ClassId, ArrOfT s cA .int ∧ va_RA s cA .int := by
  obtain ⟨cA, kA, comp, h1, h2, h3⟩ := Cond.arrayClass_spec h
  exact ⟨cA, fun n z => ⟨fun k h => (by cases h), kA, h2, comp, h3⟩, h1⟩
theorem st_boolean {args : Array Value} {s : State} (h : (Cond.arrayClass .boolean).before args s = true) : ∃ cA : ClassId, ArrOfT s cA .boolean ∧ va_RA s cA .boolean := by
  obtain ⟨cA, kA, comp, h1, h2, h3⟩ := Cond.arrayClass_spec h
  exact ⟨cA, fun n z => ⟨fun k h => (by cases h), kA, h2, comp, h3⟩, h1⟩
theorem st_long {args : Array Value} {s : State} (h : (Cond.arrayClass .long).before args s = true) : ∃ cA : ClassId, ArrOfT s cA .long ∧ va_RA s cA .long := by
  obtain ⟨cA, kA, comp, h1, h2, h3⟩ := Cond.arrayClass_spec h
  exact ⟨cA, fun n z => ⟨fun k h => (by cases h), kA, h2, comp, h3⟩, h1⟩
theorem st_byte {args : Array Value} {s : State} (h : (Cond.arrayClass .byte).before args s = true) : ∃ cA : ClassId, ArrOfT s cA .byte ∧ va_RA s cA .byte := by
  obtain ⟨cA, kA, comp, h1, h2, h3⟩ := Cond.arrayClass_spec h
  exact ⟨cA, fun n z => ⟨fun k h => (by cases h), kA, h2, comp, h3⟩, h1⟩
theorem st_none {s : State} {C : String} {n : Nat} {args : Array Value} (hi : (Cond.instantiable C n).before args s = true) : ∃ (cC : ClassId) (iS : Nat → Nat), u_Kn s C TNo 0 cC iS := by
  obtain ⟨cC, kC, hfc, hk, hkind, -⟩ := Cond.instantiable_spec hi
  exact ⟨cC, fun _ => 0, fun k hk => absurd hk (Nat.not_lt_zero k), hfc, kC, hk, hkind⟩
theorem st_str {args : Array Value} {s : State} {k : Nat} {tx : String} (h1 : (Cond.stringRef RX4 k tx).before args s = true) (h2 : (Cond.exactly (.string RX4 k) "java/lang/String").before args s = true) : ∃ a : Nat, vk_R RX4 k tx a s := by
  obtain ⟨a, -, -, -, ha, -⟩ := Cond.exactly_spec h2
  exact ⟨a, vk_R.of h1 ha⟩
theorem inJ4 : ∀ w ∈ u_ws RJ4 TJ4 4, w ∈ UG := List.forall_mem_cons.mpr ⟨u_3_175, List.forall_mem_cons.mpr ⟨u_3_177, List.forall_mem_cons.mpr ⟨u_3_179, List.forall_mem_cons.mpr ⟨u_3_181, fun _ h => nomatch h⟩⟩⟩⟩
def gE0 (G : va_G) (cI cZ cT cL cBy : ClassId) (sf : Nat → Nat) (s : State) : Prop := ∀ f : Nat → Nat, gE (G, cI, cZ, cT, cL, cBy, f, sf) s
set_option maxHeartbeats 4000000 in
set_option maxRecDepth 100000 in
theorem st_E {s : State} {args : Array Value} (hts : ∀ w ∈ lw_tbl, w.before args s = true) (hg : (Jvm.Cond.and given_1 narrow_1).before args s = true) : ∃ (G : va_G) (cI cZ cT cL cBy : ClassId) (sf : Nat → Nat), gE0 G cI cZ cT cL cBy sf s := by
  have hq := flat_of_before _ hg
  have hU : ∀ w ∈ UG, w.before args s = true := fun w hw => hts w (List.mem_filter.mp hw).1
  obtain ⟨k0, i0, K0⟩ : ∃ (cC : ClassId) (iS : Nat → Nat), u_Kn s RJ4 TJ4 4 cC iS := u_known hU (fun w h => inJ4 w h) (hU _ u_3_155)
  obtain ⟨k1, i1, K1⟩ : ∃ (cC : ClassId) (iS : Nat → Nat), u_Kn s RX0 TX0 8 cC iS := u_known hU (fun w h => inX0 w h) (hU _ u_1_152)
  obtain ⟨k2, i2, K2⟩ : ∃ (cC : ClassId) (iS : Nat → Nat), u_Kn s RX1 TX1 3 cC iS := u_known hU (fun w h => inX1 w h) (hU _ u_1_132)
  obtain ⟨k3, i3, K3⟩ : ∃ (cC : ClassId) (iS : Nat → Nat), u_Kn s RX2 TX2 5 cC iS := u_known hU (fun w h => inX2 w h) (hU _ u_1_110)
  obtain ⟨k4, i4, K4⟩ : ∃ (cC : ClassId) (iS : Nat → Nat), u_Kn s RX3 TX3 14 cC iS := u_known hU (fun w h => inX3 w h) (hU _ u_1_36)
  obtain ⟨k5, i5, K5⟩ : ∃ (cC : ClassId) (iS : Nat → Nat), u_Kn s RX4 TX4 6 cC iS := u_known hU (fun w h => inX4 w h) (hU _ u_1_28)
  obtain ⟨k6, i6, K6⟩ : ∃ (cC : ClassId) (iS : Nat → Nat), u_Kn s RX5 TX5 17 cC iS := u_known hU (fun w h => inX5 w h) (hU _ u_5_149)
  obtain ⟨k7, i7, K7⟩ : ∃ (cC : ClassId) (iS : Nat → Nat), u_Kn s (exn 4) TNo 0 cC iS := st_none (hU _ u_4_164)
  obtain ⟨c_int, A_int⟩ := st_int (hU _ u_1_107)
  obtain ⟨c_boolean, A_boolean⟩ := st_boolean (hU _ u_1_108)
  obtain ⟨c_byte, A_byte⟩ := st_byte (hU _ u_2_205)
  obtain ⟨c_long, A_long⟩ := st_long (hU _ u_7_44)
  obtain ⟨c_t, A_t⟩ := st_arr (hts _ w_1_138)
  obtain ⟨s0, S0⟩ : ∃ a : Nat, vk_R RX4 197 "no such index" a s := st_str (hts _ w_2_179) (hq _ (by decide +kernel))
  obtain ⟨s1, S1⟩ : ∃ a : Nat, vk_R RX4 157 "out of range" a s := st_str (hts _ w_2_218) (hq _ (by decide +kernel))
  obtain ⟨s2, S2⟩ : ∃ a : Nat, vk_R RX4 79 "no such character" a s := st_str (hts _ w_3_33) (hq _ (by decide +kernel))
  obtain ⟨s3, S3⟩ : ∃ a : Nat, vk_R RX4 89 "the buffer is full" a s := st_str (hts _ w_3_47) (hq _ (by decide +kernel))
  obtain ⟨s4, S4⟩ : ∃ a : Nat, vk_R RX4 100 "an error in the text" a s := st_str (hts _ w_3_97) (hq _ (by decide +kernel))
  obtain ⟨s5, S5⟩ : ∃ a : Nat, vk_R RX4 325 "no more events" a s := st_str (hts _ w_3_102) (hq _ (by decide +kernel))
  obtain ⟨s6, S6⟩ : ∃ a : Nat, vk_R RX4 323 "no such event" a s := st_str (hts _ w_3_119) (hq _ (by decide +kernel))
  obtain ⟨s7, S7⟩ : ∃ a : Nat, vk_R RX4 137 "not a part of the groups" a s := st_str (hts _ w_3_134) (hq _ (by decide +kernel))
  obtain ⟨s8, S8⟩ : ∃ a : Nat, vk_R RX4 173 "the event is fixed" a s := st_str (hts _ w_4_106) (hq _ (by decide +kernel))
  obtain ⟨s9, S9⟩ : ∃ a : Nat, vk_R RX4 329 "the place has an obstacle" a s := st_str (hts _ w_4_118) (hq _ (by decide +kernel))
  obtain ⟨s10, S10⟩ : ∃ a : Nat, vk_R RX4 327 "the event is not placed" a s := st_str (hts _ w_4_131) (hq _ (by decide +kernel))
  obtain ⟨s11, S11⟩ : ∃ a : Nat, vk_R RX4 206 "no event there" a s := st_str (hts _ w_4_197) (hq _ (by decide +kernel))
  obtain ⟨s12, S12⟩ : ∃ a : Nat, vk_R RX4 217 "the event is placed" a s := st_str (hts _ w_4_224) (hq _ (by decide +kernel))
  obtain ⟨s13, S13⟩ : ∃ a : Nat, vk_R RX4 225 "the event cannot be inserted" a s := st_str (hts _ w_4_226) (hq _ (by decide +kernel))
  obtain ⟨s14, S14⟩ : ∃ a : Nat, vk_R RX4 259 "the event has no chain for this slot" a s := st_str (hts _ w_5_3) (hq _ (by decide +kernel))
  obtain ⟨s15, S15⟩ : ∃ a : Nat, vk_R RX4 249 "the chain cannot be exchanged" a s := st_str (hts _ w_5_34) (hq _ (by decide +kernel))
  obtain ⟨s16, S16⟩ : ∃ a : Nat, vk_R RX4 303 "no change can be taken back" a s := st_str (hts _ w_5_130) (hq _ (by decide +kernel))
  obtain ⟨s17, S17⟩ : ∃ a : Nat, vk_R RX4 315 "nothing was saved" a s := st_str (hts _ w_5_143) (hq _ (by decide +kernel))
  obtain ⟨sf, hsf⟩ : ∃ sf : Nat → Nat, sf = fun k => if k = 197 then s0 else if k = 157 then s1 else if k = 79 then s2 else if k = 89 then s3 else if k = 100 then s4 else if k = 325 then s5 else if k = 323 then s6 else if k = 137 then s7 else if k = 173 then s8 else if k = 329 then s9 else if k = 327 then s10 else if k = 206 then s11 else if k = 217 then s12 else if k = 225 then s13 else if k = 259 then s14 else if k = 249 then s15 else if k = 303 then s16 else if k = 315 then s17 else 0 := ⟨_, rfl⟩
  refine ⟨(fun c => match c with | 0 => k0 | 1 => k1 | 2 => k2 | 3 => k3 | 4 => k4 | 5 => k5 | 6 => k6 | _ => k7, fun c => match c with | 0 => i0 | 1 => i1 | 2 => i2 | 3 => i3 | 4 => i4 | 5 => i5 | 6 => i6 | _ => i7), c_int, c_boolean, c_t, c_long, c_byte, sf, fun f => ⟨⟨fun c q hc => ?_, fun c q hc => ?_⟩, ?_, ?_, ?_, ?_, ?_, ?_, ?_⟩⟩
  · match c, hc with
    | 0, hc => cases hc; exact K0
    | 1, hc => cases hc; exact K1
    | 2, hc => cases hc; exact K2
    | 3, hc => cases hc; exact K3
    | 4, hc => cases hc; exact K4
    | 5, hc => cases hc; exact K5
    | 6, hc => cases hc; exact K6
    | 7, hc => cases hc; exact K7
    | c + 8, hc => cases hc
  · match c, hc with
    | 0, hc => cases hc; exact A_int
    | 1, hc => cases hc; exact A_boolean
    | 2, hc => cases hc; exact A_t
    | 3, hc => cases hc; exact A_long
    | 4, hc => cases hc; exact A_byte
    | c + 5, hc => cases hc
  · exact List.forall_mem_cons.mpr ⟨va_Nw.of rfl (hts _ w_2_48), List.forall_mem_cons.mpr ⟨va_Nw.of rfl (hts _ w_4_28), fun _ h => nomatch h⟩⟩
  · exact List.forall_mem_cons.mpr ⟨va_Nw.of rfl (hts _ w_2_139), List.forall_mem_cons.mpr ⟨va_Nw.of rfl (hts _ w_2_140), List.forall_mem_cons.mpr ⟨va_Nw.of rfl (hts _ w_2_141), List.forall_mem_cons.mpr ⟨va_Nw.of rfl (hts _ w_2_142), List.forall_mem_cons.mpr ⟨va_Nw.of rfl (hts _ w_2_143), List.forall_mem_cons.mpr ⟨va_Nw.of rfl (hts _ w_2_144), fun _ h => nomatch h⟩⟩⟩⟩⟩⟩
  · intro i hi
    match i, hi with
    | 0, _ => exact va_Nw.of rfl (hts _ w_2_138)
    | 1, _ => exact va_Nw.of rfl (hts _ w_2_211)
    | 2, _ => exact va_Nw.of rfl (hts _ w_3_40)
    | 3, _ => exact va_Nw.of rfl (hts _ w_4_99)
    | 4, _ => exact va_Nw.of rfl (hts _ w_4_165)
    | i + 5, hi => omega
  · intro i hi j hj hij
    match i, hi, j, hj, hij with
    | 0, _, 0, _, h => exact absurd rfl h
    | 0, _, 1, _, _ => exact va_Nc.of (hq (.not (.castable "java/lang/IndexOutOfBoundsException" "java/lang/IllegalArgumentException")) (by decide +kernel))
    | 0, _, 2, _, _ => exact va_Nc.of (hq (.not (.castable "java/lang/IndexOutOfBoundsException" "java/lang/IllegalStateException")) (by decide +kernel))
    | 0, _, 3, _, _ => exact va_Nc.of (hq (.not (.castable "java/lang/IndexOutOfBoundsException" "java/lang/UnsupportedOperationException")) (by decide +kernel))
    | 0, _, 4, _, _ => exact va_Nc.of (hq (.not (.castable "java/lang/IndexOutOfBoundsException" "java/util/NoSuchElementException")) (by decide +kernel))
    | 1, _, 0, _, _ => exact va_Nc.of (hq (.not (.castable "java/lang/IllegalArgumentException" "java/lang/IndexOutOfBoundsException")) (by decide +kernel))
    | 1, _, 1, _, h => exact absurd rfl h
    | 1, _, 2, _, _ => exact va_Nc.of (hq (.not (.castable "java/lang/IllegalArgumentException" "java/lang/IllegalStateException")) (by decide +kernel))
    | 1, _, 3, _, _ => exact va_Nc.of (hq (.not (.castable "java/lang/IllegalArgumentException" "java/lang/UnsupportedOperationException")) (by decide +kernel))
    | 1, _, 4, _, _ => exact va_Nc.of (hq (.not (.castable "java/lang/IllegalArgumentException" "java/util/NoSuchElementException")) (by decide +kernel))
    | 2, _, 0, _, _ => exact va_Nc.of (hq (.not (.castable "java/lang/IllegalStateException" "java/lang/IndexOutOfBoundsException")) (by decide +kernel))
    | 2, _, 1, _, _ => exact va_Nc.of (hq (.not (.castable "java/lang/IllegalStateException" "java/lang/IllegalArgumentException")) (by decide +kernel))
    | 2, _, 2, _, h => exact absurd rfl h
    | 2, _, 3, _, _ => exact va_Nc.of (hq (.not (.castable "java/lang/IllegalStateException" "java/lang/UnsupportedOperationException")) (by decide +kernel))
    | 2, _, 4, _, _ => exact va_Nc.of (hq (.not (.castable "java/lang/IllegalStateException" "java/util/NoSuchElementException")) (by decide +kernel))
    | 3, _, 0, _, _ => exact va_Nc.of (hq (.not (.castable "java/lang/UnsupportedOperationException" "java/lang/IndexOutOfBoundsException")) (by decide +kernel))
    | 3, _, 1, _, _ => exact va_Nc.of (hq (.not (.castable "java/lang/UnsupportedOperationException" "java/lang/IllegalArgumentException")) (by decide +kernel))
    | 3, _, 2, _, _ => exact va_Nc.of (hq (.not (.castable "java/lang/UnsupportedOperationException" "java/lang/IllegalStateException")) (by decide +kernel))
    | 3, _, 3, _, h => exact absurd rfl h
    | 3, _, 4, _, _ => exact va_Nc.of (hq (.not (.castable "java/lang/UnsupportedOperationException" "java/util/NoSuchElementException")) (by decide +kernel))
    | 4, _, 0, _, _ => exact va_Nc.of (hq (.not (.castable "java/util/NoSuchElementException" "java/lang/IndexOutOfBoundsException")) (by decide +kernel))
    | 4, _, 1, _, _ => exact va_Nc.of (hq (.not (.castable "java/util/NoSuchElementException" "java/lang/IllegalArgumentException")) (by decide +kernel))
    | 4, _, 2, _, _ => exact va_Nc.of (hq (.not (.castable "java/util/NoSuchElementException" "java/lang/IllegalStateException")) (by decide +kernel))
    | 4, _, 3, _, _ => exact va_Nc.of (hq (.not (.castable "java/util/NoSuchElementException" "java/lang/UnsupportedOperationException")) (by decide +kernel))
    | 4, _, 4, _, h => exact absurd rfl h
    | 0, _, j + 5, hj, _ => omega
    | 1, _, j + 5, hj, _ => omega
    | 2, _, j + 5, hj, _ => omega
    | 3, _, j + 5, hj, _ => omega
    | 4, _, j + 5, hj, _ => omega
    | i + 5, hi, _, _, _ => omega
  · exact List.forall_mem_cons.mpr ⟨(by rw [hsf]; exact S0), List.forall_mem_cons.mpr ⟨(by rw [hsf]; exact S1), List.forall_mem_cons.mpr ⟨(by rw [hsf]; exact S2), List.forall_mem_cons.mpr ⟨(by rw [hsf]; exact S3), List.forall_mem_cons.mpr ⟨(by rw [hsf]; exact S4), List.forall_mem_cons.mpr ⟨(by rw [hsf]; exact S5), List.forall_mem_cons.mpr ⟨(by rw [hsf]; exact S6), List.forall_mem_cons.mpr ⟨(by rw [hsf]; exact S7), List.forall_mem_cons.mpr ⟨(by rw [hsf]; exact S8), List.forall_mem_cons.mpr ⟨(by rw [hsf]; exact S9), List.forall_mem_cons.mpr ⟨(by rw [hsf]; exact S10), List.forall_mem_cons.mpr ⟨(by rw [hsf]; exact S11), List.forall_mem_cons.mpr ⟨(by rw [hsf]; exact S12), List.forall_mem_cons.mpr ⟨(by rw [hsf]; exact S13), List.forall_mem_cons.mpr ⟨(by rw [hsf]; exact S14), List.forall_mem_cons.mpr ⟨(by rw [hsf]; exact S15), List.forall_mem_cons.mpr ⟨(by rw [hsf]; exact S16), List.forall_mem_cons.mpr ⟨(by rw [hsf]; exact S17), fun _ h => nomatch h⟩⟩⟩⟩⟩⟩⟩⟩⟩⟩⟩⟩⟩⟩⟩⟩⟩⟩
  · exact va_Nw.of rfl (hts _ w_1_153)
  · exact va_AO.of (hts _ w_1_138)
