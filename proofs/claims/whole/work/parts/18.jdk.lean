/-! String.charAt and length on the two constants: the JDK's own methods walked; names and decode rows are printed rows of NAMES -/
def RJ0 : String := "java/lang/String"
def RJ1 : String := "java/lang/StringLatin1"
def RJ3 : String := "jdk/internal/util/Preconditions"
abbrev cJ0_length_8abf5 : ByteArray := prog_22_method_54_code
def yJ0_length_8abf5 : MethodName := ⟨RJ0, "length", "()I"⟩
abbrev cJ0_charAt_5068e : ByteArray := prog_22_method_56_code
def yJ0_charAt_5068e : MethodName := ⟨RJ0, "charAt", "(I)C"⟩
abbrev cJ0_coder_7d493 : ByteArray := prog_22_method_152_code
def yJ0_coder_7d493 : MethodName := ⟨RJ0, "coder", "()B"⟩
abbrev cJ0_isLatin1_aae02 : ByteArray := prog_22_method_154_code
def yJ0_isLatin1_aae02 : MethodName := ⟨RJ0, "isLatin1", "()Z"⟩
abbrev cJ0_checkIndex_df160 : ByteArray := prog_22_method_155_code
def yJ0_checkIndex_df160 : MethodName := ⟨RJ0, "checkIndex", "(II)V"⟩
abbrev cJ1_charAt_3b067 : ByteArray := prog_23_method_2_code
def yJ1_charAt_3b067 : MethodName := ⟨RJ1, "charAt", "([BI)C"⟩
abbrev cJ3_checkIndex_8e157 : ByteArray := prog_30_method_11_code
def yJ3_checkIndex_8e157 : MethodName := ⟨RJ3, "checkIndex", "(IILjava/util/function/BiFunction;)I"⟩
theorem dJ0_length_8abf5_0 : decode cJ0_length_8abf5 0 = .ok (.aload_n 0, 1) := by decide +kernel
theorem dJ0_length_8abf5_1 : decode cJ0_length_8abf5 1 = .ok (.getfield 9, 3) := by decide +kernel
theorem dJ0_length_8abf5_4 : decode cJ0_length_8abf5 4 = .ok (.arraylength, 1) := by decide +kernel
theorem dJ0_length_8abf5_5 : decode cJ0_length_8abf5 5 = .ok (.aload_n 0, 1) := by decide +kernel
theorem dJ0_length_8abf5_6 : decode cJ0_length_8abf5 6 = .ok (.invokevirtual 335, 3) := by decide +kernel
theorem dJ0_length_8abf5_9 : decode cJ0_length_8abf5 9 = .ok (.ishr, 1) := by decide +kernel
theorem dJ0_length_8abf5_10 : decode cJ0_length_8abf5 10 = .ok (.ireturn, 1) := by decide +kernel
theorem dJ0_charAt_5068e_0 : decode cJ0_charAt_5068e 0 = .ok (.aload_n 0, 1) := by decide +kernel
theorem dJ0_charAt_5068e_1 : decode cJ0_charAt_5068e 1 = .ok (.invokevirtual 492, 3) := by decide +kernel
theorem dJ0_charAt_5068e_4 : decode cJ0_charAt_5068e 4 = .ok (.ifCond .eq 12, 3) := by decide +kernel
theorem dJ0_charAt_5068e_7 : decode cJ0_charAt_5068e 7 = .ok (.aload_n 0, 1) := by decide +kernel
theorem dJ0_charAt_5068e_8 : decode cJ0_charAt_5068e 8 = .ok (.getfield 9, 3) := by decide +kernel
theorem dJ0_charAt_5068e_11 : decode cJ0_charAt_5068e 11 = .ok (.iload_n 1, 1) := by decide +kernel
theorem dJ0_charAt_5068e_12 : decode cJ0_charAt_5068e 12 = .ok (.invokestatic 495, 3) := by decide +kernel
theorem dJ0_charAt_5068e_15 : decode cJ0_charAt_5068e 15 = .ok (.ireturn, 1) := by decide +kernel
theorem dJ0_charAt_5068e_16 : decode cJ0_charAt_5068e 16 = .ok (.aload_n 0, 1) := by decide +kernel
theorem dJ0_charAt_5068e_17 : decode cJ0_charAt_5068e 17 = .ok (.getfield 9, 3) := by decide +kernel
theorem dJ0_charAt_5068e_20 : decode cJ0_charAt_5068e 20 = .ok (.iload_n 1, 1) := by decide +kernel
theorem dJ0_charAt_5068e_21 : decode cJ0_charAt_5068e 21 = .ok (.invokestatic 498, 3) := by decide +kernel
theorem dJ0_charAt_5068e_24 : decode cJ0_charAt_5068e 24 = .ok (.ireturn, 1) := by decide +kernel
theorem dJ0_coder_7d493_0 : decode cJ0_coder_7d493 0 = .ok (.getstatic 38, 3) := by decide +kernel
theorem dJ0_coder_7d493_3 : decode cJ0_coder_7d493 3 = .ok (.ifCond .eq 10, 3) := by decide +kernel
theorem dJ0_coder_7d493_6 : decode cJ0_coder_7d493 6 = .ok (.aload_n 0, 1) := by decide +kernel
theorem dJ0_coder_7d493_7 : decode cJ0_coder_7d493 7 = .ok (.getfield 15, 3) := by decide +kernel
theorem dJ0_coder_7d493_10 : decode cJ0_coder_7d493 10 = .ok (.goto 4, 3) := by decide +kernel
theorem dJ0_coder_7d493_13 : decode cJ0_coder_7d493 13 = .ok (.iconst 1, 1) := by decide +kernel
theorem dJ0_coder_7d493_14 : decode cJ0_coder_7d493 14 = .ok (.ireturn, 1) := by decide +kernel
theorem dJ0_isLatin1_aae02_0 : decode cJ0_isLatin1_aae02 0 = .ok (.getstatic 38, 3) := by decide +kernel
theorem dJ0_isLatin1_aae02_3 : decode cJ0_isLatin1_aae02 3 = .ok (.ifCond .eq 14, 3) := by decide +kernel
theorem dJ0_isLatin1_aae02_6 : decode cJ0_isLatin1_aae02 6 = .ok (.aload_n 0, 1) := by decide +kernel
theorem dJ0_isLatin1_aae02_7 : decode cJ0_isLatin1_aae02 7 = .ok (.getfield 15, 3) := by decide +kernel
theorem dJ0_isLatin1_aae02_10 : decode cJ0_isLatin1_aae02 10 = .ok (.ifCond .ne 7, 3) := by decide +kernel
theorem dJ0_isLatin1_aae02_13 : decode cJ0_isLatin1_aae02 13 = .ok (.iconst 1, 1) := by decide +kernel
theorem dJ0_isLatin1_aae02_14 : decode cJ0_isLatin1_aae02 14 = .ok (.goto 4, 3) := by decide +kernel
theorem dJ0_isLatin1_aae02_17 : decode cJ0_isLatin1_aae02 17 = .ok (.iconst 0, 1) := by decide +kernel
theorem dJ0_isLatin1_aae02_18 : decode cJ0_isLatin1_aae02 18 = .ok (.ireturn, 1) := by decide +kernel
theorem dJ0_checkIndex_df160_0 : decode cJ0_checkIndex_df160 0 = .ok (.iload_n 0, 1) := by decide +kernel
theorem dJ0_checkIndex_df160_1 : decode cJ0_checkIndex_df160 1 = .ok (.iload_n 1, 1) := by decide +kernel
theorem dJ0_checkIndex_df160_2 : decode cJ0_checkIndex_df160 2 = .ok (.getstatic 1053, 3) := by decide +kernel
theorem dJ0_checkIndex_df160_5 : decode cJ0_checkIndex_df160 5 = .ok (.invokestatic 1059, 3) := by decide +kernel
theorem dJ0_checkIndex_df160_8 : decode cJ0_checkIndex_df160 8 = .ok (.pop, 1) := by decide +kernel
theorem dJ0_checkIndex_df160_9 : decode cJ0_checkIndex_df160 9 = .ok (.return_, 1) := by decide +kernel
theorem dJ1_charAt_3b067_0 : decode cJ1_charAt_3b067 0 = .ok (.iload_n 1, 1) := by decide +kernel
theorem dJ1_charAt_3b067_1 : decode cJ1_charAt_3b067 1 = .ok (.aload_n 0, 1) := by decide +kernel
theorem dJ1_charAt_3b067_2 : decode cJ1_charAt_3b067 2 = .ok (.arraylength, 1) := by decide +kernel
theorem dJ1_charAt_3b067_3 : decode cJ1_charAt_3b067 3 = .ok (.invokestatic 9, 3) := by decide +kernel
theorem dJ1_charAt_3b067_6 : decode cJ1_charAt_3b067 6 = .ok (.aload_n 0, 1) := by decide +kernel
theorem dJ1_charAt_3b067_7 : decode cJ1_charAt_3b067 7 = .ok (.iload_n 1, 1) := by decide +kernel
theorem dJ1_charAt_3b067_8 : decode cJ1_charAt_3b067 8 = .ok (.baload, 1) := by decide +kernel
theorem dJ1_charAt_3b067_9 : decode cJ1_charAt_3b067 9 = .ok (.sipush 255, 3) := by decide +kernel
theorem dJ1_charAt_3b067_12 : decode cJ1_charAt_3b067 12 = .ok (.iand, 1) := by decide +kernel
theorem dJ1_charAt_3b067_13 : decode cJ1_charAt_3b067 13 = .ok (.i2c, 1) := by decide +kernel
theorem dJ1_charAt_3b067_14 : decode cJ1_charAt_3b067 14 = .ok (.ireturn, 1) := by decide +kernel
theorem dJ3_checkIndex_8e157_0 : decode cJ3_checkIndex_8e157 0 = .ok (.iload_n 0, 1) := by decide +kernel
theorem dJ3_checkIndex_8e157_1 : decode cJ3_checkIndex_8e157 1 = .ok (.ifCond .lt 8, 3) := by decide +kernel
theorem dJ3_checkIndex_8e157_4 : decode cJ3_checkIndex_8e157 4 = .ok (.iload_n 0, 1) := by decide +kernel
theorem dJ3_checkIndex_8e157_5 : decode cJ3_checkIndex_8e157 5 = .ok (.iload_n 1, 1) := by decide +kernel
theorem dJ3_checkIndex_8e157_6 : decode cJ3_checkIndex_8e157 6 = .ok (.if_icmp .lt 10, 3) := by decide +kernel
theorem dJ3_checkIndex_8e157_9 : decode cJ3_checkIndex_8e157 9 = .ok (.aload_n 2, 1) := by decide +kernel
theorem dJ3_checkIndex_8e157_10 : decode cJ3_checkIndex_8e157 10 = .ok (.iload_n 0, 1) := by decide +kernel
theorem dJ3_checkIndex_8e157_11 : decode cJ3_checkIndex_8e157 11 = .ok (.iload_n 1, 1) := by decide +kernel
theorem dJ3_checkIndex_8e157_12 : decode cJ3_checkIndex_8e157 12 = .ok (.invokestatic 95, 3) := by decide +kernel
theorem dJ3_checkIndex_8e157_15 : decode cJ3_checkIndex_8e157 15 = .ok (.athrow, 1) := by decide +kernel
theorem dJ3_checkIndex_8e157_16 : decode cJ3_checkIndex_8e157 16 = .ok (.iload_n 0, 1) := by decide +kernel
theorem dJ3_checkIndex_8e157_17 : decode cJ3_checkIndex_8e157 17 = .ok (.ireturn, 1) := by decide +kernel
theorem zg_66 : (Jvm.Cond.methodLink "java/lang/String" (335 : Nat) ({ cls := "java/lang/String", name := "coder", desc := "()B" } : Jvm.MethodName)) ∈ zG := zgm1 66 (rfl) rfl
theorem zg_70 : (Jvm.Cond.fieldLink "java/lang/String" (38 : Nat) "java/lang/String" "COMPACT_STRINGS" "Z") ∈ zG := zgm1 70 (rfl) rfl
theorem zg_76 : (Jvm.Cond.methodLink "java/lang/String" (492 : Nat) ({ cls := "java/lang/String", name := "isLatin1", desc := "()Z" } : Jvm.MethodName)) ∈ zG := zgm1 76 (rfl) rfl
theorem zg_80 : (Jvm.Cond.methodLink "java/lang/String" (495 : Nat) ({ cls := "java/lang/StringLatin1", name := "charAt", desc := "([BI)C" } : Jvm.MethodName)) ∈ zG := zgm1 80 (rfl) rfl
theorem zg_83 : (Jvm.Cond.methodLink "java/lang/StringLatin1" (9 : Nat) ({ cls := "java/lang/String", name := "checkIndex", desc := "(II)V" } : Jvm.MethodName)) ∈ zG := zgm1 83 (rfl) rfl
theorem zg_86 : (Jvm.Cond.fieldLink "java/lang/String" (1053 : Nat) "jdk/internal/util/Preconditions" "SIOOBE_FORMATTER" "Ljava/util/function/BiFunction;") ∈ zG := zgm1 86 (rfl) rfl
theorem zg_88 : (Jvm.Cond.methodLink "java/lang/String" (1059 : Nat) ({ cls := "jdk/internal/util/Preconditions", name := "checkIndex", desc := "(IILjava/util/function/BiFunction;)I" } : Jvm.MethodName)) ∈ zG := zgm1 88 (rfl) rfl
theorem zg_2041 : (Jvm.Cond.fieldLink "java/lang/String" (9 : Nat) "java/lang/String" "value" "[B") ∈ zG := zgm9 121 (rfl) rfl
theorem zg_2042 : (Jvm.Cond.fieldLink "java/lang/String" (15 : Nat) "java/lang/String" "coder" "B") ∈ zG := zgm9 122 (rfl) rfl
abbrev mJ0_length_8abf5 : zMI := (yJ0_length_8abf5, cJ0_length_8abf5, 1, (some .int))
abbrev mJ0_charAt_5068e : zMI := (yJ0_charAt_5068e, cJ0_charAt_5068e, 2, (some .char))
abbrev mJ0_coder_7d493 : zMI := (yJ0_coder_7d493, cJ0_coder_7d493, 1, (some .byte))
abbrev mJ0_isLatin1_aae02 : zMI := (yJ0_isLatin1_aae02, cJ0_isLatin1_aae02, 1, (some .boolean))
abbrev mJ0_checkIndex_df160 : zMI := (yJ0_checkIndex_df160, cJ0_checkIndex_df160, 2, none)
abbrev mJ1_charAt_3b067 : zMI := (yJ1_charAt_3b067, cJ1_charAt_3b067, 2, (some .char))
abbrev mJ3_checkIndex_8e157 : zMI := (yJ3_checkIndex_8e157, cJ3_checkIndex_8e157, 3, (some .int))

def zSt (B : Nat) (P : State → Prop) : Prop := ∀ u U : State, u.WarmedH U.vm → (∀ q, q < B → U.heap[q]? = u.heap[q]?) → P u → P U
def jQ (v : Option Value) : Array Value → State → Outcome → State → Prop := fun _ st o t => o = .returned v ∧ t.heap = st.heap
def JM (w : zWd) (d : Nat) (mi : zMI) (as : List Value) (P : State → Prop) (v : Option Value) : Prop := Met w.1 mi.1 (.code mi.1 mi.2.1 mi.2.2.1 mi.2.2.2 :: zG) { frames := d, cells := 0, slots := 0, locals := 60 * d } (fun a U => a = as.toArray ∧ P U) (jQ v) 0 0 (fun _ => False)
def JW (w : zWd) (d : Nat) (mi : zMI) (as : List Value) (P : State → Prop) (v : Option Value) (pc : Nat) (ls : List (Nat × Value)) (st : List Value) : Prop :=
  ∀ (p : Program) (e : Env) (R : Room) (s : State) (m : MethodId) (below : List Frame) (meth : Method) (c : Code) (lsr : Array Slot), p.tables.exec = Jvm.exec → c.code = mi.2.1 → meth.sig.returnType = mi.2.2.2 → c.maxLocals = mi.2.2.1 → s.vm.findClass mi.1.cls = some m.cls → meth.locks = false → (∀ x ∈ zG, x.before as.toArray s = true) → P s → (d ≤ R.frames ∧ 60 * d ≤ R.locals ∧ 0 ≤ R.cells ∧ 0 ≤ R.slots) → lv_has lsr mi.2.2.1 ls →
    W p w.1 e R s m as.toArray below meth c s.heap [] 0 0 (MQ below (jQ v) as.toArray s 0 0 (fun _ => False)) (F0 m pc lsr st)
theorem JM.of {w : zWd} {d : Nat} {mi : zMI} {as : List Value} {P : State → Prop} {v : Option Value} (hy : plainName mi.1.cls = true) (hn : (lg_sl as).length ≤ mi.2.2.1) (h : JW w d mi as P v 0 (lv_args 0 as) []) : JM w d mi as P v := by
  refine Met.ofW (cc := mi.2.1) (maxL := mi.2.2.1) (ret := mi.2.2.2) (ws' := zG) hy rfl ?_
  intro p e s m args below meth c s₁ B hml hv
  obtain ⟨rfl, hP⟩ := hv
  have hts := atoms_spec (ws := .code mi.1 mi.2.1 mi.2.2.1 mi.2.2.2 :: zG) B.pre
  rw [lg_entry_eq]
  exact h p e _ s m below meth c _ B.exec B.bytes B.returns hml (findClass_of_methodNamed B.named) B.notSynchronized (fun x hx => hts x (List.mem_cons_of_mem _ hx)) hP ⟨Nat.le_refl _, Nat.le_refl _, Nat.le_refl _, Nat.le_refl _⟩ (lv_entry as hn)
theorem jblind {B : Nat} {P : State → Prop} {as : List Value} (hP : zSt B P) : FrameBlind (fun a U => a = as.toArray ∧ P U) := fun a U g mk q => ⟨q.1, hP U (U.calling g mk a) (State.WarmedH.refl U) (fun _ _ => rfl) q.2⟩
theorem jrun {w : zWd} {p : Program} {e : Env} {R : Room} {s : State} {m : MethodId} {args : Array Value} {below : List Frame} {meth : Method} {c : Code} {H : Heap} {locs : List Loc} {cells slots : Nat} {g : JFrame} {rest : List Value} {v : Option Value} {a : Array Value} {Q : State → Prop}
    (hrun : va_Run p w.1 e R s m args below meth c H locs cells slots 0 0 g rest (jQ v a) (fun _ => False)) (k : W p w.1 e R s m args below meth c H locs cells slots Q { g with pc := g.pc + 3, stack := v.toList ++ rest }) : W p w.1 e R s m args below meth c H locs cells slots Q g := by
  intro T hT X
  obtain ⟨v1, st₀, t, T', L, h0, X', hL, e1, e2, ⟨hv, hh⟩, go⟩ := hrun T hT X
  cases hv
  have hL0 : L = [] := by
    cases L with
    | nil => rfl
    | cons q L => exact (hL q List.mem_cons_self).elim
  subst hL0
  rw [List.append_nil] at X'
  obtain ⟨t2, a1, b1⟩ := k T' (by rw [e1, hh, h0]) X'
  exact ⟨t2, go t2 a1, b1⟩
/-- a String constant at q, its bytes at v, n of them, f -/
def zJ (B q v n : Nat) (f : Nat → Int32) (U : State) : Prop :=
  va_O "java/lang/String" q (fun a => B ≤ a) U U.heap ∧ va_OF "java/lang/String" "coder" "B" (.int 0) q (fun a => B ≤ a) U U.heap ∧ va_OF "java/lang/String" "value" "[B" (.ref v) q (fun a => B ≤ a) U U.heap ∧ va_T .byte v n (fun j => .int (f j)) (fun a => B ≤ a) U U.heap ∧ va_Z "java/lang/String" "COMPACT_STRINGS" "Z" (.int 1) (fun a => B ≤ a) U U.heap ∧ va_Zq "jdk/internal/util/Preconditions" "SIOOBE_FORMATTER" "Ljava/util/function/BiFunction;" (fun a => B ≤ a) U U.heap
theorem zJ_st {B q v n : Nat} {f : Nat → Int32} : zSt B (zJ B q v n f) := by
  intro u U hW hh h
  have hq : ∀ a : Nat, a < u.heap.size → ¬ B ≤ a → U.heap[a]? = u.heap[a]? := fun a _ h => hh a (Nat.not_le.mp h)
  obtain ⟨h1, h2, h3, h4, h5, h6⟩ := h
  exact ⟨(h1.moved hW.alike).kept hq, (h2.moved hW.alike).kept hq, (h3.moved hW.alike).kept hq, (h4.moved hW.alike).kept hq, (h5.moved hW.alike).kept hq, (h6.moved hW.alike).kept hq⟩
def zch (x : Int32) : Int32 := ((x &&& 255).toUInt32 % 65536).toInt32
theorem j_check {w : zWd} {B : Nat} {P : State → Prop} (i n : Int32) (fv : Value) (hfv : fv = .null ∨ ∃ t, fv = .ref t) (h0 : ¬ i < 0) (h1 : i < n) : JM w 1 mJ3_checkIndex_8e157 [.int i, .int n, fv] P (some (.int i)) := by
  have hcat : fv.category = 1 := by rcases hfv with rfl | ⟨t, rfl⟩ <;> rfl
  refine JM.of (by decide) ?_ ?_
  · rcases hfv with rfl | ⟨t, rfl⟩ <;> exact Nat.le_of_ble_eq_true rfl
  intro p e R s m below meth c ls hx hb hr hml hown hlk hG hP hRm hl
  have hl : lv_has ls 3 [(0, .int i), (1, .int n), (2, fv)] := hl
  refine lv_iload_n hx hb dJ3_checkIndex_8e157_0 rfl (lv_at hl 0 rfl) ?_
  refine lv_if_lt (tgt := 9) hx hb dJ3_checkIndex_8e157_1 (by decide) (fun h => absurd h h0) (fun _ => ?_)
  refine lv_iload_n hx hb dJ3_checkIndex_8e157_4 rfl (lv_at hl 0 rfl) ?_
  refine lv_iload_n hx hb dJ3_checkIndex_8e157_5 rfl (lv_at hl 1 rfl) ?_
  refine lv_icmp_lt (tgt := 16) hx hb dJ3_checkIndex_8e157_6 (by decide) (fun _ => ?_) (fun h => absurd h1 h)
  refine lv_iload_n hx hb dJ3_checkIndex_8e157_16 rfl (lv_at hl 0 rfl) ?_
  exact W.zret hx hb hr rfl (fun t ht hW => ⟨rfl, ht⟩) (fun q h => by cases h) dJ3_checkIndex_8e157_17 hlk
theorem j_check2 {w : zWd} {B q v n : Nat} {f : Nat → Int32} (i N : Int32) (h0 : ¬ i < 0) (h1 : i < N) : JM w 2 mJ0_checkIndex_df160 [.int i, .int N] (zJ B q v n f) none := by
  refine JM.of (by decide) (Nat.le_of_ble_eq_true rfl) ?_
  intro p e R s m below meth c ls hx hb hr hml hown hlk hG hP hRm hl
  have hl : lv_has ls 2 [(0, .int i), (1, .int N)] := hl
  have hS : va_S (fun a => B ≤ a) s.heap s.heap [] := va_S.rf
  obtain ⟨fv, hfv, hZ⟩ : ∃ fv : Value, (fv = .null ∨ ∃ t, fv = .ref t) ∧ va_Z "jdk/internal/util/Preconditions" "SIOOBE_FORMATTER" "Ljava/util/function/BiFunction;" fv (fun a => B ≤ a) s s.heap := by
    rcases hP.2.2.2.2.2 with h | ⟨t, h⟩
    · exact ⟨.null, Or.inl rfl, h⟩
    · exact ⟨.ref t, Or.inr ⟨t, rfl⟩, h⟩
  refine lv_iload_n hx hb dJ0_checkIndex_df160_0 rfl (lv_at hl 0 rfl) ?_
  refine lv_iload_n hx hb dJ0_checkIndex_df160_1 rfl (lv_at hl 1 rfl) ?_
  refine va_gets hx hb hZ hS hown (hG _ zg_86) (fun x h => h) dJ0_checkIndex_df160_2 ?_
  have hM := j_check (w := w) (B := B) (P := zJ B q v n f) i N fv hfv h0 h1
  refine jrun (va_runS (As := [.int i, .int N, fv]) (rest := []) (n := 3) (cells := 0) (slots := 0) ⟨hx, hb, hml, hown, hG⟩ hM ⟨callB_of 3 hG (zgood (ws := zG) zg_90) rfl rfl rfl (hG _ zg_8) (hG _ zg_88) ⟨by decide, by decide, by decide +kernel⟩ ⟨by show 1 + 1 ≤ R.frames; omega, by show 8 + (3 + 11) + 60 * 1 ≤ R.locals; omega⟩, hG _ zg_89⟩ ⟨jblind zJ_st, fun U hU hW => ⟨rfl, zJ_st s U hW (fun a _ => by rw [hU]) hP⟩⟩ rfl rfl hl.1 rfl (Nat.zero_le 8) dJ0_checkIndex_df160_5 ⟨by omega, by omega⟩) ?_
  refine lv_pop hx hb dJ0_checkIndex_df160_8 rfl ?_
  exact W.vret hx hb hr (fun t ht hW => ⟨rfl, ht⟩) (fun q h => by cases h) dJ0_checkIndex_df160_9 hlk
theorem j_latin {w : zWd} {B q v n : Nat} {f : Nat → Int32} : JM w 1 mJ0_isLatin1_aae02 [.ref q] (zJ B q v n f) (some (.int 1)) := by
  refine JM.of (by decide) (Nat.le_of_ble_eq_true rfl) ?_
  intro p e R s m below meth c ls hx hb hr hml hown hlk hG hP hRm hl
  have hl : lv_has ls 1 [(0, .ref q)] := hl
  have hS : va_S (fun a => B ≤ a) s.heap s.heap [] := va_S.rf
  refine va_gets hx hb hP.2.2.2.2.1 hS hown (hG _ zg_70) (fun x h => h) dJ0_isLatin1_aae02_0 ?_
  refine lv_if_eq (tgt := 17) hx hb dJ0_isLatin1_aae02_3 (by decide) (fun h => absurd h (by decide)) (fun _ => ?_)
  refine lv_aload_n hx hb dJ0_isLatin1_aae02_6 rfl (lv_at hl 0 rfl) ?_
  refine vk_getf hx hb hP.2.1 hS hown (hG _ zg_2042) (fun x h => h) dJ0_isLatin1_aae02_7 ?_
  refine lv_if_ne (tgt := 17) hx hb dJ0_isLatin1_aae02_10 (by decide) (fun h => absurd rfl h) (fun _ => ?_)
  refine lv_iconst (v := 1) hx hb dJ0_isLatin1_aae02_13 (by decide) ?_
  refine lv_goto (tgt := 18) hx hb dJ0_isLatin1_aae02_14 (by decide) ?_
  exact W.zret hx hb hr rfl (fun t ht hW => ⟨rfl, ht⟩) (fun q h => by cases h) dJ0_isLatin1_aae02_18 hlk
theorem j_coder {w : zWd} {B q v n : Nat} {f : Nat → Int32} : JM w 1 mJ0_coder_7d493 [.ref q] (zJ B q v n f) (some (.int 0)) := by
  refine JM.of (by decide) (Nat.le_of_ble_eq_true rfl) ?_
  intro p e R s m below meth c ls hx hb hr hml hown hlk hG hP hRm hl
  have hl : lv_has ls 1 [(0, .ref q)] := hl
  have hS : va_S (fun a => B ≤ a) s.heap s.heap [] := va_S.rf
  refine va_gets hx hb hP.2.2.2.2.1 hS hown (hG _ zg_70) (fun x h => h) dJ0_coder_7d493_0 ?_
  refine lv_if_eq (tgt := 13) hx hb dJ0_coder_7d493_3 (by decide) (fun h => absurd h (by decide)) (fun _ => ?_)
  refine lv_aload_n hx hb dJ0_coder_7d493_6 rfl (lv_at hl 0 rfl) ?_
  refine vk_getf hx hb hP.2.1 hS hown (hG _ zg_2042) (fun x h => h) dJ0_coder_7d493_7 ?_
  refine lv_goto (tgt := 14) hx hb dJ0_coder_7d493_10 (by decide) ?_
  exact W.zret hx hb hr rfl (fun t ht hW => ⟨rfl, ht⟩) (fun q h => by cases h) dJ0_coder_7d493_14 hlk
theorem j_lchar {w : zWd} {B q v n : Nat} {f : Nat → Int32} (i : Int32) (hin : vp_in i n) (hN : n < 2 ^ 31) (hc : narrow .char (.int (zch (f i.toNatClampNeg))) = .int (zch (f i.toNatClampNeg))) : JM w 3 mJ1_charAt_3b067 [.ref v, .int i] (zJ B q v n f) (some (.int (zch (f i.toNatClampNeg)))) := by
  refine JM.of (by decide) (Nat.le_of_ble_eq_true rfl) ?_
  intro p e R s m below meth c ls hx hb hr hml hown hlk hG hP hRm hl
  have hl : lv_has ls 2 [(0, .ref v), (1, .int i)] := hl
  have hS : va_S (fun a => B ≤ a) s.heap s.heap [] := va_S.rf
  obtain ⟨j, hj, rfl⟩ := vp_in_of hin hN
  have h0 : ¬ nI j < 0 := nI_pos (by omega)
  have h1 : nI j < Int32.ofNat n := nI_lt hj hN
  refine lv_iload_n hx hb dJ1_charAt_3b067_0 rfl (lv_at hl 1 rfl) ?_
  refine lv_aload_n hx hb dJ1_charAt_3b067_1 rfl (lv_at hl 0 rfl) ?_
  refine va_tlen hx hb hP.2.2.2.1 hS rfl dJ1_charAt_3b067_2 ?_
  have hM := j_check2 (w := w) (B := B) (q := q) (v := v) (n := n) (f := f) (nI j) (Int32.ofNat n) h0 h1
  refine jrun (va_runS (As := [.int (nI j), .int (Int32.ofNat n)]) (rest := []) (n := 2) (cells := 0) (slots := 0) ⟨hx, hb, hml, hown, hG⟩ hM ⟨callB_of 2 hG (zgood (ws := zG) zg_85) rfl rfl rfl (hG _ zg_6) (hG _ zg_83) ⟨by decide, by decide, by decide +kernel⟩ ⟨by show 2 + 1 ≤ R.frames; omega, by show 8 + (2 + 11) + 60 * 2 ≤ R.locals; omega⟩, hG _ zg_84⟩ ⟨jblind zJ_st, fun U hU hW => ⟨rfl, zJ_st s U hW (fun a _ => by rw [hU]) hP⟩⟩ rfl rfl hl.1 rfl (Nat.zero_le 8) dJ1_charAt_3b067_3 ⟨by omega, by omega⟩) ?_
  refine lv_aload_n hx hb dJ1_charAt_3b067_6 rfl (lv_at hl 0 rfl) ?_
  refine lv_iload_n hx hb dJ1_charAt_3b067_7 rfl (lv_at hl 1 rfl) ?_
  refine va_tb hx hb hP.2.2.2.1 hS hin rfl dJ1_charAt_3b067_8 ?_
  refine lv_sipush (v := 255) hx hb dJ1_charAt_3b067_9 (by decide) ?_
  refine lv_iand hx hb dJ1_charAt_3b067_12 ?_
  refine lv_i2c hx hb dJ1_charAt_3b067_13 rfl ?_
  exact W.zret hx hb hr hc (fun t ht hW => ⟨rfl, ht⟩) (fun q h => by cases h) dJ1_charAt_3b067_14 hlk
theorem j_char {w : zWd} {B q v n : Nat} {f : Nat → Int32} (i : Int32) (hin : vp_in i n) (hN : n < 2 ^ 31) (hc : narrow .char (.int (zch (f i.toNatClampNeg))) = .int (zch (f i.toNatClampNeg))) : JM w 4 mJ0_charAt_5068e [.ref q, .int i] (zJ B q v n f) (some (.int (zch (f i.toNatClampNeg)))) := by
  refine JM.of (by decide) (Nat.le_of_ble_eq_true rfl) ?_
  intro p e R s m below meth c ls hx hb hr hml hown hlk hG hP hRm hl
  have hl : lv_has ls 2 [(0, .ref q), (1, .int i)] := hl
  have hS : va_S (fun a => B ≤ a) s.heap s.heap [] := va_S.rf
  have hrecv : ∃ cell : Cell, s.heap[q]? = some cell ∧ cell.vm.isStatics = false ∧ s.vm.findClass "java/lang/String" = some cell.cls := by
    obtain ⟨cell, a1, a2, a3, -⟩ := hP.1
    exact ⟨cell, a1, a2, a3⟩
  refine lv_aload_n hx hb dJ0_charAt_5068e_0 rfl (lv_at hl 0 rfl) ?_
  have hM := j_latin (w := w) (B := B) (q := q) (v := v) (n := n) (f := f)
  refine jrun (va_runV (As := []) (rest := []) (n := 0) (b := q) (C := "java/lang/String") (cells := 0) (slots := 0) ⟨hx, hb, hml, hown, hG⟩ hM ⟨callB_of 0 hG (zgood (ws := zG) zg_79) rfl rfl rfl (hG _ zg_6) (hG _ zg_76) ⟨by decide, by decide, by decide +kernel⟩ ⟨by show 1 + 1 ≤ R.frames; omega, by show 8 + (1 + 11) + 60 * 1 ≤ R.locals; omega⟩, hG _ zg_77, hG _ zg_78⟩ ⟨jblind zJ_st, hrecv, fun U hU hW => ⟨rfl, zJ_st s U hW (fun a _ => by rw [hU]) hP⟩⟩ rfl rfl hl.1 rfl (Nat.zero_le 8) dJ0_charAt_5068e_1 ⟨by omega, by omega⟩) ?_
  refine lv_if_eq (tgt := 16) hx hb dJ0_charAt_5068e_4 (by show ((4 : Nat) : Int) + 12 = ((16 : Nat) : Int); decide) (fun h => absurd h (by decide)) (fun _ => ?_)
  refine lv_aload_n hx hb dJ0_charAt_5068e_7 rfl (lv_at hl 0 rfl) ?_
  refine vk_getf hx hb hP.2.2.1 hS hown (hG _ zg_2041) (fun x h => h) dJ0_charAt_5068e_8 ?_
  refine lv_iload_n hx hb dJ0_charAt_5068e_11 rfl (lv_at hl 1 rfl) ?_
  have hM2 := j_lchar (w := w) (B := B) (q := q) (v := v) (n := n) (f := f) i hin hN hc
  refine jrun (va_runS (As := [.ref v, .int i]) (rest := []) (n := 2) (cells := 0) (slots := 0) ⟨hx, hb, hml, hown, hG⟩ hM2 ⟨callB_of 2 hG (zgood (ws := zG) zg_82) rfl rfl rfl (hG _ zg_7) (hG _ zg_80) ⟨by decide, by decide, by decide +kernel⟩ ⟨by show 3 + 1 ≤ R.frames; omega, by show 8 + (2 + 11) + 60 * 3 ≤ R.locals; omega⟩, hG _ zg_81⟩ ⟨jblind zJ_st, fun U hU hW => ⟨rfl, zJ_st s U hW (fun a _ => by rw [hU]) hP⟩⟩ rfl rfl hl.1 rfl (Nat.zero_le 8) dJ0_charAt_5068e_12 ⟨by omega, by omega⟩) ?_
  exact W.zret hx hb hr hc (fun t ht hW => ⟨rfl, ht⟩) (fun q h => by cases h) dJ0_charAt_5068e_15 hlk
theorem j_length {w : zWd} {B q v n : Nat} {f : Nat → Int32} : JM w 2 mJ0_length_8abf5 [.ref q] (zJ B q v n f) (some (.int (Int32.ofNat n))) := by
  refine JM.of (by decide) (Nat.le_of_ble_eq_true rfl) ?_
  intro p e R s m below meth c ls hx hb hr hml hown hlk hG hP hRm hl
  have hl : lv_has ls 1 [(0, .ref q)] := hl
  have hS : va_S (fun a => B ≤ a) s.heap s.heap [] := va_S.rf
  have hrecv : ∃ cell : Cell, s.heap[q]? = some cell ∧ cell.vm.isStatics = false ∧ s.vm.findClass "java/lang/String" = some cell.cls := by
    obtain ⟨cell, a1, a2, a3, -⟩ := hP.1
    exact ⟨cell, a1, a2, a3⟩
  refine lv_aload_n hx hb dJ0_length_8abf5_0 rfl (lv_at hl 0 rfl) ?_
  refine vk_getf hx hb hP.2.2.1 hS hown (hG _ zg_2041) (fun x h => h) dJ0_length_8abf5_1 ?_
  refine va_tlen hx hb hP.2.2.2.1 hS rfl dJ0_length_8abf5_4 ?_
  refine lv_aload_n hx hb dJ0_length_8abf5_5 rfl (lv_at hl 0 rfl) ?_
  have hM := j_coder (w := w) (B := B) (q := q) (v := v) (n := n) (f := f)
  refine jrun (va_runV (As := []) (rest := [.int (Int32.ofNat n)]) (n := 0) (b := q) (C := "java/lang/String") (cells := 0) (slots := 0) ⟨hx, hb, hml, hown, hG⟩ hM ⟨callB_of 0 hG (zgood (ws := zG) zg_69) rfl rfl rfl (hG _ zg_6) (hG _ zg_66) ⟨by decide, by decide, by decide +kernel⟩ ⟨by show 1 + 1 ≤ R.frames; omega, by show 8 + (1 + 11) + 60 * 1 ≤ R.locals; omega⟩, hG _ zg_67, hG _ zg_68⟩ ⟨jblind zJ_st, hrecv, fun U hU hW => ⟨rfl, zJ_st s U hW (fun a _ => by rw [hU]) hP⟩⟩ rfl rfl hl.1 rfl (Nat.le_of_ble_eq_true rfl) dJ0_length_8abf5_6 ⟨by omega, by omega⟩) ?_
  refine lv_ishr hx hb dJ0_length_8abf5_9 ?_
  have e9 : Int32.ofNat n >>> ((0 : Int32) &&& 31) = Int32.ofNat n := by
    rw [show ((0 : Int32) &&& 31) = 0 by decide]
    exact Int32.shiftRight_zero
  rw [e9]
  exact W.iret hx hb hr (fun t ht hW => ⟨rfl, ht⟩) (fun q h => by cases h) dJ0_length_8abf5_10 hlk
