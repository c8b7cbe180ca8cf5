/-! what the launch gives, gathered into the predicate Z -/
def zZ (B : Nat) : State → Prop := fun U => va_AO "DayOpeners$State" U ∧ zS1 B "DayOpeners$Tokens" 23 zX1 zT1 U ∧ zS1 B "DayOpenersModel" 194 zX2 zT2 U ∧ (∀ x ∈ zEB, va_Nw x U) ∧ va_Nc zNS zIO U ∧ vx_Zq Bundle.tN "UNASSIGNED_STACK" Bundle.steD (fun q => B ≤ q) U U.heap ∧ vx_Zq Bundle.tN "SUPPRESSED_SENTINEL" Bundle.listD (fun q => B ≤ q) U U.heap
theorem zS1_ok {B : Nat} {own tx : String} {idx : Nat} {Ws : List Int32} {u U : State} (hW : u.WarmedH U.vm) (hh : ∀ q, q < B → U.heap[q]? = u.heap[q]?) (h : zS1 B own idx tx Ws u) : zS1 B own idx tx Ws U := by
  obtain ⟨q, v, h1, h2⟩ := h
  exact ⟨q, v, h1.warm hW, zJ_st u U hW hh h2⟩
theorem zZ_ok (l : Launch) (D : va_G) (T : Nat → ClassId) (B g : Nat) : zOK (zw l D T B (zZ B) g) := by
  intro u U hW hh h
  have hh : ∀ q, q < B → U.heap[q]? = u.heap[q]? := hh
  have hq : ∀ a : Nat, a < u.heap.size → ¬ B ≤ a → U.heap[a]? = u.heap[a]? := fun a _ h => hh a (Nat.not_le.mp h)
  obtain ⟨h1, h2, h3, h4, h5, h6, h7⟩ := h
  exact ⟨h1.moved hW.alike, zS1_ok hW hh h2, zS1_ok hW hh h3, zEB_warm hW h4, h5.moved hW.alike, (h6.moved hW.alike).kept hq, (h7.moved hW.alike).kept hq⟩
theorem zZ_SZ (l : Launch) (D : va_G) (T : Nat → ClassId) (B g : Nat) : zSZ (zw l D T B (zZ B) g) := fun s h => ⟨h.1, h.2.1, h.2.2.1⟩
theorem zZ_EX (l : Launch) (D : va_G) (T : Nat → ClassId) (B g : Nat) : zEX (zw l D T B (zZ B) g) := fun s h => h.2.2.2
set_option maxRecDepth 100000 in
set_option maxHeartbeats 4000000 in
theorem zstr_of {own tx : String} {idx : Nat} {Ws : List Int32} {s : State} {b : Nat} (hts : ∀ w ∈ lw_tbl, w.before #[Value.ref b] s = true) (hs : ∀ c ∈ flatC (Jvm.Cond.and given_1 narrow_1), c.before #[Value.ref b] s = true) (hlen : Ws.length < 2 ^ 31) (h1 : Cond.stringRef own idx tx ∈ lw_tbl)
    (k1 : (Cond.exactly (.string own idx) "java/lang/String") ∈ flatC (Jvm.Cond.and given_1 narrow_1)) (k2 : (Cond.eq (.field (.string own idx) "java/lang/String" "coder" "B") (.int 0)) ∈ flatC (Jvm.Cond.and given_1 narrow_1)) (k3 : (Cond.arrayOf (.field (.string own idx) "java/lang/String" "value" "[B") .byte) ∈ flatC (Jvm.Cond.and given_1 narrow_1)) (k4 : (Cond.eq (.length (.field (.string own idx) "java/lang/String" "value" "[B")) (.int (Int32.ofNat Ws.length))) ∈ flatC (Jvm.Cond.and given_1 narrow_1))
    (k5 : ∀ j : Nat, j < Ws.length → (Cond.eq (.elem (.field (.string own idx) "java/lang/String" "value" "[B") (.int (Int32.ofNat j))) (.int (Ws.getD j 0))) ∈ flatC (Jvm.Cond.and given_1 narrow_1))
    (hZ : va_Z "java/lang/String" "COMPACT_STRINGS" "Z" (.int 1) (fun a => s.heap.size ≤ a) s s.heap) (hF : va_Zq "jdk/internal/util/Preconditions" "SIOOBE_FORMATTER" "Ljava/util/function/BiFunction;" (fun a => s.heap.size ≤ a) s s.heap) : zS1 s.heap.size own idx tx Ws s := by
  have h0 : ∀ i : Nat, i < 1 → i = 0 := fun i h => by omega
  obtain ⟨adK, adV, hS, hE⟩ := vk_Sof (args := #[Value.ref b]) (s := s) (N := 1) (tm := fun _ => .string own idx) (len := [Ws.length]) (byt := [Ws]) (A := fun a => s.heap.size ≤ a) (fun i hi => by rw [h0 i hi]; exact hlen) (fun i hi => hs _ k1) (fun i hi => hs _ k2) (fun i hi => hs _ k3) (fun i hi => by rw [h0 i hi]; exact hs _ k4) (fun i hi j hj => by rw [h0 i hi] at hj ⊢; exact hs _ (k5 j hj)) (fun i j hi hj hij => absurd ((h0 i hi).trans (h0 j hj).symm) hij) (fun a ha => Nat.not_le.mpr ha)
  obtain ⟨a1, a2, a3, a4⟩ := hS.1 0 (by decide)
  exact ⟨adK 0, adV 0, vk_R.of (hts _ h1) (hE 0 (by decide)), a1, a2, a3, a4, hZ, hF⟩
set_option maxRecDepth 100000 in
set_option maxHeartbeats 4000000 in
theorem zZ_start {s : State} {b : Nat} (hts : ∀ w ∈ lw_tbl, w.before #[Value.ref b] s = true) (hgv : (Jvm.Cond.and given_1 narrow_1).before #[Value.ref b] s = true) : zZ s.heap.size s := by
  have hs := flat_of_before _ hgv
  have hA : ∀ a : Nat, a < s.heap.size → ¬ s.heap.size ≤ a := fun a ha => Nat.not_le.mpr ha
  have ht : ∀ (i : Nat) (c : Cond), tables_1[i]? = some c → c.before #[Value.ref b] s = true := fun i c h => hts c (List.mem_append_right _ (List.mem_of_getElem? h))
  have hZ := va_Zof (A := fun a => s.heap.size ≤ a) (ht 71 (.laysStatic "java/lang/String" "COMPACT_STRINGS" "Z") (by decide +kernel)) (ht 6 (.initialized "java/lang/String") (by decide +kernel)) (va_eqi (hs (.eq (.static "java/lang/String" "COMPACT_STRINGS" "Z") (.int 1)) (by decide +kernel))) hA
  have hF := va_Zqof (A := fun a => s.heap.size ≤ a) (ht 87 (.laysStatic "jdk/internal/util/Preconditions" "SIOOBE_FORMATTER" "Ljava/util/function/BiFunction;") (by decide +kernel)) (ht 8 (.initialized "jdk/internal/util/Preconditions") (by decide +kernel)) (hs (.isRef (.static "jdk/internal/util/Preconditions" "SIOOBE_FORMATTER" "Ljava/util/function/BiFunction;")) (by decide +kernel)) hA
  refine ⟨va_AO.of (ht 525 (.arrayOver (.object "DayOpeners$State")) (by decide +kernel)), ?_, ?_, ?_, va_Nc.of (hs (.not (.castable zNS zIO)) (by decide +kernel)), ?_, ?_⟩
  · exact zstr_of hts hs (by decide +kernel) (List.mem_append_right _ (List.mem_of_getElem? (i := 61) (by decide +kernel))) (by decide +kernel) (by decide +kernel) (by decide +kernel) (by decide +kernel) zsegs_1 hZ hF
  · exact zstr_of hts hs (by decide +kernel) (List.mem_append_right _ (List.mem_of_getElem? (i := 1581) (by decide +kernel))) (by decide +kernel) (by decide +kernel) (by decide +kernel) (by decide +kernel) zsegs_2 hZ hF
  · intro x hx
    have h1 := hts x (List.mem_filter.mp hx).1
    have h2 := (List.mem_filter.mp hx).2
    cases x <;> first | exact va_Nw.of rfl h1 | (simp [zNest2] at h2)
  · exact vx_Zqof (hts _ (by decide +kernel)) (ht 20 (.initialized "java/lang/Throwable") (by decide +kernel)) (hs _ (by decide +kernel)) hA
  · exact vx_Zqof (hts _ (by decide +kernel)) (ht 20 (.initialized "java/lang/Throwable") (by decide +kernel)) (hs _ (by decide +kernel)) hA
theorem zN_start {s : State} {b : Nat} (hts : ∀ w ∈ lw_tbl, w.before #[Value.ref b] s = true) : ∀ x ∈ zN, va_Nw x s := by
  intro x hx
  have h1 := hts x (List.mem_filter.mp hx).1
  have h2 := (List.mem_filter.mp hx).2
  cases x <;> first | exact va_Nw.of rfl h1 | (simp [zNest] at h2)
theorem zarr {ty : FieldType} {s : State} {b : Nat} (h : (Cond.arrayClass ty).before #[Value.ref b] s = true) : ∃ cA : ClassId, ArrOfT s cA ty ∧ s.vm.findClass ("[" ++ ty.toString) = some cA := by
  obtain ⟨c, k, comp, h1, h2, h3⟩ := Cond.arrayClass_spec h
  exact ⟨c, fun n z => ⟨fun k h => (by cases h), k, h2, comp, h3⟩, h1⟩
theorem zK_start {s : State} {b : Nat} (hts : ∀ w ∈ lw_tbl, w.before #[Value.ref b] s = true) : ∃ (D : va_G) (T : Nat → ClassId), va_K D vwCl (zTys T) s := by
  have ht : ∀ x ∈ zG, x.before #[Value.ref b] s = true := fun x hx => hts x (List.mem_filter.mp hx).1
  have kn : ∀ (ci : Nat) (q : vw_C), vwCl[ci]? = some q → ∃ (c : ClassId) (iS : Nat → Nat), u_Kn s q.1 q.2.1 q.2.2 c iS := by
    intro ci q hq
    match ci, hq with
    | 0, hq => cases hq; exact u_known (n := 6) ht zc0.2.1 (ht _ zg_408)
    | 1, hq => cases hq; exact u_known (n := 7) ht zc1.2.1 (ht _ zg_149)
    | 2, hq => cases hq; exact u_known (n := 10) ht zc2.2.1 (ht _ zg_439)
    | 3, hq => cases hq; exact u_known (n := 10) ht zc3.2.1 (ht _ zg_48)
    | 4, hq => cases hq; exact u_known (n := 9) ht zc4.2.1 (ht _ zg_517)
    | 5, hq => cases hq; exact u_known (n := 1) ht zc5.2.1 (ht _ zg_34)
    | 6, hq => cases hq; exact u_known (n := 3) ht zc6.2.1 (ht _ zg_498)
    | 7, hq => cases hq; exact u_known (n := 15) ht zc7.2.1 (ht _ zg_320)
    | 8, hq => cases hq; exact u_known (n := 2) ht zc8.2.1 (ht _ zg_482)
    | 9, hq => cases hq; exact u_known (n := 7) ht zc9.2.1 (ht _ zg_54)
    | 10, hq => cases hq; exact u_known (n := 18) ht zc10.2.1 (ht _ zg_141)
    | 11, hq => cases hq; exact u_known (n := 14) ht zc11.2.1 (ht _ zg_26)
    | 12, hq => cases hq; exact u_known (n := 66) ht zc12.2.1 (ht _ zg_1337)
    | k + 13, hq => simp [vwCl] at hq
  have kn2 : ∀ ci : Nat, ∃ x : ClassId × (Nat → Nat), ∀ q : vw_C, vwCl[ci]? = some q → u_Kn s q.1 q.2.1 q.2.2 x.1 x.2 := by
    intro ci
    cases hq : vwCl[ci]? with
    | none => exact ⟨(0, fun _ => 0), fun q h => by cases h⟩
    | some q =>
      obtain ⟨c, iS, h⟩ := kn ci q hq
      exact ⟨(c, iS), fun q' h' => by cases h'; exact h⟩
  obtain ⟨f, hf⟩ := Classical.axiomOfChoice kn2
  obtain ⟨c0, a0, b0⟩ := zarr (ht _ zg_46)
  obtain ⟨c1, a1, b1⟩ := zarr (ht _ zg_179)
  obtain ⟨c2, a2, b2⟩ := zarr (ht _ zg_1549)
  obtain ⟨comp, c3, k3, h1, -, h2, h3, h4⟩ := Cond.arrayOver_spec (hts (.arrayOver (.object "DayOpeners$State")) (List.mem_append_right _ (List.mem_of_getElem? (i := 525) (by decide +kernel))))
  refine ⟨(fun k => (f k).1, fun k => (f k).2), (fun k => if k = 0 then c0 else if k = 1 then c1 else if k = 2 then c2 else c3), fun c q hq => hf c q hq, fun k q hk => ?_⟩
  match k, hk with
  | 0, hk => cases hk; exact ⟨a0, b0⟩
  | 1, hk => cases hk; exact ⟨a1, b1⟩
  | 2, hk => cases hk; exact ⟨a2, b2⟩
  | 3, hk => cases hk; exact ⟨fun n z => ⟨fun k h => (by cases h), k3, h2, comp, h3⟩, k3, comp, h2, h3, h1, h4⟩
  | k + 4, hk => simp [zTys] at hk
