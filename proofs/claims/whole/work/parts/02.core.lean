/-! The abstract heap: places k stand at addresses B + k. σ = (shapes, ints, longs, references). A judgement AJ of a method's body and a contract CT over it; the rows of AJ follow the kit's rows. -/
abbrev zM : Type := (Nat → Nat → Int32) × (Nat → Nat → Int64) × (Nat → Nat → Option Nat)
abbrev zH : Type := List (Nat × Nat) × zM
abbrev zWd : Type := Launch × va_G × (Nat → ClassId) × Nat × (State → Prop) × Nat
abbrev zMI : Type := MethodName × ByteArray × Nat × Option FieldType
def zNest : Cond → Bool := fun w => match w with
  | .fieldLinkNest .. => true
  | .methodLinkNest .. => true
  | _ => false
def zG : List Cond := lw_tbl.filter goodWord
def zN : List Cond := lw_tbl.filter zNest
def zv (B : Nat) : Value → Value := fun v => match v with
  | .ref k => .ref (B + k)
  | v => v
def zk : FieldType → Nat := fun t => match t with
  | .long => 1
  | .object _ => 2
  | .array _ => 2
  | _ => 0
def zTyp (ci j : Nat) : FieldType := match ci with
  | 0 => tyX0 j
  | 1 => tyX1 j
  | 2 => tyX2 j
  | 3 => tyX3 j
  | 4 => tyX4 j
  | 5 => tyX5 j
  | 6 => tyX6 j
  | 7 => tyX7 j
  | 8 => tyX8 j
  | 9 => tyX9 j
  | 10 => tyX10 j
  | 11 => tyX11 j
  | _ => tyX12 j
def zfv (B : Nat) (M : zM) (k : Nat) (t : FieldType) (j : Nat) : Value := if zk t = 1 then .long (M.2.1 k j) else if zk t = 2 then va_rf ((M.2.2 k j).map (fun q => B + q)) else .int (M.1 k j)
def zE (B : Nat) (T : Nat → ClassId) (M : zM) (k : Nat) (sh : Nat × Nat) : va_E :=
  if sh.1 = 100 then .inl (T 0, sh.2, .inl (M.1 k)) else if sh.1 = 101 then .inl (T 1, sh.2, .inr (.inl (M.2.1 k))) else if sh.1 = 102 then .inl (T 2, sh.2, .inl (M.1 k)) else if sh.1 = 103 then .inl (T 3, sh.2, .inr (.inr (.inr (.inr (fun j => (M.2.2 k j).map (fun q => B + q)))))) else .inr (sh.1, (List.range sh.2).map (fun j => zfv B M k (zTyp sh.1 j) j))
def zW (B : Nat) (T : Nat → ClassId) (σ : zH) : va_W := σ.1.mapIdx (fun k sh => (B + k, zE B T σ.2 k sh))
def zTys (T : Nat → ClassId) : List (ClassId × FieldType) := [(T 0, .int), (T 1, .long), (T 2, .boolean), (T 3, .object "DayOpeners$State")]
def zsl (S : List (Nat × Nat)) : Nat := (S.map (fun q => q.2)).sum
def zOK (w : zWd) : Prop := ∀ u U : State, u.WarmedH U.vm → (∀ q, q < w.2.2.2.1 → U.heap[q]? = u.heap[q]?) → w.2.2.2.2.1 u → w.2.2.2.2.1 U
def zA (w : zWd) (d : Nat) (mi : zMI) (p : Program) (R : Room) (s : State) (m : MethodId) (args : Array Value) (meth : Method) (c : Code) : Prop :=
  p.tables.exec = Jvm.exec ∧ c.code = mi.2.1 ∧ meth.sig.returnType = mi.2.2.2 ∧ c.maxLocals = mi.2.2.1 ∧ s.vm.findClass mi.1.cls = some m.cls ∧ meth.locks = false ∧ (∀ x ∈ zG, x.before args s = true) ∧ meth.name = mi.1.name ∧ va_K w.2.1 vwCl (zTys w.2.2.1) s ∧ (∀ x ∈ zN, va_Nw x s) ∧ w.2.2.2.2.1 s ∧ zOK w ∧ d ≤ R.frames ∧ 60 * d ≤ R.locals ∧ w.2.2.2.1 ≤ s.heap.size
def zD (w : zWd) (s : State) (R : Room) (σf σ : zH) (H : Heap) (locs : List Loc) (cells slots c0 s0 : Nat) : Prop :=
  va_P w.2.1 vwCl (zW w.2.2.2.1 w.2.2.1 σ) H ∧ va_S (fun q => w.2.2.2.1 ≤ q) s.heap H locs ∧ s.heap.size = w.2.2.2.1 + c0 + w.2.2.2.2.2 ∧ cells + c0 = σ.1.length ∧ slots + s0 = zsl σ.1 ∧ cells ≤ R.cells ∧ slots ≤ R.slots ∧ R.cells + c0 = σf.1.length ∧ R.slots + s0 = zsl σf.1 ∧ (w.2.2.2.2.2 = 0 ∨ cells = 0)
def zQ (w : zWd) (f : Option Value × zH) : Array Value → State → Outcome → State → Prop := fun _ st oc t =>
  oc = .returned (f.1.map (zv w.2.2.2.1)) ∧ va_P w.2.1 vwCl (zW w.2.2.2.1 w.2.2.1 f.2) t.heap ∧ va_K w.2.1 vwCl (zTys w.2.2.1) t ∧ t.heap.size = w.2.2.2.1 + f.2.1.length + w.2.2.2.2.2 ∧ va_F (fun q => w.2.2.2.1 ≤ q) st t
def zP (w : zWd) (as : List Value) (σ : zH) : Array Value → State → Prop :=
  va_Pc (as.map (zv w.2.2.2.1)) (fun U => U.heap.size = w.2.2.2.1 + σ.1.length + w.2.2.2.2.2 ∧ va_P w.2.1 vwCl (zW w.2.2.2.1 w.2.2.1 σ) U.heap ∧ va_K w.2.1 vwCl (zTys w.2.2.1) U ∧ (∀ x ∈ zN, va_Nw x U) ∧ w.2.2.2.2.1 U)
def zls (B : Nat) (ls : List (Nat × Value)) : List (Nat × Value) := ls.map (fun q => (q.1, zv B q.2))
def AJ {ρ : Type} (fin : ρ → Option Value × zH) (w : zWd) (d : Nat) (mi : zMI) (pc : Nat) (ls : List (Nat × Value)) (st : List Value) (σ : zH) (o : Option ρ) : Prop :=
  ∀ r : ρ, o = some r → ∀ (p : Program) (e : Env) (R : Room) (s : State) (m : MethodId) (args : Array Value) (below : List Frame) (meth : Method) (c : Code) (H : Heap) (locs : List Loc) (cells slots c0 s0 : Nat) (lsr : Array Slot),
    zA w d mi p R s m args meth c → zD w s R (fin r).2 σ H locs cells slots c0 s0 → lv_has lsr mi.2.2.1 (zls w.2.2.2.1 ls) →
    W p w.1 e R s m args below meth c H locs cells slots (MQ below (zQ w (fin r)) args s R.cells R.slots (fun q => w.2.2.2.1 ≤ q)) (F0 m pc lsr (st.map (zv w.2.2.2.1)))
def CT {ρ : Type} (fin : ρ → Option Value × zH) (w : zWd) (d : Nat) (mi : zMI) (as : List Value) (σ : zH) (o : Option ρ) : Prop :=
  ∀ r : ρ, o = some r → ∀ mc ms : Nat, mc + σ.1.length = (fin r).2.1.length → ms + zsl σ.1 = zsl (fin r).2.1 → zOK w →
    Met w.1 mi.1 (.code mi.1 mi.2.1 mi.2.2.1 mi.2.2.2 :: zG) { frames := d, cells := mc, slots := ms, locals := 60 * d } (zP w as σ) (zQ w (fin r)) mc ms (fun q => w.2.2.2.1 ≤ q)
/-! the world as a list -/
theorem zW_get {B : Nat} {T : Nat → ClassId} {σ : zH} {k : Nat} {sh : Nat × Nat} (h : σ.1[k]? = some sh) : (zW B T σ)[k]? = some (B + k, zE B T σ.2 k sh) := by
  simp [zW, h]
theorem zW_inv {B : Nat} {T : Nat → ClassId} {σ : zH} {k : Nat} {q : Nat × va_E} (h : (zW B T σ)[k]? = some q) : k < σ.1.length ∧ q.1 = B + k := by
  simp only [zW, List.getElem?_mapIdx, Option.map_eq_some_iff] at h
  obtain ⟨sh, h1, h2⟩ := h
  exact ⟨(List.getElem?_eq_some_iff.mp h1).1, by rw [← h2]⟩
theorem zW_D {B : Nat} {T : Nat → ClassId} {σ : zH} : va_D (fun q => B ≤ q) (zW B T σ) := by
  refine ⟨fun i j p q hi hj hpq => ?_, fun k q hk => ?_⟩
  · have h1 := (zW_inv hi).2
    have h2 := (zW_inv hj).2
    omega
  · have h1 := (zW_inv hk).2
    show B ≤ q.1
    omega
theorem zE_congr {B : Nat} {T : Nat → ClassId} {M M' : zM} {k : Nat} {sh : Nat × Nat} (h1 : M'.1 k = M.1 k) (h2 : M'.2.1 k = M.2.1 k) (h3 : M'.2.2 k = M.2.2 k) : zE B T M' k sh = zE B T M k sh := by
  unfold zE zfv
  rw [h1, h2, h3]
theorem zW_set {B : Nat} {T : Nat → ClassId} {σ : zH} {M' : zM} {k : Nat} {sh : Nat × Nat} (hk : σ.1[k]? = some sh) (hne : ∀ j, j ≠ k → M'.1 j = σ.2.1 j ∧ M'.2.1 j = σ.2.2.1 j ∧ M'.2.2 j = σ.2.2.2 j) : (zW B T σ).set k (B + k, zE B T M' k sh) = zW B T (σ.1, M') := by
  apply List.ext_getElem?
  intro i
  have hl : k < σ.1.length := (List.getElem?_eq_some_iff.mp hk).1
  by_cases hi : i = k
  · subst hi
    rw [List.getElem?_set_self (by simpa [zW] using hl), zW_get (σ := (σ.1, M')) hk]
  · rw [List.getElem?_set_ne (Ne.symm hi)]
    obtain ⟨a, b, c⟩ := hne i hi
    simp only [zW, List.getElem?_mapIdx, zE_congr a b c]
theorem zW_push {B : Nat} {T : Nat → ClassId} {σ : zH} {M' : zM} {sh : Nat × Nat} (hne : ∀ j, j ≠ σ.1.length → M'.1 j = σ.2.1 j ∧ M'.2.1 j = σ.2.2.1 j ∧ M'.2.2 j = σ.2.2.2 j) : zW B T σ ++ [(B + σ.1.length, zE B T M' σ.1.length sh)] = zW B T (σ.1 ++ [sh], M') := by
  apply List.ext_getElem?
  intro i
  have hlen : (zW B T σ).length = σ.1.length := by simp [zW]
  rcases Nat.lt_trichotomy i σ.1.length with h | h | h
  · rw [List.getElem?_append_left (by omega)]
    obtain ⟨a, b, c⟩ := hne i (by omega)
    simp only [zW, List.getElem?_mapIdx, zE_congr a b c, List.getElem?_append_left h]
  · subst h
    rw [List.getElem?_append_right (by omega), hlen, Nat.sub_self]
    simp [zW]
  · rw [List.getElem?_eq_none (by simp [hlen]; omega), List.getElem?_eq_none (by simp [zW]; omega)]
theorem zsize {w : zWd} {s : State} {R : Room} {σf σ : zH} {H : Heap} {locs : List Loc} {cells slots c0 s0 : Nat} {p : Program} {e : Env} {m : MethodId} {args : Array Value} {below : List Frame} {meth : Method} {c : Code} {T : State} (h : zD w s R σf σ H locs cells slots c0 s0) (hT : T.heap = H) (X : Stand p w.1 e R s m args below meth c T locs cells slots) : H.size = w.2.2.2.1 + σ.1.length + w.2.2.2.2.2 := by
  obtain ⟨hP, hS, h1, h2, -, -, -, -, -, hg⟩ := h
  have hup := X.heapSize
  rw [hT, h1] at hup
  have h4 := hS.1
  rw [h1] at h4
  rcases hg with hg | hg
  · have hlo : w.2.2.2.1 + σ.1.length ≤ H.size := by
      rcases Nat.eq_zero_or_pos σ.1.length with h0 | h0
      · omega
      · obtain ⟨sh, hsh⟩ : ∃ sh, σ.1[σ.1.length - 1]? = some sh := ⟨_, List.getElem?_eq_getElem (by omega)⟩
        have h5 := (hP _ _ (zW_get hsh)).lt
        have h6 : w.2.2.2.1 + (σ.1.length - 1) < H.size := h5
        omega
    omega
  · omega
/-! entry -/
theorem zls_args (B : Nat) : ∀ (vs : List Value) (i : Nat), lv_args i (vs.map (zv B)) = zls B (lv_args i vs)
  | [], _ => rfl
  | v :: vs, i => by
    have hc : (zv B v).category = v.category := by cases v <;> rfl
    show (i, zv B v) :: lv_args (if (zv B v).category = 2 then i + 2 else i + 1) (vs.map (zv B)) = (i, zv B v) :: zls B (lv_args (if v.category = 2 then i + 2 else i + 1) vs)
    rw [hc, zls_args B vs]
theorem zlg_len (B : Nat) (vs : List Value) : (lg_sl (vs.map (zv B))).length = (lg_sl vs).length := by
  induction vs with
  | nil => rfl
  | cons v vs ih =>
    have hc : (zv B v).category = v.category := by cases v <;> rfl
    simp only [lg_sl, List.map_cons, List.flatMap_cons, List.length_append] at ih ⊢
    rw [ih, hc]
    by_cases h : v.category = 2 <;> simp [h]
set_option maxHeartbeats 1000000 in
theorem CT.of {ρ : Type} {fin : ρ → Option Value × zH} {w : zWd} {d : Nat} {mi : zMI} {as : List Value} {σ : zH} {o : Option ρ} (hy : plainName mi.1.cls = true) (hn : (lg_sl as).length ≤ mi.2.2.1) (h : AJ fin w d mi 0 (lv_args 0 as) [] σ o) : CT fin w d mi as σ o := by
  intro r hr mc ms hmc hms hok
  refine Met.ofW (cc := mi.2.1) (maxL := mi.2.2.1) (ret := mi.2.2.2) (ws' := zG) hy rfl ?_
  intro p e s m args below meth c s₁ B hml hv
  obtain ⟨rfl, hsz, hP, hK, hN, hZ⟩ := hv
  have hts := atoms_spec (ws := .code mi.1 mi.2.1 mi.2.2.1 mi.2.2.2 :: zG) B.pre
  rw [lg_entry_eq]
  have hl := lv_entry (as.map (zv w.2.2.2.1)) (n := mi.2.2.1) (by rw [zlg_len]; exact hn)
  rw [zls_args] at hl
  refine h r hr p e _ s m _ below meth c s.heap [] 0 0 σ.1.length (zsl σ.1) _ ?_ ?_ hl
  · exact ⟨B.exec, B.bytes, B.returns, hml, findClass_of_methodNamed B.named, B.notSynchronized, fun x hx => hts x (List.mem_cons_of_mem _ hx), (name_of_methodNamed B.named B.method).1, hK, hN, hZ, hok, Nat.le_refl _, Nat.le_refl _, by rw [hsz]; omega⟩
  · exact ⟨hP, va_S.rf, hsz, by omega, by omega, Nat.zero_le _, Nat.zero_le _, hmc, hms, Or.inr rfl⟩
/-! fewer locals, ends, no way on -/
theorem AJ.none {ρ : Type} {fin : ρ → Option Value × zH} {w : zWd} {d : Nat} {mi : zMI} {pc : Nat} {ls : List (Nat × Value)} {st : List Value} {σ : zH} : AJ fin w d mi pc ls st σ (none : Option ρ) := fun r h => by cases h
theorem zls_pick (B : Nat) (ls : List (Nat × Value)) (ks : List Nat) : lv_pick (zls B ls) ks = zls B (lv_pick ls ks) := by
  unfold lv_pick zls
  rw [List.map_filterMap]
  simp
theorem AJ.sub {ρ : Type} {fin : ρ → Option Value × zH} {w : zWd} {d : Nat} {mi : zMI} {pc : Nat} {ls ls' : List (Nat × Value)} {st : List Value} {σ : zH} {o : Option ρ} (ks : List Nat) (h : lv_pick ls ks = ls') (k : AJ fin w d mi pc ls' st σ o) : AJ fin w d mi pc ls st σ o := by
  intro r hr p e R s m args below meth c H locs cells slots c0 s0 lsr hA hD hl
  exact k r hr p e R s m args below meth c H locs cells slots c0 s0 lsr hA hD (lv_sub hl ks (by rw [zls_pick, h]))
