/-! rows of AJ over the heap: fields, arrays, making, calls -/
def u2 {α : Type} (f : Nat → Nat → α) (k i : Nat) (x : α) : Nat → Nat → α := fun a => if a = k then (fun b => if b = i then x else f k b) else f a
def zsI (M : zM) (k i : Nat) (x : Int32) : zM := (u2 M.1 k i x, M.2)
def zsL (M : zM) (k i : Nat) (x : Int64) : zM := (M.1, u2 M.2.1 k i x, M.2.2)
def zsR (M : zM) (k i : Nat) (x : Option Nat) : zM := (M.1, M.2.1, u2 M.2.2 k i x)
def zgI {ρ : Type} (S : List (Nat × Nat)) (M : zM) (k ci n j : Nat) (f : Int32 → Option ρ) : Option ρ := if S[k]? = some (ci, n) then f (M.1 k j) else none
def zgL {ρ : Type} (S : List (Nat × Nat)) (M : zM) (k ci n j : Nat) (f : Int64 → Option ρ) : Option ρ := if S[k]? = some (ci, n) then f (M.2.1 k j) else none
def zgR {ρ : Type} (S : List (Nat × Nat)) (M : zM) (k ci n j : Nat) (f : Nat → Option ρ) : Option ρ := if S[k]? = some (ci, n) then (match M.2.2 k j with | some q => f q | none => none) else none
def zpI {ρ : Type} (S : List (Nat × Nat)) (M : zM) (k ci n j : Nat) (x : Int32) (f : zM → Option ρ) : Option ρ := if S[k]? = some (ci, n) then f (zsI M k j x) else none
def zpL {ρ : Type} (S : List (Nat × Nat)) (M : zM) (k ci n j : Nat) (x : Int64) (f : zM → Option ρ) : Option ρ := if S[k]? = some (ci, n) then f (zsL M k j x) else none
def zpR {ρ : Type} (S : List (Nat × Nat)) (M : zM) (k ci n j : Nat) (x : Option Nat) (f : zM → Option ρ) : Option ρ := if S[k]? = some (ci, n) then f (zsR M k j x) else none
def zrc {ρ : Type} (S : List (Nat × Nat)) (k ci n : Nat) (o : Option ρ) : Option ρ := if S[k]? = some (ci, n) then o else none
def zAn (S : List (Nat × Nat)) (k t : Nat) : Nat := match S[k]? with | some q => if q.1 = t then q.2 else 0 | none => 0
def zaI {ρ : Type} (S : List (Nat × Nat)) (M : zM) (t k : Nat) (i : Int32) (f : Int32 → Option ρ) : Option ρ := if i < 0 ∨ zAn S k t ≤ i.toNatClampNeg then none else f (M.1 k i.toNatClampNeg)
def zaL {ρ : Type} (S : List (Nat × Nat)) (M : zM) (k : Nat) (i : Int32) (f : Int64 → Option ρ) : Option ρ := if i < 0 ∨ zAn S k 101 ≤ i.toNatClampNeg then none else f (M.2.1 k i.toNatClampNeg)
def zaQ {ρ : Type} (S : List (Nat × Nat)) (M : zM) (k : Nat) (i : Int32) (f : Option Nat → Option ρ) : Option ρ := if i < 0 ∨ zAn S k 103 ≤ i.toNatClampNeg then none else f (M.2.2 k i.toNatClampNeg)
def zbI {ρ : Type} (S : List (Nat × Nat)) (M : zM) (k : Nat) (i x : Int32) (f : zM → Option ρ) : Option ρ := if i < 0 ∨ zAn S k 100 ≤ i.toNatClampNeg then none else f (zsI M k i.toNatClampNeg x)
def zbZ {ρ : Type} (S : List (Nat × Nat)) (M : zM) (k : Nat) (i x : Int32) (f : zM → Option ρ) : Option ρ := if i < 0 ∨ zAn S k 102 ≤ i.toNatClampNeg then none else f (zsI M k i.toNatClampNeg (vp_nar .boolean x))
def zbL {ρ : Type} (S : List (Nat × Nat)) (M : zM) (k : Nat) (i : Int32) (x : Int64) (f : zM → Option ρ) : Option ρ := if i < 0 ∨ zAn S k 101 ≤ i.toNatClampNeg then none else f (zsL M k i.toNatClampNeg x)
def zbQ {ρ : Type} (S : List (Nat × Nat)) (M : zM) (k : Nat) (i : Int32) (q ci n : Nat) (f : zM → Option ρ) : Option ρ := if i < 0 ∨ zAn S k 103 ≤ i.toNatClampNeg then none else if S[q]? = some (ci, n) then f (zsR M k i.toNatClampNeg (some q)) else none
def zal {ρ : Type} (S : List (Nat × Nat)) (t k : Nat) (f : Int32 → Option ρ) : Option ρ := match S[k]? with | some q => if q.1 = t then f (Int32.ofNat q.2) else none | none => none
def zcpM (M : zM) (k0 k1 sp dp n : Nat) : zM := ((fun a => if a = k1 then va_cpy (M.1 k0) (M.1 k1) sp dp n else M.1 a), M.2)
def zcp {ρ : Type} (S : List (Nat × Nat)) (M : zM) (k0 : Nat) (sp : Int32) (k1 : Nat) (dp n : Int32) (f : zM → Option ρ) : Option ρ :=
  if (sp < 0 ∨ dp < 0 ∨ n < 0) ∨ (S[k0]? = none ∨ S[k1]? = none ∨ zAn S k0 100 = 0 ∨ zAn S k1 100 = 0) ∨ (zAn S k0 100 < sp.toNatClampNeg + n.toNatClampNeg ∨ zAn S k1 100 < dp.toNatClampNeg + n.toNatClampNeg) then none else f (zcpM M k0 k1 sp.toNatClampNeg dp.toNatClampNeg n.toNatClampNeg)
def zCl (ci : Nat) (C : String) (TX : u_T) (n : Nat) : Prop := vwCl[ci]? = some (C, TX, n) ∧ (∀ x ∈ u_ws C TX n, x ∈ zG) ∧ (∀ k, k < n → parseFieldDescriptor (TX k).2.2.1 = some (zTyp ci k)) ∧ (∀ a, a < n → ∀ b, b < n → a ≠ b → (TX a).2.1 ≠ (TX b).2.1) ∧ ci < 100 ∧ ∀ j, j < n → defaultValue (zTyp ci j) = if zk (zTyp ci j) = 1 then .long 0 else if zk (zTyp ci j) = 2 then .null else .int 0
def zFl (cls : String) (idx : Nat) (TX : u_T) (j : Nat) : Prop := Cond.fieldLink cls idx (TX j).1 (TX j).2.1 (TX j).2.2.1 ∈ zG ∨ ∃ host, Cond.fieldLinkNest cls idx (TX j).1 (TX j).2.1 (TX j).2.2.1 host ∈ zN
def zMl (cls : String) (idx : Nat) (y : MethodName) : Prop := Cond.methodLink cls idx y ∈ zG ∨ ∃ host, Cond.methodLinkNest cls idx y host ∈ zN
theorem zE_obj {B : Nat} {T : Nat → ClassId} {M : zM} {k ci n : Nat} (h : ci < 100) : zE B T M k (ci, n) = .inr (ci, (List.range n).map (fun j => zfv B M k (zTyp ci j) j)) := by
  unfold zE
  simp only
  rw [if_neg (by omega), if_neg (by omega), if_neg (by omega), if_neg (by omega)]
theorem zE_set {B : Nat} {M M' : zM} {k ci n j : Nat} {v : Value} (hj : zfv B M' k (zTyp ci j) j = v) (hs : ∀ i, i ≠ j → zfv B M' k (zTyp ci i) i = zfv B M k (zTyp ci i) i) : ((List.range n).map (fun i => zfv B M k (zTyp ci i) i)).set j v = (List.range n).map (fun i => zfv B M' k (zTyp ci i) i) := by
  apply List.ext_getElem?
  intro i
  by_cases h : i = j
  · subst h
    by_cases hn : i < n
    · rw [List.getElem?_set_self (by simpa using hn)]
      simp [hn, hj]
    · rw [List.getElem?_eq_none (by simp; omega), List.getElem?_eq_none (by simp; omega)]
  · rw [List.getElem?_set_ne (Ne.symm h)]
    by_cases hn : i < n
    · simp [hn, hs i h]
    · rw [List.getElem?_eq_none (by simp; omega), List.getElem?_eq_none (by simp; omega)]
theorem zAn_in {S : List (Nat × Nat)} {k t : Nat} {i : Int32} (h : ¬ (i < 0 ∨ zAn S k t ≤ i.toNatClampNeg)) : S[k]? = some (t, zAn S k t) := by
  have h0 : 0 < zAn S k t := by
    rcases Nat.eq_zero_or_pos (zAn S k t) with z | z
    · exact absurd (Or.inr (by rw [z]; exact Nat.zero_le _)) h
    · exact z
  unfold zAn at h0 ⊢
  split at h0
  next q hq =>
    split at h0
    next ht => rw [hq]; simp [ht]; rw [← ht]
    next ht => omega
  next hq => omega
theorem zAn_pos {S : List (Nat × Nat)} {k t : Nat} (h0 : ¬ zAn S k t = 0) : S[k]? = some (t, zAn S k t) := by
  unfold zAn at h0 ⊢
  split at h0
  next q hq =>
    split at h0
    next ht => rw [hq]; simp [ht]; rw [← ht]
    next ht => exact absurd rfl h0
  next hq => exact absurd rfl h0
theorem zv_rf (B : Nat) (o : Option Nat) : zv B (va_rf o) = va_rf (o.map (fun q => B + q)) := by cases o <;> rfl
section ZHEAP
variable {ρ : Type} {fin : ρ → Option Value × zH} {w : zWd} {d : Nat} {mi : zMI} {pc : Nat} {ls : List (Nat × Value)} {st : List Value} {S : List (Nat × Nat)} {M : zM} {o : Option ρ}
theorem aj_getV {k ci n j idx : Nat} {C : String} {TX : u_T} {v' : Value} (hcl : zCl ci C TX n) (hj : j < n) (hv : ∀ B, zv B v' = zfv B M k (zTyp ci j) j) (hk : S[k]? = some (ci, n)) (hl : zFl mi.1.cls idx TX j) (hdg : decode mi.2.1 pc = .ok (.getfield idx, 3)) (kk : AJ fin w d mi (pc + 3) ls (v' :: st) (S, M) o) : AJ fin w d mi pc ls (.ref k :: st) (S, M) o := by
  intro r hr p e R s m args below meth c H locs cells slots c0 s0 lsr hA hD hlv
  obtain ⟨hx, hb, -, -, hown, -, hG, -, hK, hN, -⟩ := id hA
  have hP := hD.1
  have he := zW_get (B := w.2.2.2.1) (T := w.2.2.1) (σ := (S, M)) hk
  rw [zE_obj hcl.2.2.2.2.1] at he
  have hvv : ((List.range n).map (fun i => zfv w.2.2.2.1 M k (zTyp ci i) i))[j]? = some (zv w.2.2.2.1 v') := by simp [hj, hv]
  rcases hl with hl | ⟨host, hl⟩
  · exact va_get hx hb hG hcl.2.1 hown hK hP k he hcl.1 j hj (hG _ hl) (fun x h => h) hvv hdg (kk r hr p e R s m args below meth c H locs cells slots c0 s0 lsr hA hD hlv)
  · exact va_getN hx hb hG hcl.2.1 hown hK hP k he hcl.1 j hj (va_Nw.use rfl (hN _ hl)) (fun x h => h) hvv hdg (kk r hr p e R s m args below meth c H locs cells slots c0 s0 lsr hA hD hlv)
theorem aj_getI {k ci n j idx : Nat} {C : String} {TX : u_T} {f : Int32 → Option ρ} (hcl : zCl ci C TX n) (hj : j < n) (ht : zk (zTyp ci j) = 0) (hl : zFl mi.1.cls idx TX j) (hdg : decode mi.2.1 pc = .ok (.getfield idx, 3)) (kk : AJ fin w d mi (pc + 3) ls (.int (M.1 k j) :: st) (S, M) (f (M.1 k j))) : AJ fin w d mi pc ls (.ref k :: st) (S, M) (zgI S M k ci n j f) :=
  aj_ckp fun hk => aj_getV hcl hj (fun B => by simp [zfv, ht, zv]) hk hl hdg kk
theorem aj_getL {k ci n j idx : Nat} {C : String} {TX : u_T} {f : Int64 → Option ρ} (hcl : zCl ci C TX n) (hj : j < n) (ht : zk (zTyp ci j) = 1) (hl : zFl mi.1.cls idx TX j) (hdg : decode mi.2.1 pc = .ok (.getfield idx, 3)) (kk : AJ fin w d mi (pc + 3) ls (.long (M.2.1 k j) :: st) (S, M) (f (M.2.1 k j))) : AJ fin w d mi pc ls (.ref k :: st) (S, M) (zgL S M k ci n j f) :=
  aj_ckp fun hk => aj_getV hcl hj (fun B => by simp [zfv, ht, zv]) hk hl hdg kk
theorem aj_getR {k ci n j idx : Nat} {C : String} {TX : u_T} {f : Nat → Option ρ} (hcl : zCl ci C TX n) (hj : j < n) (ht : zk (zTyp ci j) = 2) (hl : zFl mi.1.cls idx TX j) (hdg : decode mi.2.1 pc = .ok (.getfield idx, 3)) (kk : ∀ q, AJ fin w d mi (pc + 3) ls (.ref q :: st) (S, M) (f q)) : AJ fin w d mi pc ls (.ref k :: st) (S, M) (zgR S M k ci n j f) := by
  refine aj_ckp fun hk => ?_
  cases hq : M.2.2 k j with
  | none => exact AJ.none
  | some q => exact aj_getV hcl hj (fun B => by simp [zfv, ht, zv, hq, va_rf]) hk hl hdg (kk q)
theorem aj_putV {k ci n j idx : Nat} {C : String} {TX : u_T} {v' : Value} {M' : zM} (hcl : zCl ci C TX n) (hj : j < n) (hfin : (TX j).2.2.2 = false ∨ ((TX j).2.2.2 = true ∧ mi.1.name = "<init>" ∧ (TX j).1 = mi.1.cls ∧ Cond.fieldLink mi.1.cls idx (TX j).1 (TX j).2.1 (TX j).2.2.1 ∈ zG)) (hv : ∀ B, zfv B M' k (zTyp ci j) j = zv B v') (hs : ∀ B i, i ≠ j → zfv B M' k (zTyp ci i) i = zfv B M k (zTyp ci i) i) (ho : ∀ a, a ≠ k → M'.1 a = M.1 a ∧ M'.2.1 a = M.2.1 a ∧ M'.2.2 a = M.2.2 a) (hn : ∀ B, narrow (zTyp ci j) (zv B v') = zv B v') (hf : ∀ B, fits (zTyp ci j) (zv B v') = true) (hk : S[k]? = some (ci, n)) (hl : zFl mi.1.cls idx TX j) (hdg : decode mi.2.1 pc = .ok (.putfield idx, 3)) (kk : AJ fin w d mi (pc + 3) ls st (S, M') o) : AJ fin w d mi pc ls (v' :: .ref k :: st) (S, M) o := by
  intro r hr p e R s m args below meth c H locs cells slots c0 s0 lsr hA hD hlv
  obtain ⟨hx, hb, -, -, hown, -, hG, hnm, hK, hN, -⟩ := id hA
  obtain ⟨hP, hS, hrest⟩ := id hD
  have he := zW_get (B := w.2.2.2.1) (T := w.2.2.1) (σ := (S, M)) hk
  rw [zE_obj hcl.2.2.2.2.1] at he
  have hln : j < ((List.range n).map (fun i => zfv w.2.2.2.1 M k (zTyp ci i) i)).length := by simpa using hj
  have hset : (zW w.2.2.2.1 w.2.2.1 (S, M)).set k (w.2.2.2.1 + k, .inr (ci, ((List.range n).map (fun i => zfv w.2.2.2.1 M k (zTyp ci i) i)).set j (zv w.2.2.2.1 v'))) = zW w.2.2.2.1 w.2.2.1 (S, M') := by
    rw [zE_set (hv _) (hs _), ← zE_obj (T := w.2.2.1) hcl.2.2.2.2.1]
    exact zW_set (σ := (S, M)) hk ho
  have go : ∀ (H1 : Heap) (locs1 : List Loc), va_P w.2.1 vwCl ((zW w.2.2.2.1 w.2.2.1 (S, M)).set k (w.2.2.2.1 + k, .inr (ci, ((List.range n).map (fun i => zfv w.2.2.2.1 M k (zTyp ci i) i)).set j (zv w.2.2.2.1 v')))) H1 → va_D (fun q => w.2.2.2.1 ≤ q) ((zW w.2.2.2.1 w.2.2.1 (S, M)).set k (w.2.2.2.1 + k, .inr (ci, ((List.range n).map (fun i => zfv w.2.2.2.1 M k (zTyp ci i) i)).set j (zv w.2.2.2.1 v')))) → va_S (fun q => w.2.2.2.1 ≤ q) s.heap H1 locs1 → W p w.1 e R s m args below meth c H1 locs1 cells slots (MQ below (zQ w (fin r)) args s R.cells R.slots (fun q => w.2.2.2.1 ≤ q)) (F0 m (pc + 3) lsr (st.map (zv w.2.2.2.1))) := fun H1 locs1 hP1 _ hS1 => by
    rw [hset] at hP1
    exact kk r hr p e R s m args below meth c H1 locs1 cells slots c0 s0 lsr hA ⟨hP1, hS1, hrest⟩ hlv
  rcases hfin with hfin | ⟨hfin, hini, hdecl, hl2⟩
  · rcases hl with hl | ⟨host, hl⟩
    · exact va_put hx hb hG hcl.2.1 (zTyp ci) hcl.2.2.1 hcl.2.2.2.1 hown hK hP zW_D hS k he hcl.1 j hj (hG _ hl) (fun x h => h) hfin (hcl.2.2.1 j hj) (hn _) (hf _) hln hdg go
    · exact va_putN hx hb hG hcl.2.1 (zTyp ci) hcl.2.2.1 hcl.2.2.2.1 hown hK hP zW_D hS k he hcl.1 j hj (va_Nw.use rfl (hN _ hl)) (fun x h => h) hfin (hcl.2.2.1 j hj) (hn _) (hf _) hln hdg go
  · exact va_putF hx hb hG hcl.2.1 (zTyp ci) hcl.2.2.1 hcl.2.2.2.1 hown hK hP zW_D hS k he hcl.1 j hj (hG _ hl2) (fun x h => h) hfin (hnm.trans hini) hdecl (hcl.2.2.1 j hj) (hn _) (hf _) hln hdg go
theorem u2_ne {α : Type} {f : Nat → Nat → α} {k i a : Nat} {x : α} (h : a ≠ k) : u2 f k i x a = f a := if_neg h
theorem u2_at {α : Type} {f : Nat → Nat → α} {k i : Nat} {x : α} : u2 f k i x k i = x := by simp [u2]
theorem u2_off {α : Type} {f : Nat → Nat → α} {k i j : Nat} {x : α} (h : j ≠ i) : u2 f k i x k j = f k j := by simp [u2, h]
theorem zfv_I {B : Nat} {M : zM} {k j i : Nat} {x : Int32} {t : FieldType} (h : i ≠ j) : zfv B (zsI M k j x) k t i = zfv B M k t i := by
  unfold zfv zsI
  simp only [u2_off h]
theorem zfv_L {B : Nat} {M : zM} {k j i : Nat} {x : Int64} {t : FieldType} (h : i ≠ j) : zfv B (zsL M k j x) k t i = zfv B M k t i := by
  unfold zfv zsL
  simp only [u2_off h]
theorem zfv_R {B : Nat} {M : zM} {k j i : Nat} {x : Option Nat} {t : FieldType} (h : i ≠ j) : zfv B (zsR M k j x) k t i = zfv B M k t i := by
  unfold zfv zsR
  simp only [u2_off h]
theorem aj_putI {k ci n j idx : Nat} {C : String} {TX : u_T} {x : Int32} {f : zM → Option ρ} (hcl : zCl ci C TX n) (hj : j < n) (ht : zk (zTyp ci j) = 0) (hfin : (TX j).2.2.2 = false) (hn : narrow (zTyp ci j) (.int x) = .int x) (hf : fits (zTyp ci j) (.int x) = true) (hl : zFl mi.1.cls idx TX j) (hdg : decode mi.2.1 pc = .ok (.putfield idx, 3)) (kk : AJ fin w d mi (pc + 3) ls st (S, zsI M k j x) (f (zsI M k j x))) : AJ fin w d mi pc ls (.int x :: .ref k :: st) (S, M) (zpI S M k ci n j x f) :=
  aj_ckp fun hk => aj_putV (v' := .int x) hcl hj (Or.inl hfin) (fun B => by simp [zfv, ht, zsI, u2_at, zv]) (fun B i h => zfv_I h) (fun a h => ⟨u2_ne h, rfl, rfl⟩) (fun B => hn) (fun B => hf) hk hl hdg kk
theorem aj_putL {k ci n j idx : Nat} {C : String} {TX : u_T} {x : Int64} {f : zM → Option ρ} (hcl : zCl ci C TX n) (hj : j < n) (ht : zk (zTyp ci j) = 1) (hfin : (TX j).2.2.2 = false) (hn : narrow (zTyp ci j) (.long x) = .long x) (hf : fits (zTyp ci j) (.long x) = true) (hl : zFl mi.1.cls idx TX j) (hdg : decode mi.2.1 pc = .ok (.putfield idx, 3)) (kk : AJ fin w d mi (pc + 3) ls st (S, zsL M k j x) (f (zsL M k j x))) : AJ fin w d mi pc ls (.long x :: .ref k :: st) (S, M) (zpL S M k ci n j x f) :=
  aj_ckp fun hk => aj_putV (v' := .long x) hcl hj (Or.inl hfin) (fun B => by simp [zfv, ht, zsL, u2_at, zv]) (fun B i h => zfv_L h) (fun a h => ⟨rfl, u2_ne h, rfl⟩) (fun B => hn) (fun B => hf) hk hl hdg kk
theorem zfit_ref {t : FieldType} (h : zk t = 2) (v : Option Nat) : narrow t (va_rf v) = va_rf v ∧ fits t (va_rf v) = true := by
  cases t <;> first | (cases h; done) | (cases v <;> exact ⟨rfl, rfl⟩)
theorem aj_putR {k ci n j idx : Nat} {C : String} {TX : u_T} {x : Nat} {f : zM → Option ρ} (hcl : zCl ci C TX n) (hj : j < n) (ht : zk (zTyp ci j) = 2) (hfin : (TX j).2.2.2 = false ∨ ((TX j).2.2.2 = true ∧ mi.1.name = "<init>" ∧ (TX j).1 = mi.1.cls ∧ Cond.fieldLink mi.1.cls idx (TX j).1 (TX j).2.1 (TX j).2.2.1 ∈ zG)) (hl : zFl mi.1.cls idx TX j) (hdg : decode mi.2.1 pc = .ok (.putfield idx, 3)) (kk : AJ fin w d mi (pc + 3) ls st (S, zsR M k j (some x)) (f (zsR M k j (some x)))) : AJ fin w d mi pc ls (.ref x :: .ref k :: st) (S, M) (zpR S M k ci n j (some x) f) :=
  aj_ckp fun hk => aj_putV (v' := .ref x) hcl hj hfin (fun B => by simp [zfv, ht, zsR, u2_at, zv, va_rf]) (fun B i h => zfv_R h) (fun a h => ⟨rfl, rfl, u2_ne h⟩) (fun B => (zfit_ref ht (some (B + x))).1) (fun B => (zfit_ref ht (some (B + x))).2) hk hl hdg kk
/-! arrays -/
theorem zE_100 {B : Nat} {T : Nat → ClassId} {M : zM} {k n : Nat} : zE B T M k (100, n) = .inl (T 0, n, .inl (M.1 k)) := rfl
theorem zE_101 {B : Nat} {T : Nat → ClassId} {M : zM} {k n : Nat} : zE B T M k (101, n) = .inl (T 1, n, .inr (.inl (M.2.1 k))) := rfl
theorem zE_102 {B : Nat} {T : Nat → ClassId} {M : zM} {k n : Nat} : zE B T M k (102, n) = .inl (T 2, n, .inl (M.1 k)) := rfl
theorem zE_103 {B : Nat} {T : Nat → ClassId} {M : zM} {k n : Nat} : zE B T M k (103, n) = .inl (T 3, n, .inr (.inr (.inr (.inr (fun j => (M.2.2 k j).map (fun q => B + q)))))) := rfl
theorem aj_iald {k : Nat} {i : Int32} {f : Int32 → Option ρ} (hdg : decode mi.2.1 pc = .ok (.iaload, 1)) (kk : AJ fin w d mi (pc + 1) ls (.int (M.1 k i.toNatClampNeg) :: st) (S, M) (f (M.1 k i.toNatClampNeg))) : AJ fin w d mi pc ls (.int i :: .ref k :: st) (S, M) (zaI S M 100 k i f) := by
  refine aj_ckn fun hin => ?_
  intro r hr p e R s m args below meth c H locs cells slots c0 s0 lsr hA hD hlv
  obtain ⟨hx, hb, -, -, -, -, -, -, hK, -⟩ := id hA
  have he := zW_get (B := w.2.2.2.1) (T := w.2.2.1) (σ := (S, M)) (zAn_in hin)
  rw [zE_100] at he
  exact va_iald hx hb hK hD.1 k 0 he rfl hin hdg (kk r hr p e R s m args below meth c H locs cells slots c0 s0 lsr hA hD hlv)
theorem aj_zald {k : Nat} {i : Int32} {f : Int32 → Option ρ} (hdg : decode mi.2.1 pc = .ok (.baload, 1)) (kk : AJ fin w d mi (pc + 1) ls (.int (M.1 k i.toNatClampNeg) :: st) (S, M) (f (M.1 k i.toNatClampNeg))) : AJ fin w d mi pc ls (.int i :: .ref k :: st) (S, M) (zaI S M 102 k i f) := by
  refine aj_ckn fun hin => ?_
  intro r hr p e R s m args below meth c H locs cells slots c0 s0 lsr hA hD hlv
  obtain ⟨hx, hb, -, -, -, -, -, -, hK, -⟩ := id hA
  have he := zW_get (B := w.2.2.2.1) (T := w.2.2.1) (σ := (S, M)) (zAn_in hin)
  rw [zE_102] at he
  exact va_zald hx hb hK hD.1 k 2 he rfl hin hdg (kk r hr p e R s m args below meth c H locs cells slots c0 s0 lsr hA hD hlv)
theorem aj_lald {k : Nat} {i : Int32} {f : Int64 → Option ρ} (hdg : decode mi.2.1 pc = .ok (.laload, 1)) (kk : AJ fin w d mi (pc + 1) ls (.long (M.2.1 k i.toNatClampNeg) :: st) (S, M) (f (M.2.1 k i.toNatClampNeg))) : AJ fin w d mi pc ls (.int i :: .ref k :: st) (S, M) (zaL S M k i f) := by
  refine aj_ckn fun hin => ?_
  intro r hr p e R s m args below meth c H locs cells slots c0 s0 lsr hA hD hlv
  obtain ⟨hx, hb, -, -, -, -, -, -, hK, -⟩ := id hA
  have he := zW_get (B := w.2.2.2.1) (T := w.2.2.1) (σ := (S, M)) (zAn_in hin)
  rw [zE_101] at he
  exact va_lald hx hb hK hD.1 k 1 he rfl hin hdg (kk r hr p e R s m args below meth c H locs cells slots c0 s0 lsr hA hD hlv)
theorem aj_aald {k : Nat} {i : Int32} {f : Option Nat → Option ρ} (hdg : decode mi.2.1 pc = .ok (.aaload, 1)) (kk : ∀ q, AJ fin w d mi (pc + 1) ls (va_rf q :: st) (S, M) (f q)) : AJ fin w d mi pc ls (.int i :: .ref k :: st) (S, M) (zaQ S M k i f) := by
  refine aj_ckn fun hin => ?_
  intro r hr p e R s m args below meth c H locs cells slots c0 s0 lsr hA hD hlv
  obtain ⟨hx, hb, -, -, -, -, -, -, hK, -⟩ := id hA
  have he := zW_get (B := w.2.2.2.1) (T := w.2.2.1) (σ := (S, M)) (zAn_in hin)
  rw [zE_103] at he
  refine va_aldq hx hb hK hD.1 k 3 he rfl hin hdg ?_
  have h9 := kk _ r hr p e R s m args below meth c H locs cells slots c0 s0 lsr hA hD hlv
  rw [List.map_cons, zv_rf] at h9
  exact h9
theorem zsI_row {M : zM} {k i : Nat} {x : Int32} : (zsI M k i x).1 k = upd (M.1 k) i x := by
  funext b
  simp [zsI, u2, upd]
theorem zsL_row {M : zM} {k i : Nat} {x : Int64} : (zsL M k i x).2.1 k = vp_updL (M.2.1 k) i x := by
  funext b
  simp [zsL, u2, vp_updL]
theorem aj_iast {k : Nat} {i x : Int32} {f : zM → Option ρ} (hdg : decode mi.2.1 pc = .ok (.iastore, 1)) (kk : AJ fin w d mi (pc + 1) ls st (S, zsI M k i.toNatClampNeg x) (f (zsI M k i.toNatClampNeg x))) : AJ fin w d mi pc ls (.int x :: .int i :: .ref k :: st) (S, M) (zbI S M k i x f) := by
  refine aj_ckn fun hin => ?_
  intro r hr p e R s m args below meth c H locs cells slots c0 s0 lsr hA hD hlv
  obtain ⟨hx, hb, -, -, -, -, -, -, hK, -⟩ := id hA
  obtain ⟨hP, hS, hrest⟩ := id hD
  have hk := zAn_in hin
  have he := zW_get (B := w.2.2.2.1) (T := w.2.2.1) (σ := (S, M)) hk
  rw [zE_100] at he
  refine va_iast hx hb hK hP zW_D hS k 0 he rfl hin hdg (fun H1 locs1 hP1 _ hS1 => ?_)
  rw [← zsI_row, ← zE_100 (B := w.2.2.2.1) (T := w.2.2.1), zW_set (σ := (S, M)) (M' := zsI M k i.toNatClampNeg x) hk (fun a h => ⟨u2_ne h, rfl, rfl⟩)] at hP1
  exact kk r hr p e R s m args below meth c H1 locs1 cells slots c0 s0 lsr hA ⟨hP1, hS1, hrest⟩ hlv
theorem aj_zast {k : Nat} {i x : Int32} {f : zM → Option ρ} (hdg : decode mi.2.1 pc = .ok (.bastore, 1)) (kk : AJ fin w d mi (pc + 1) ls st (S, zsI M k i.toNatClampNeg (vp_nar .boolean x)) (f (zsI M k i.toNatClampNeg (vp_nar .boolean x)))) : AJ fin w d mi pc ls (.int x :: .int i :: .ref k :: st) (S, M) (zbZ S M k i x f) := by
  refine aj_ckn fun hin => ?_
  intro r hr p e R s m args below meth c H locs cells slots c0 s0 lsr hA hD hlv
  obtain ⟨hx, hb, -, -, -, -, -, -, hK, -⟩ := id hA
  obtain ⟨hP, hS, hrest⟩ := id hD
  have hk := zAn_in hin
  have he := zW_get (B := w.2.2.2.1) (T := w.2.2.1) (σ := (S, M)) hk
  rw [zE_102] at he
  refine va_zast hx hb hK hP zW_D hS k 2 he rfl hin hdg (fun H1 locs1 hP1 _ hS1 => ?_)
  rw [← zsI_row, ← zE_102 (B := w.2.2.2.1) (T := w.2.2.1), zW_set (σ := (S, M)) (M' := zsI M k i.toNatClampNeg (vp_nar .boolean x)) hk (fun a h => ⟨u2_ne h, rfl, rfl⟩)] at hP1
  exact kk r hr p e R s m args below meth c H1 locs1 cells slots c0 s0 lsr hA ⟨hP1, hS1, hrest⟩ hlv
theorem aj_last {k : Nat} {i : Int32} {x : Int64} {f : zM → Option ρ} (hdg : decode mi.2.1 pc = .ok (.lastore, 1)) (kk : AJ fin w d mi (pc + 1) ls st (S, zsL M k i.toNatClampNeg x) (f (zsL M k i.toNatClampNeg x))) : AJ fin w d mi pc ls (.long x :: .int i :: .ref k :: st) (S, M) (zbL S M k i x f) := by
  refine aj_ckn fun hin => ?_
  intro r hr p e R s m args below meth c H locs cells slots c0 s0 lsr hA hD hlv
  obtain ⟨hx, hb, -, -, -, -, -, -, hK, -⟩ := id hA
  obtain ⟨hP, hS, hrest⟩ := id hD
  have hk := zAn_in hin
  have he := zW_get (B := w.2.2.2.1) (T := w.2.2.1) (σ := (S, M)) hk
  rw [zE_101] at he
  refine va_last hx hb hK hP zW_D hS k 1 he rfl hin hdg (fun H1 locs1 hP1 _ hS1 => ?_)
  rw [← zsL_row, ← zE_101 (B := w.2.2.2.1) (T := w.2.2.1), zW_set (σ := (S, M)) (M' := zsL M k i.toNatClampNeg x) hk (fun a h => ⟨rfl, u2_ne h, rfl⟩)] at hP1
  exact kk r hr p e R s m args below meth c H1 locs1 cells slots c0 s0 lsr hA ⟨hP1, hS1, hrest⟩ hlv
theorem zsR_row {B : Nat} {M : zM} {k i q : Nat} : (fun j => ((zsR M k i (some q)).2.2 k j).map (fun q => B + q)) = va_up (fun j => (M.2.2 k j).map (fun q => B + q)) i (some (B + q)) := by
  funext b
  by_cases h : b = i <;> simp [zsR, u2, va_up, h]
theorem aj_aast {k q ci n : Nat} {i : Int32} {C : String} {TX : u_T} {f : zM → Option ρ} (hcl : zCl ci C TX n) (hC : C = "DayOpeners$State") (hdg : decode mi.2.1 pc = .ok (.aastore, 1)) (kk : AJ fin w d mi (pc + 1) ls st (S, zsR M k i.toNatClampNeg (some q)) (f (zsR M k i.toNatClampNeg (some q)))) : AJ fin w d mi pc ls (.ref q :: .int i :: .ref k :: st) (S, M) (zbQ S M k i q ci n f) := by
  refine aj_ckn fun hin => aj_ckp fun hq => ?_
  intro r hr p e R s m args below meth c H locs cells slots c0 s0 lsr hA hD hlv
  obtain ⟨hx, hb, -, -, -, -, -, -, hK, -⟩ := id hA
  obtain ⟨hP, hS, hrest⟩ := id hD
  have hk := zAn_in hin
  have he := zW_get (B := w.2.2.2.1) (T := w.2.2.1) (σ := (S, M)) hk
  rw [zE_103] at he
  have he2 := zW_get (B := w.2.2.2.1) (T := w.2.2.1) (σ := (S, M)) hq
  rw [zE_obj hcl.2.2.2.2.1] at he2
  subst hC
  refine va_astq hx hb hK hP zW_D hS k 3 q ci (r := ("DayOpeners$State", TX, n)) he rfl he2 hcl.1 hin hdg (fun H1 locs1 hP1 _ hS1 => ?_)
  rw [← zsR_row, ← zE_103 (T := w.2.2.1), zW_set (σ := (S, M)) (M' := zsR M k i.toNatClampNeg (some q)) hk (fun a h => ⟨rfl, rfl, u2_ne h⟩)] at hP1
  exact kk r hr p e R s m args below meth c H1 locs1 cells slots c0 s0 lsr hA ⟨hP1, hS1, hrest⟩ hlv
theorem aj_alen {t k : Nat} {f : Int32 → Option ρ} (ht : t = 100 ∨ t = 101 ∨ t = 102 ∨ t = 103) (hdg : decode mi.2.1 pc = .ok (.arraylength, 1)) (kk : ∀ n, S[k]? = some (t, n) → AJ fin w d mi (pc + 1) ls (.int (Int32.ofNat n) :: st) (S, M) (f (Int32.ofNat n))) : AJ fin w d mi pc ls (.ref k :: st) (S, M) (zal S t k f) := by
  unfold zal
  cases hk : S[k]? with
  | none => exact AJ.none
  | some q =>
    obtain ⟨t', n⟩ := q
    show AJ fin w d mi pc ls (.ref k :: st) (S, M) (if t' = t then f (Int32.ofNat n) else none)
    refine aj_ckp fun h => ?_
    subst h
    intro r hr p e R s m args below meth c H locs cells slots c0 s0 lsr hA hD hlv
    obtain ⟨hx, hb, -, -, -, -, -, -, hK, -⟩ := id hA
    have he := zW_get (B := w.2.2.2.1) (T := w.2.2.1) (σ := (S, M)) hk
    have K := kk n hk r hr p e R s m args below meth c H locs cells slots c0 s0 lsr hA hD hlv
    rcases ht with rfl | rfl | rfl | rfl
    · rw [zE_100] at he
      exact va_alen hx hb hK hD.1 k 0 he rfl rfl hdg K
    · rw [zE_101] at he
      exact va_alen hx hb hK hD.1 k 1 he rfl rfl hdg K
    · rw [zE_102] at he
      exact va_alen hx hb hK hD.1 k 2 he rfl rfl hdg K
    · rw [zE_103] at he
      exact va_alen hx hb hK hD.1 k 3 he rfl rfl hdg K
theorem aj_copy {k0 k1 : Nat} {sp dp n : Int32} {idx : Nat} {f : zM → Option ρ} (hlink : Cond.methodLink mi.1.cls idx arraycopyName ∈ zG) (hnat : Cond.native arraycopyName ∈ zG) (hstat : Cond.static arraycopyName ∈ zG) (hini : Cond.initialized "java/lang/System" ∈ zG) (hd : 1 ≤ d) (hst : (st.map fun v => v.category).sum ≤ 8) (hdg : decode mi.2.1 pc = .ok (.invokestatic idx, 3)) (kk : ∀ M', AJ fin w d mi (pc + 3) ls st (S, M') (f M')) : AJ fin w d mi pc ls (.int n :: .int dp :: .ref k1 :: .int sp :: .ref k0 :: st) (S, M) (zcp S M k0 sp k1 dp n f) := by
  refine aj_ckn fun hin => ?_
  intro r hr p e R s m args below meth c H locs cells slots c0 s0 lsr hA hD hlv
  obtain ⟨hx, hb, -, hml, hown, -, hG, -, hK, -, -, -, hfr, hlo, -⟩ := id hA
  obtain ⟨hP, hS, hrest⟩ := id hD
  simp only [not_or] at hin
  obtain ⟨⟨h1, h2, h3⟩, ⟨-, -, z0, z1⟩, h4, h5⟩ := hin
  have hk0 := zAn_pos z0
  have hk1 := zAn_pos z1
  have he0 := zW_get (B := w.2.2.2.1) (T := w.2.2.1) (σ := (S, M)) hk0
  have he1 := zW_get (B := w.2.2.2.1) (T := w.2.2.1) (σ := (S, M)) hk1
  rw [zE_100] at he0 he1
  refine va_copyi hx hb (hml.trans hlv.1.symm) hown (hG _ hlink) (hG _ hnat) (hG _ hstat) (hG _ hini) hK hP zW_D hS k0 k1 0 0 he0 he1 rfl rfl rfl h1 h2 h3 (by omega) (by omega) (fun i _ => rfl) (by omega) ?_ hdg (fun H1 locs1 hP1 _ hS1 => ?_)
  · rw [zrest]
    have hz : nativeFrameWords "java/lang/System" "arraycopy" 5 ≤ 30 := by decide +kernel
    omega
  · have hrow : va_cpy (M.1 k0) (M.1 k1) sp.toNatClampNeg dp.toNatClampNeg n.toNatClampNeg = (zcpM M k0 k1 sp.toNatClampNeg dp.toNatClampNeg n.toNatClampNeg).1 k1 := by simp [zcpM]
    rw [hrow, ← zE_100 (B := w.2.2.2.1) (T := w.2.2.1), zW_set (σ := (S, M)) (M' := zcpM M k0 k1 sp.toNatClampNeg dp.toNatClampNeg n.toNatClampNeg) hk1 (fun a h => ⟨if_neg h, rfl, rfl⟩)] at hP1
    exact kk _ r hr p e R s m args below meth c H1 locs1 cells slots c0 s0 lsr hA ⟨hP1, hS1, hrest⟩ hlv
end ZHEAP
