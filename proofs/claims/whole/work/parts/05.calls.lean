/-! rows of AJ: making and calling -/
def zfC : zH → Option Value × zH := fun σ => (none, σ)
def zgr (S' : List (Nat × Nat)) (o : Option zH) : Option zH := match o with | some r => if S'.length ≤ r.1.length ∧ zsl S' ≤ zsl r.1 then some r else none | none => none
def zNw (M : zM) (k : Nat) : zM := ((fun a => if a = k then (fun _ => 0) else M.1 a), (fun a => if a = k then (fun _ => 0) else M.2.1 a), (fun a => if a = k then (fun _ => none) else M.2.2 a))
def znew (S : List (Nat × Nat)) (M : zM) (ci n : Nat) (f : List (Nat × Nat) → zM → Nat → Option zH) : Option zH := zgr (S ++ [(ci, n)]) (f (S ++ [(ci, n)]) (zNw M S.length) S.length)
def znar (S : List (Nat × Nat)) (M : zM) (t : Nat) (x : Int32) (f : List (Nat × Nat) → zM → Nat → Option zH) : Option zH := if x < 0 ∨ 100000 < x.toNatClampNeg then none else znew S M t x.toNatClampNeg f
def zmk (S : List (Nat × Nat)) (o : Option zH) (f : zH → Option zH) : Option zH := match o with | some r => if S.length ≤ r.1.length ∧ zsl S ≤ zsl r.1 then zgr r.1 (f r) else none | none => none
theorem zsl_app (S : List (Nat × Nat)) (ci n : Nat) : zsl (S ++ [(ci, n)]) = zsl S + n := by simp [zsl]
theorem zsl_app2 (S : List (Nat × Nat)) (q : Nat × Nat) : zsl (S ++ [q]) = zsl S + q.2 := by simp [zsl]
theorem zgr_some {S' : List (Nat × Nat)} {o : Option zH} {r : zH} (h : zgr S' o = some r) : o = some r ∧ S'.length ≤ r.1.length ∧ zsl S' ≤ zsl r.1 := by
  unfold zgr at h
  cases o with
  | none => cases h
  | some q =>
    simp only at h
    split at h
    next hc => cases h; exact ⟨rfl, hc⟩
    next => cases h
theorem zmk_some {S : List (Nat × Nat)} {o : Option zH} {f : zH → Option zH} {r : zH} (h : zmk S o f = some r) : ∃ q, o = some q ∧ f q = some r ∧ S.length ≤ q.1.length ∧ zsl S ≤ zsl q.1 ∧ q.1.length ≤ r.1.length ∧ zsl q.1 ≤ zsl r.1 := by
  unfold zmk at h
  cases o with
  | none => cases h
  | some q =>
    simp only at h
    split at h
    next hc =>
      obtain ⟨a, b, c⟩ := zgr_some h
      exact ⟨q, rfl, a, hc.1, hc.2, b, c⟩
    next => cases h
theorem zE_new {B : Nat} {T : Nat → ClassId} {M : zM} {k : Nat} : (zNw M k).1 k = (fun _ => 0) ∧ (zNw M k).2.1 k = (fun _ => 0) ∧ (zNw M k).2.2 k = fun _ => none := by
  simp [zNw]
theorem zNw_ne {M : zM} {k a : Nat} (h : a ≠ k) : (zNw M k).1 a = M.1 a ∧ (zNw M k).2.1 a = M.2.1 a ∧ (zNw M k).2.2 a = M.2.2 a := by
  simp [zNw, h]
theorem znewD {w : zWd} {s : State} {R : Room} {σf : zH} {S : List (Nat × Nat)} {M : zM} {H H1 : Heap} {locs : List Loc} {cells slots c0 s0 : Nat} {p : Program} {e : Env} {m : MethodId} {args : Array Value} {below : List Frame} {meth : Method} {c : Code} {sh : Nat × Nat} {q : Nat} {E : va_E}
    (hg : w.2.2.2.2.2 = 0) (hD : zD w s R σf (S, M) H locs cells slots c0 s0) (hP1 : va_P w.2.1 vwCl (zW w.2.2.2.1 w.2.2.1 (S, M) ++ [(q, E)]) H1) (hD1 : va_D (fun q => w.2.2.2.1 ≤ q) (zW w.2.2.2.1 w.2.2.1 (S, M) ++ [(q, E)])) (hS1 : va_S (fun q => w.2.2.2.1 ≤ q) s.heap H1 locs) (hE : E = zE w.2.2.2.1 w.2.2.1 (zNw M S.length) S.length sh)
    (hlen : (S ++ [sh]).length ≤ σf.1.length) (hsl : zsl (S ++ [sh]) ≤ zsl σf.1) {T : State} (hT : T.heap = H1) (X : Stand p w.1 e R s m args below meth c T locs (cells + 1) (slots + sh.2)) :
    q = w.2.2.2.1 + S.length ∧ zD w s R σf (S ++ [sh], zNw M S.length) H1 locs (cells + 1) (slots + sh.2) c0 s0 := by
  obtain ⟨hP, hS, h1, h2, h3, h4, h5, h6, h7, -⟩ := hD
  have hlen0 : (zW w.2.2.2.1 w.2.2.1 (S, M)).length = S.length := by simp [zW]
  have hlast : (zW w.2.2.2.1 w.2.2.1 (S, M) ++ [(q, E)])[S.length]? = some (q, E) := by
    rw [List.getElem?_append_right (by omega), hlen0, Nat.sub_self]; rfl
  have hlt : q < H1.size := (hP1 _ _ hlast).lt
  have hge : w.2.2.2.1 ≤ q := hD1.2 _ _ hlast
  have hup := X.heapSize
  rw [hT, h1, hg] at hup
  have h2' : cells + c0 = S.length := h2
  have hq : q = w.2.2.2.1 + S.length := by
    rcases Nat.lt_or_ge q (w.2.2.2.1 + S.length) with hl | hg
    · exfalso
      obtain ⟨j, rfl⟩ : ∃ j, q = w.2.2.2.1 + j := ⟨q - w.2.2.2.1, by omega⟩
      have hj : j < S.length := by omega
      have hsh : (S, M).1[j]? = some S[j] := List.getElem?_eq_getElem hj
      have hz := zW_get (B := w.2.2.2.1) (T := w.2.2.1) (σ := (S, M)) hsh
      have hz2 : (zW w.2.2.2.1 w.2.2.1 (S, M) ++ [(w.2.2.2.1 + j, E)])[j]? = some (w.2.2.2.1 + j, zE w.2.2.2.1 w.2.2.1 M j S[j]) := by
        rw [List.getElem?_append_left (by omega)]; exact hz
      have := hD1.1 _ _ _ _ hz2 hlast rfl
      omega
    · omega
  refine ⟨hq, ?_⟩
  subst hq
  subst hE
  rw [show w.2.2.2.1 + S.length = w.2.2.2.1 + (S, M).1.length from rfl, zW_push (σ := (S, M)) (M' := zNw M S.length) (fun j hj => zNw_ne hj)] at hP1
  have e1 : (S ++ [sh]).length = S.length + 1 := by simp
  have e2 := zsl_app2 S sh
  have h3' : slots + s0 = zsl S := h3
  refine ⟨hP1, hS1, h1, ?_, ?_, ?_, ?_, h6, h7, Or.inl hg⟩
  · show cells + 1 + c0 = (S ++ [sh]).length
    omega
  · show slots + sh.2 + s0 = zsl (S ++ [sh])
    omega
  · omega
  · omega
section ZCALL
variable {w : zWd} {d : Nat} {mi : zMI} {pc : Nat} {ls : List (Nat × Value)} {st : List Value} {S : List (Nat × Nat)} {M : zM}
theorem aj_new {ci n idx : Nat} {C : String} {TX : u_T} {f : List (Nat × Nat) → zM → Nat → Option zH} (hg : w.2.2.2.2.2 = 0) (hcl : zCl ci C TX n) (hcls : Cond.classLink mi.1.cls idx C ∈ zG) (hinst : Cond.instantiable C n ∈ zG) (hini : Cond.initialized C ∈ zG) (hdg : decode mi.2.1 pc = .ok (.new idx, 3)) (kk : AJ zfC w d mi (pc + 3) ls (.ref S.length :: st) (S ++ [(ci, n)], zNw M S.length) (f (S ++ [(ci, n)]) (zNw M S.length) S.length)) : AJ zfC w d mi pc ls st (S, M) (znew S M ci n f) := by
  intro r hr p e R s m args below meth c H locs cells slots c0 s0 lsr hA hD hlv
  obtain ⟨hr, hlen, hsl⟩ := zgr_some hr
  obtain ⟨hx, hb, -, -, hown, -, hG, -, hK, hN, -, -, -, -, hBs⟩ := id hA
  obtain ⟨hP, hS, h1, h2, h3, h4, h5, h6, h7, -⟩ := id hD
  have h2' : cells + c0 = S.length := h2
  have h3' : slots + s0 = zsl S := h3
  have e1 : (S ++ [(ci, n)]).length = S.length + 1 := by simp
  have e2 := zsl_app S ci n
  have h6' : R.cells + c0 = r.1.length := h6
  have h7' : R.slots + s0 = zsl r.1 := h7
  have hE : (.inr (ci, (List.range n).map (fun j => zfv w.2.2.2.1 (zNw M S.length) S.length (zTyp ci j) j)) : va_E) = zE w.2.2.2.1 w.2.2.1 (zNw M S.length) S.length (ci, n) := (zE_obj hcl.2.2.2.2.1).symm
  refine va_new hx hb hG hcl.2.1 (zTyp ci) hcl.2.2.1 hown (hG _ hcls) (hG _ hinst) (hG _ hini) hK hP zW_D hS (fun q h => Nat.le_trans hBs h) hcl.1 (fs := (List.range n).map (fun j => zfv w.2.2.2.1 (zNw M S.length) S.length (zTyp ci j) j)) ?_ (by omega) (by omega) hdg (fun q H1 hP1 hD1 hS1 => ?_)
  · intro j hj
    rw [hcl.2.2.2.2.2 j hj]
    simp [vp_V, hj, zfv, zNw, va_rf]
  · intro T hT X
    obtain ⟨hq, hD2⟩ := znewD (sh := (ci, n)) hg hD hP1 hD1 hS1 hE hlen hsl hT X
    subst hq
    exact kk r hr p e R s m args below meth c H1 locs (cells + 1) (slots + n) c0 s0 lsr hA hD2 hlv T hT X
theorem zprim {T : Nat → ClassId} {D : va_G} {s : State} {ty : FieldType} {cA : ClassId} {t0 : Nat} (hty : ∀ C, ty ≠ .object C) (h0 : (zTys T)[t0]? = some (T t0, ty)) (hK : va_K D vwCl (zTys T ++ [(cA, ty)]) s) : cA = T t0 := by
  have a := (hK.2 t0 _ (by rw [List.getElem?_append_left (List.getElem?_eq_some_iff.mp h0).1]; exact h0)).2
  have b := (hK.2 (zTys T).length (cA, ty) (by rw [List.getElem?_append_right (Nat.le_refl _), Nat.sub_self]; rfl)).2
  have a2 : s.vm.findClass ("[" ++ ty.toString) = some (T t0) := by
    cases ty <;> first | exact a | exact absurd rfl (hty _)
  have b2 : s.vm.findClass ("[" ++ ty.toString) = some cA := by
    cases ty <;> first | exact b | exact absurd rfl (hty _)
  exact Option.some.inj (b2.symm.trans a2)
theorem aj_newar {t t0 : Nat} {x : Int32} {atype : ArrayType} {ty : FieldType} {f : List (Nat × Nat) → zM → Nat → Option zH} {a0 : vp_A} (hg : w.2.2.2.2.2 = 0) (harr : Cond.arrayClass ty ∈ zG) (hty : newarray.typeOf atype = ty) (hobj : ∀ C, ty ≠ .object C) (h0 : ∀ T, (zTys T)[t0]? = some (T t0, ty)) (ha : ∀ (N : Nat) (cA : ClassId), vp_cell cA (N, a0.2) = arrV cA N (fun _ => defaultValue ty)) (hE : ∀ (B N k : Nat) (T : Nat → ClassId) (M : zM), zE B T (zNw M k) k (t, N) = .inl (T t0, N, a0.2)) (hby : componentBytes ty ≤ 8) (hdg : decode mi.2.1 pc = .ok (.newarray atype, 2)) (kk : AJ zfC w d mi (pc + 2) ls (.ref S.length :: st) (S ++ [(t, x.toNatClampNeg)], zNw M S.length) (f (S ++ [(t, x.toNatClampNeg)]) (zNw M S.length) S.length)) : AJ zfC w d mi pc ls (.int x :: st) (S, M) (znar S M t x f) := by
  refine aj_ckn fun hin => ?_
  intro r hr p e R s m args below meth c H locs cells slots c0 s0 lsr hA hD hlv
  obtain ⟨hr, hlen, hsl⟩ := zgr_some hr
  simp only [not_or, Nat.not_lt] at hin
  obtain ⟨hx, hb, -, -, hown, -, hG, -, hK, hN, -, -, -, -, hBs⟩ := id hA
  obtain ⟨hP, hS, h1, h2, h3, h4, h5, h6, h7, -⟩ := id hD
  have h2' : cells + c0 = S.length := h2
  have h3' : slots + s0 = zsl S := h3
  have e1 : (S ++ [(t, x.toNatClampNeg)]).length = S.length + 1 := by simp
  have e2 := zsl_app S t x.toNatClampNeg
  have h6' : R.cells + c0 = r.1.length := h6
  have h7' : R.slots + s0 = zsl r.1 := h7
  have hbytes : x.toNatClampNeg * componentBytes ty ≤ 536870912 := Nat.le_trans (Nat.mul_le_mul hin.2 hby) (by decide)
  subst hty
  refine va_newa hx hb (hG _ harr) rfl hK hP zW_D hS (fun q h => Nat.le_trans hBs h) (a0 := (x.toNatClampNeg, a0.2)) (ha _) hin.1 rfl hbytes (by omega) (by omega) hdg (fun q cA H1 hK1 hP1 hD1 hS1 => ?_)
  intro T hT X
  have hc := zprim hobj (h0 w.2.2.1) hK1
  subst hc
  obtain ⟨hq, hD2⟩ := znewD (sh := (t, x.toNatClampNeg)) hg hD hP1 hD1 hS1 (hE _ _ _ _ _).symm hlen hsl hT X
  subst hq
  exact kk r hr p e R s m args below meth c H1 locs (cells + 1) (slots + x.toNatClampNeg) c0 s0 lsr hA hD2 hlv T hT X
theorem aj_newI {x : Int32} {f : List (Nat × Nat) → zM → Nat → Option zH} (hg : w.2.2.2.2.2 = 0) (harr : Cond.arrayClass .int ∈ zG) (hdg : decode mi.2.1 pc = .ok (.newarray .int, 2)) (kk : AJ zfC w d mi (pc + 2) ls (.ref S.length :: st) (S ++ [(100, x.toNatClampNeg)], zNw M S.length) (f (S ++ [(100, x.toNatClampNeg)]) (zNw M S.length) S.length)) : AJ zfC w d mi pc ls (.int x :: st) (S, M) (znar S M 100 x f) :=
  aj_newar (t0 := 0) (a0 := (0, .inl (fun _ => 0))) hg harr rfl (fun C h => by cases h) (fun T => rfl) (fun N cA => rfl) (fun B N k T M => by rw [zE_100]; simp [zNw]) (by decide) hdg kk
theorem aj_newL {x : Int32} {f : List (Nat × Nat) → zM → Nat → Option zH} (hg : w.2.2.2.2.2 = 0) (harr : Cond.arrayClass .long ∈ zG) (hdg : decode mi.2.1 pc = .ok (.newarray .long, 2)) (kk : AJ zfC w d mi (pc + 2) ls (.ref S.length :: st) (S ++ [(101, x.toNatClampNeg)], zNw M S.length) (f (S ++ [(101, x.toNatClampNeg)]) (zNw M S.length) S.length)) : AJ zfC w d mi pc ls (.int x :: st) (S, M) (znar S M 101 x f) :=
  aj_newar (t0 := 1) (a0 := (0, .inr (.inl (fun _ => 0)))) hg harr rfl (fun C h => by cases h) (fun T => rfl) (fun N cA => rfl) (fun B N k T M => by rw [zE_101]; simp [zNw]) (by decide) hdg kk
theorem aj_newZ {x : Int32} {f : List (Nat × Nat) → zM → Nat → Option zH} (hg : w.2.2.2.2.2 = 0) (harr : Cond.arrayClass .boolean ∈ zG) (hdg : decode mi.2.1 pc = .ok (.newarray .boolean, 2)) (kk : AJ zfC w d mi (pc + 2) ls (.ref S.length :: st) (S ++ [(102, x.toNatClampNeg)], zNw M S.length) (f (S ++ [(102, x.toNatClampNeg)]) (zNw M S.length) S.length)) : AJ zfC w d mi pc ls (.int x :: st) (S, M) (znar S M 102 x f) :=
  aj_newar (t0 := 2) (a0 := (0, .inl (fun _ => 0))) hg harr rfl (fun C h => by cases h) (fun T => rfl) (fun N cA => rfl) (fun B N k T M => by rw [zE_102]; simp [zNw]) (by decide) hdg kk
theorem aj_newq {x : Int32} {idx : Nat} {f : List (Nat × Nat) → zM → Nat → Option zH} (hg : w.2.2.2.2.2 = 0) (hover : ∀ s : State, w.2.2.2.2.1 s → va_AO "DayOpeners$State" s) (hclink : Cond.classLink mi.1.cls idx "DayOpeners$State" ∈ zG) (hdg : decode mi.2.1 pc = .ok (.anewarray idx, 3)) (kk : AJ zfC w d mi (pc + 3) ls (.ref S.length :: st) (S ++ [(103, x.toNatClampNeg)], zNw M S.length) (f (S ++ [(103, x.toNatClampNeg)]) (zNw M S.length) S.length)) : AJ zfC w d mi pc ls (.int x :: st) (S, M) (znar S M 103 x f) := by
  refine aj_ckn fun hin => ?_
  intro r hr p e R s m args below meth c H locs cells slots c0 s0 lsr hA hD hlv
  obtain ⟨hr, hlen, hsl⟩ := zgr_some hr
  simp only [not_or, Nat.not_lt] at hin
  obtain ⟨hx, hb, -, -, hown, -, hG, -, hK, hN, hZ, -, -, -, hBs⟩ := id hA
  obtain ⟨hP, hS, h1, h2, h3, h4, h5, h6, h7, -⟩ := id hD
  have h2' : cells + c0 = S.length := h2
  have h3' : slots + s0 = zsl S := h3
  have e1 : (S ++ [(103, x.toNatClampNeg)]).length = S.length + 1 := by simp
  have e2 := zsl_app S 103 x.toNatClampNeg
  have h6' : R.cells + c0 = r.1.length := h6
  have h7' : R.slots + s0 = zsl r.1 := h7
  have hbytes : x.toNatClampNeg * 4 ≤ 536870912 := Nat.le_trans (Nat.mul_le_mul hin.2 (Nat.le_refl 4)) (by decide)
  refine va_newq hx hb hown (hG _ hclink) (hover s hZ) hK hP zW_D hS (fun q h => Nat.le_trans hBs h) hin.1 rfl hbytes (by omega) (by omega) hdg (fun q cA H1 hK1 hP1 hD1 hS1 => ?_)
  intro T hT X
  have hc : cA = w.2.2.1 3 := by
    obtain ⟨-, -, -, -, -, a⟩ := (hK1.2 3 (w.2.2.1 3, .object "DayOpeners$State") rfl).2
    obtain ⟨-, -, -, -, -, b⟩ := (hK1.2 4 (cA, .object "DayOpeners$State") rfl).2
    exact Option.some.inj (b.symm.trans a)
  subst hc
  have hE : (.inl (w.2.2.1 3, x.toNatClampNeg, .inr (.inr (.inr (.inr (fun _ => none))))) : va_E) = zE w.2.2.2.1 w.2.2.1 (zNw M S.length) S.length (103, x.toNatClampNeg) := by rw [zE_103]; simp [zNw]
  obtain ⟨hq, hD2⟩ := znewD (sh := (103, x.toNatClampNeg)) hg hD hP1 hD1 hS1 hE hlen hsl hT X
  subst hq
  exact kk r hr p e R s m args below meth c H1 locs (cells + 1) (slots + x.toNatClampNeg) c0 s0 lsr hA hD2 hlv T hT X
end ZCALL
