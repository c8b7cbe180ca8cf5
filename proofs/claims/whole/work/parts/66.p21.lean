/-! pure part 21: copies and starts of calendars, the class's course as told -/
theorem c_copy {S : List (Nat × Nat)} {M : zM} {p p' : Nat} {E : zEn} {K : zKa} {le : Int32} (hS : pSs S M.2.2 p) (hS' : pSs S M.2.2 p') (hd : p + 8 < p' ∨ p' + 8 < p) (hE : eP E ≤ 12) (hK : pSv M.1 p' E K le) :
    ∃ M', gX7_copy S p p' M = some M' ∧ M'.2 = M.2 ∧ pSv M'.1 p E K le ∧ ∀ a b, ¬ (p ≤ a ∧ a ≤ p + 8) → M'.1 a b = M.1 a b := by
  obtain ⟨⟨v0, v1, v2, v3, v4, v5, v6, v7, v8, v9, v10⟩, vl, vk, vw⟩ := hK
  have F := sG hS
  have F' := sG hS'
  have c1 := fun (M' : zM) (f : zM → Option zM) => copyB hS.2.2.2.2.2.1 hS'.2.2.2.2.2.1 M' f
  have c2 := fun (M' : zM) (f : zM → Option zM) => copyB hS.2.2.2.2.2.2.1 hS'.2.2.2.2.2.2.1 M' f
  have c3 := fun (M' : zM) (f : zM → Option zM) => copyB hS.2.2.2.2.2.2.2.1 hS'.2.2.2.2.2.2.2.1 M' f
  have c4 := fun (M' : zM) (f : zM → Option zM) => copyB hS.2.2.2.2.2.2.2.2 hS'.2.2.2.2.2.2.2.2 M' f
  refine ⟨?w, ?e, ?r⟩
  case e =>
    simp (disch := first | omega | simp only [qI2, qC2]) only [gX7_copy, ↓F, ↓F', ↓c1, ↓c2, ↓c3, ↓c4, zsI_ne, v0, v1, v2, v3, v4, v5, v6, v7, v8, v9, v10]
    exact rfl
  case r =>
    refine ⟨rfl, ⟨⟨?_, ?_, ?_, ?_, ?_, ?_, ?_, ?_, ?_, ?_, ?_⟩, fun i hi => ?_, fun i hi => ⟨?_, ?_⟩, fun w hw => ?_⟩, fun a b hab => ?_⟩
    · simp (disch := omega) only [zcpM_ne, zsI_ne, zsI_at]
    · simp (disch := omega) only [zcpM_ne, zsI_ne, zsI_at]
    · simp (disch := omega) only [zcpM_ne, zsI_ne, zsI_at]
    · simp (disch := omega) only [zcpM_ne, zsI_ne, zsI_at]
    · simp (disch := omega) only [zcpM_ne, zsI_ne, zsI_at]
    · simp (disch := omega) only [zcpM_ne, zsI_ne, zsI_at]
    · simp (disch := omega) only [zcpM_ne, zsI_ne, zsI_at]
    · simp (disch := omega) only [zcpM_ne, zsI_ne, zsI_at]
    · simp (disch := omega) only [zcpM_ne, zsI_ne, zsI_at]
    · simp (disch := omega) only [zcpM_ne, zsI_ne, zsI_at]
    · simp (disch := omega) only [zcpM_ne, zsI_ne, zsI_at]
    · simp (disch := omega) only [zcpM_ne, zcpM_at, zsI_ne, vl i hi]
    · simp (disch := omega) only [zcpM_ne, zcpM_at, zsI_ne, (vk i hi).1]
    · simp (disch := omega) only [zcpM_ne, zcpM_at, zsI_ne, (vk i hi).2]
    · simp (disch := omega) only [zcpM_ne, zcpM_at, zsI_ne, vw w hw]
    · simp (disch := omega) only [zcpM_ne, zsI_ne]
def K0 (E : zEn) : zKa := ((0, 0, eD E, 0, 0, 0), none, none, fun _ => 0, fun _ => 0, eLs E, fun _ => 0)
theorem lfN_0 {f nd : Nat → Nat} : ∀ k i, (∀ j, i ≤ j → j < i + k → f j < nd j) → lfN f nd k i = k
  | 0, _, _ => rfl
  | k + 1, i, h => by
    unfold lfN
    rw [if_pos (h i (Nat.le_refl _) (by omega)), lfN_0 k (i + 1) (fun j h1 h2 => h j (by omega) (by omega))]
    omega
theorem left_K0 {E : zEn} (wE : wfE E) : left E (K0 E) = eW E := lfN_0 (eW E) 0 (fun j _ h2 => (wE.2.2.2.2.2.2.2.2.2.2.2.1 j (by omega)).1)
theorem wfK_K0 {E : zEn} (wE : wfE E) : wfK E (K0 E) 0 := ⟨wE.2.2.2.2.2.2.2.2.2.1, (by
  by_cases h : eP E = 0
  · exact Or.inl h
  · exact Or.inr (Nat.pos_of_ne_zero h)), fun _ _ => Nat.zero_le _, fun _ h => (by cases h), Nat.le_refl _, fun _ _ _ => rfl, ⟨0, by decide, rfl⟩⟩
theorem c_starts {S : List (Nat × Nat)} {M : zM} {p t : Nat} {E : zEn} (hS : pSs S M.2.2 p) (hT : pTs S M.2.2 t) (hd : p + 8 < t ∨ t + 31 < p) (wE : wfE E) (hV : pTv M.1 t E) :
    ∃ M', gX7_starts S p t M = some M' ∧ M'.2 = M.2 ∧ pSv M'.1 p E (K0 E) 0 ∧ ∀ a b, ¬ (p ≤ a ∧ a ≤ p + 8) → M'.1 a b = M.1 a b := by
  obtain ⟨⟨-, u5, -, u10, -, u16, -⟩, -, ul, -⟩ := hV
  have hP := wE.2.1
  have F := sG hS
  have F' := tG hT
  have c1 := fun (M' : zM) (f : zM → Option zM) => copyB hS.2.2.2.2.2.1 hT.2.2.2.2.2.2.2.2.2.2.2.2.2.2.2.1 M' f
  refine ⟨?w, ?e, ?r⟩
  case e =>
    simp (disch := first | omega | simp only [qI2, qC2, qF2]) only [gX7_starts, ↓F, ↓F', ↓c1, zsI_ne, u16, u10, u5]
    exact rfl
  case r =>
    refine ⟨rfl, ⟨⟨?_, ?_, ?_, ?_, ?_, ?_, ?_, ?_, ?_, ?_, ?_⟩, fun i hi => ?_, fun i hi => ⟨?_, ?_⟩, fun w hw => ?_⟩, fun a b hab => ?_⟩
    · simp (disch := omega) only [zfl_ne, zcpM_ne, zsI_ne, zsI_at]; rfl
    · simp (disch := omega) only [zfl_ne, zcpM_ne, zsI_ne, zsI_at]; rfl
    · simp (disch := omega) only [zfl_ne, zcpM_ne, zsI_ne, zsI_at]; rfl
    · simp (disch := omega) only [zfl_ne, zcpM_ne, zsI_ne, zsI_at]; rfl
    · simp (disch := omega) only [zfl_ne, zcpM_ne, zsI_ne, zsI_at]; rfl
    · simp (disch := omega) only [zfl_ne, zcpM_ne, zsI_ne, zsI_at, left_K0 wE]
    · simp (disch := omega) only [zfl_ne, zcpM_ne, zsI_ne, zsI_at]; rfl
    · simp (disch := omega) only [zfl_ne, zcpM_ne, zsI_ne, zsI_at]; rfl
    · simp (disch := omega) only [zfl_ne, zcpM_ne, zsI_ne, zsI_at]
    · simp (disch := omega) only [zfl_ne, zcpM_ne, zsI_ne, zsI_at]; rfl
    · simp (disch := omega) only [zfl_ne, zcpM_ne, zsI_ne, zsI_at]
    · simp (disch := omega) only [zfl_ne, zcpM_ne, zcpM_at, zsI_ne, ul i hi]; rfl
    · simp (disch := omega) only [zfl_ne, zfl_at]; rfl
    · simp (disch := omega) only [zfl_ne, zfl_at]; rfl
    · simp (disch := omega) only [zfl_at]; rfl
    · simp (disch := omega) only [zfl_ne, zcpM_ne, zsI_ne]
theorem pRf_u2 {R : Nat → Nat → Option Nat} {k j : Nat} {x : Option Nat} (h : pRf R) (hm : ∀ q ∈ rTab, ¬ (q.1 = k ∧ q.2.1 = j)) : pRf (u2 R k j x) := by
  intro q hq
  have h1 := hm q hq
  have h2 := h q hq
  unfold u2
  by_cases ha : q.1 = k
  · rw [if_pos ha, if_neg (fun hb => h1 ⟨ha, hb⟩), ← ha]
    exact h2
  · rw [if_neg ha]
    exact h2
def moN (E : zEn) : zMo := (eHr E, false, true, eS E, none)
theorem moN_ok {E : zEn} (wE : wfE E) : moOk E (moN E) := ⟨fun _ h => (by cases h), wE.2.2.2.2.1, fun t ht => Nat.le_trans (wE.2.2.2.2.2.2.2.1 t ht) (by decide)⟩
theorem u2_o {α : Type} {f : Nat → Nat → α} {k i a b : Nat} {x : α} (h : a ≠ k ∨ b ≠ i) : u2 f k i x a b = f a b := by
  by_cases h1 : a = k
  · subst h1
    exact u2_off (h.resolve_left (fun h => h rfl))
  · rw [u2_ne h1]
theorem c_goesOf {S : List (Nat × Nat)} {M : zM} {t : Nat} {E : zEn} (h1 : zShp S) (h2 : pRf M.2.2) (h3 : t = 43 ∨ t = 75) (h5 : M.2.2 0 3 = some t) (hV : pTv M.1 t E) (wE : wfE E) :
    ∃ M', gX0_goesOf S 134 t M = some M' ∧ cOk S M'.2.2 M'.1 t E (moN E) ∧ M'.2.2 = u2 M.2.2 134 0 (some t) ∧ ∀ a b, ¬ (a = 134 ∨ a = 168) → M'.1 a b = M.1 a b := by
  have hT6 := wE.1
  have h2' : pRf (u2 M.2.2 134 0 (some t)) := pRf_u2 h2 (by decide +kernel)
  have hT := pTs_of h1 h2' t (Or.inr h3)
  have F' := tG hT
  have D := cD h1 h2'
  obtain ⟨⟨-, -, -, -, u15, -, -⟩, uh, -⟩ := id hV
  have r0 : u2 M.2.2 134 0 (some t) 134 0 = some t := u2_at
  have c1 := fun (M' : zM) (f : zM → Option zM) => copyB (row_of h1 h2' 167 6 (by decide)) hT.2.2.2.2.2.2.2.2.2.2.2.2.2.1 M' f
  have g0 := fun (M' : zM) (f : Nat → Option zM) => zgR_of ((h1 134 (by decide)).trans rfl : S[134]? = some (0, 6)) r0 M' f
  have q : (zsR M 134 0 (some t)).2.2 = u2 M.2.2 134 0 (some t) := rfl
  have qi : (zsR M 134 0 (some t)).1 = M.1 := rfl
  have hs0 : S[134]? = some (0, 6) := (h1 134 (by decide)).trans rfl
  refine ⟨?w, ?e, ?r⟩
  case e =>
    simp (disch := first | omega | simp only [qI2, qC2, q]) only [gX0_goesOf, ↓F', ↓D, ↓g0, ↓c1, qi, zsI_ne, zcpM_ne, u15]
    exact rfl
  case r =>
    have fr : ∀ a b, ¬ (a = 134 ∨ a = 168) → (zsI (zsI (zsI (zsI (zcpM (zsR M 134 0 (some t)) (t + 4) 168 0 0 6) 134 2 0) 134 3 1) 134 4 (nI (eS E))) 134 5 (-1)).1 a b = M.1 a b := fun a b hab => by
      simp (disch := omega) only [zcpM_ne, zsI_ne, qi]
    refine ⟨⟨⟨h1, h2', h3, r0, (show u2 M.2.2 134 0 (some t) 0 3 = some t from (u2_o (by decide)).trans h5)⟩, pTv_cg (fun a b k1 k2 => fr a b (by omega)) hV, ⟨fun i hi => ?_, ?_, ?_, ?_, ?_⟩, wE, moN_ok wE⟩, rfl, fr⟩
    · simp (disch := omega) only [zsI_ne, zcpM_at, qi, (uh i hi).2.1]; rfl
    · simp (disch := omega) only [zsI_ne, zsI_at]; rfl
    · simp (disch := omega) only [zsI_ne, zsI_at]; rfl
    · simp (disch := omega) only [zsI_ne, zsI_at]; rfl
    · simp (disch := omega) only [zsI_ne, zsI_at]; rfl
