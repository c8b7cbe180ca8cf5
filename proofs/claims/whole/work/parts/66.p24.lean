/-! pure part 24: arguments, literal places, small questions -/
theorem mL {S : List (Nat × Nat)} {R : Nat → Nat → Option Nat} (h : pMs S R) : (∀ (ρ : Type) (M : zM) (f : Int32 → Option ρ), zaI S M 100 308 (0 : Int32) f = f (M.1 308 0)) ∧ (∀ (ρ : Type) (M : zM) (x : Int32) (f : zM → Option ρ), zbI S M 308 (0 : Int32) x f = f (zsI M 308 0 x)) ∧ (∀ (ρ : Type) (M : zM) (f : Int32 → Option ρ), zaI S M 100 308 (1 : Int32) f = f (M.1 308 1)) ∧ (∀ (ρ : Type) (M : zM) (x : Int32) (f : zM → Option ρ), zbI S M 308 (1 : Int32) x f = f (zsI M 308 1 x)) ∧ (∀ (ρ : Type) (M : zM) (f : Int32 → Option ρ), zaI S M 100 308 (2 : Int32) f = f (M.1 308 2)) ∧ (∀ (ρ : Type) (M : zM) (x : Int32) (f : zM → Option ρ), zbI S M 308 (2 : Int32) x f = f (zsI M 308 2 x)) ∧ (∀ (ρ : Type) (M : zM) (f : Int32 → Option ρ), zaI S M 100 308 (3 : Int32) f = f (M.1 308 3)) ∧ (∀ (ρ : Type) (M : zM) (x : Int32) (f : zM → Option ρ), zbI S M 308 (3 : Int32) x f = f (zsI M 308 3 x)) ∧ (∀ (ρ : Type) (M : zM) (f : Int32 → Option ρ), zaI S M 100 308 (4 : Int32) f = f (M.1 308 4)) ∧ (∀ (ρ : Type) (M : zM) (x : Int32) (f : zM → Option ρ), zbI S M 308 (4 : Int32) x f = f (zsI M 308 4 x)) ∧ (∀ (ρ : Type) (M : zM) (f : Int32 → Option ρ), zaI S M 100 308 (5 : Int32) f = f (M.1 308 5)) ∧ (∀ (ρ : Type) (M : zM) (x : Int32) (f : zM → Option ρ), zbI S M 308 (5 : Int32) x f = f (zsI M 308 5 x)) ∧ (∀ (ρ : Type) (M : zM) (f : Int32 → Option ρ), zaI S M 100 308 (6 : Int32) f = f (M.1 308 6)) ∧ (∀ (ρ : Type) (M : zM) (x : Int32) (f : zM → Option ρ), zbI S M 308 (6 : Int32) x f = f (zsI M 308 6 x)) ∧ (∀ (ρ : Type) (M : zM) (f : Int32 → Option ρ), zaI S M 100 324 (0 : Int32) f = f (M.1 324 0)) ∧ (∀ (ρ : Type) (M : zM) (x : Int32) (f : zM → Option ρ), zbI S M 324 (0 : Int32) x f = f (zsI M 324 0 x)) ∧ (∀ (ρ : Type) (M : zM) (f : Int32 → Option ρ), zaI S M 100 324 (1 : Int32) f = f (M.1 324 1)) ∧ (∀ (ρ : Type) (M : zM) (x : Int32) (f : zM → Option ρ), zbI S M 324 (1 : Int32) x f = f (zsI M 324 1 x)) ∧ (∀ (ρ : Type) (M : zM) (f : Int32 → Option ρ), zaI S M 100 325 (0 : Int32) f = f (M.1 325 0)) ∧ (∀ (ρ : Type) (M : zM) (x : Int32) (f : zM → Option ρ), zbI S M 325 (0 : Int32) x f = f (zsI M 325 0 x)) ∧ (∀ (ρ : Type) (M : zM) (f : Int32 → Option ρ), zaI S M 100 325 (1 : Int32) f = f (M.1 325 1)) ∧ (∀ (ρ : Type) (M : zM) (x : Int32) (f : zM → Option ρ), zbI S M 325 (1 : Int32) x f = f (zsI M 325 1 x)) ∧ (∀ (ρ : Type) (M : zM) (f : Int32 → Option ρ), zaI S M 100 326 (0 : Int32) f = f (M.1 326 0)) ∧ (∀ (ρ : Type) (M : zM) (x : Int32) (f : zM → Option ρ), zbI S M 326 (0 : Int32) x f = f (zsI M 326 0 x)) ∧ (∀ (ρ : Type) (M : zM) (f : Int32 → Option ρ), zaI S M 100 326 (1 : Int32) f = f (M.1 326 1)) ∧ (∀ (ρ : Type) (M : zM) (x : Int32) (f : zM → Option ρ), zbI S M 326 (1 : Int32) x f = f (zsI M 326 1 x)) ∧ (∀ (ρ : Type) (M : zM) (f : Int32 → Option ρ), zaI S M 100 327 (0 : Int32) f = f (M.1 327 0)) ∧ (∀ (ρ : Type) (M : zM) (x : Int32) (f : zM → Option ρ), zbI S M 327 (0 : Int32) x f = f (zsI M 327 0 x)) ∧ (∀ (ρ : Type) (M : zM) (f : Int32 → Option ρ), zaI S M 100 327 (1 : Int32) f = f (M.1 327 1)) ∧ (∀ (ρ : Type) (M : zM) (x : Int32) (f : zM → Option ρ), zbI S M 327 (1 : Int32) x f = f (zsI M 327 1 x)) ∧ (∀ (ρ : Type) (M : zM) (f : Int32 → Option ρ), zaI S M 100 328 (0 : Int32) f = f (M.1 328 0)) ∧ (∀ (ρ : Type) (M : zM) (x : Int32) (f : zM → Option ρ), zbI S M 328 (0 : Int32) x f = f (zsI M 328 0 x)) ∧ (∀ (ρ : Type) (M : zM) (f : Int32 → Option ρ), zaI S M 100 328 (1 : Int32) f = f (M.1 328 1)) ∧ (∀ (ρ : Type) (M : zM) (x : Int32) (f : zM → Option ρ), zbI S M 328 (1 : Int32) x f = f (zsI M 328 1 x)) ∧ (∀ (ρ : Type) (M : zM) (f : Int32 → Option ρ), zaI S M 100 329 (0 : Int32) f = f (M.1 329 0)) ∧ (∀ (ρ : Type) (M : zM) (x : Int32) (f : zM → Option ρ), zbI S M 329 (0 : Int32) x f = f (zsI M 329 0 x)) ∧ (∀ (ρ : Type) (M : zM) (f : Int32 → Option ρ), zaI S M 100 329 (1 : Int32) f = f (M.1 329 1)) ∧ (∀ (ρ : Type) (M : zM) (x : Int32) (f : zM → Option ρ), zbI S M 329 (1 : Int32) x f = f (zsI M 329 1 x)) ∧ (∀ (ρ : Type) (M : zM) (f : Int32 → Option ρ), zaI S M 100 330 (0 : Int32) f = f (M.1 330 0)) ∧ (∀ (ρ : Type) (M : zM) (x : Int32) (f : zM → Option ρ), zbI S M 330 (0 : Int32) x f = f (zsI M 330 0 x)) ∧ (∀ (ρ : Type) (M : zM) (f : Int32 → Option ρ), zaI S M 100 330 (1 : Int32) f = f (M.1 330 1)) ∧ (∀ (ρ : Type) (M : zM) (x : Int32) (f : zM → Option ρ), zbI S M 330 (1 : Int32) x f = f (zsI M 330 1 x)) ∧ (∀ (ρ : Type) (M : zM) (f : Int32 → Option ρ), zaI S M 100 331 (0 : Int32) f = f (M.1 331 0)) ∧ (∀ (ρ : Type) (M : zM) (x : Int32) (f : zM → Option ρ), zbI S M 331 (0 : Int32) x f = f (zsI M 331 0 x)) ∧ (∀ (ρ : Type) (M : zM) (f : Int32 → Option ρ), zaI S M 100 331 (1 : Int32) f = f (M.1 331 1)) ∧ (∀ (ρ : Type) (M : zM) (x : Int32) (f : zM → Option ρ), zbI S M 331 (1 : Int32) x f = f (zsI M 331 1 x)) :=
  ⟨fun _ _ _ => zaI_ok (i := 0) (pMg h 3 308 100 14 (by decide)).2 (by decide) (by decide), fun _ _ _ _ => zbI_ok (i := 0) (pMg h 3 308 100 14 (by decide)).2 (by decide) (by decide), fun _ _ _ => zaI_ok (i := 1) (pMg h 3 308 100 14 (by decide)).2 (by decide) (by decide), fun _ _ _ _ => zbI_ok (i := 1) (pMg h 3 308 100 14 (by decide)).2 (by decide) (by decide), fun _ _ _ => zaI_ok (i := 2) (pMg h 3 308 100 14 (by decide)).2 (by decide) (by decide), fun _ _ _ _ => zbI_ok (i := 2) (pMg h 3 308 100 14 (by decide)).2 (by decide) (by decide), fun _ _ _ => zaI_ok (i := 3) (pMg h 3 308 100 14 (by decide)).2 (by decide) (by decide), fun _ _ _ _ => zbI_ok (i := 3) (pMg h 3 308 100 14 (by decide)).2 (by decide) (by decide), fun _ _ _ => zaI_ok (i := 4) (pMg h 3 308 100 14 (by decide)).2 (by decide) (by decide), fun _ _ _ _ => zbI_ok (i := 4) (pMg h 3 308 100 14 (by decide)).2 (by decide) (by decide), fun _ _ _ => zaI_ok (i := 5) (pMg h 3 308 100 14 (by decide)).2 (by decide) (by decide), fun _ _ _ _ => zbI_ok (i := 5) (pMg h 3 308 100 14 (by decide)).2 (by decide) (by decide), fun _ _ _ => zaI_ok (i := 6) (pMg h 3 308 100 14 (by decide)).2 (by decide) (by decide), fun _ _ _ _ => zbI_ok (i := 6) (pMg h 3 308 100 14 (by decide)).2 (by decide) (by decide), fun _ _ _ => zaI_ok (i := 0) (pMg h 33 324 100 30 (by decide)).2 (by decide) (by decide), fun _ _ _ _ => zbI_ok (i := 0) (pMg h 33 324 100 30 (by decide)).2 (by decide) (by decide), fun _ _ _ => zaI_ok (i := 1) (pMg h 33 324 100 30 (by decide)).2 (by decide) (by decide), fun _ _ _ _ => zbI_ok (i := 1) (pMg h 33 324 100 30 (by decide)).2 (by decide) (by decide), fun _ _ _ => zaI_ok (i := 0) (pMg h 34 325 100 30 (by decide)).2 (by decide) (by decide), fun _ _ _ _ => zbI_ok (i := 0) (pMg h 34 325 100 30 (by decide)).2 (by decide) (by decide), fun _ _ _ => zaI_ok (i := 1) (pMg h 34 325 100 30 (by decide)).2 (by decide) (by decide), fun _ _ _ _ => zbI_ok (i := 1) (pMg h 34 325 100 30 (by decide)).2 (by decide) (by decide), fun _ _ _ => zaI_ok (i := 0) (pMg h 35 326 100 30 (by decide)).2 (by decide) (by decide), fun _ _ _ _ => zbI_ok (i := 0) (pMg h 35 326 100 30 (by decide)).2 (by decide) (by decide), fun _ _ _ => zaI_ok (i := 1) (pMg h 35 326 100 30 (by decide)).2 (by decide) (by decide), fun _ _ _ _ => zbI_ok (i := 1) (pMg h 35 326 100 30 (by decide)).2 (by decide) (by decide), fun _ _ _ => zaI_ok (i := 0) (pMg h 36 327 100 30 (by decide)).2 (by decide) (by decide), fun _ _ _ _ => zbI_ok (i := 0) (pMg h 36 327 100 30 (by decide)).2 (by decide) (by decide), fun _ _ _ => zaI_ok (i := 1) (pMg h 36 327 100 30 (by decide)).2 (by decide) (by decide), fun _ _ _ _ => zbI_ok (i := 1) (pMg h 36 327 100 30 (by decide)).2 (by decide) (by decide), fun _ _ _ => zaI_ok (i := 0) (pMg h 37 328 100 30 (by decide)).2 (by decide) (by decide), fun _ _ _ _ => zbI_ok (i := 0) (pMg h 37 328 100 30 (by decide)).2 (by decide) (by decide), fun _ _ _ => zaI_ok (i := 1) (pMg h 37 328 100 30 (by decide)).2 (by decide) (by decide), fun _ _ _ _ => zbI_ok (i := 1) (pMg h 37 328 100 30 (by decide)).2 (by decide) (by decide), fun _ _ _ => zaI_ok (i := 0) (pMg h 38 329 100 30 (by decide)).2 (by decide) (by decide), fun _ _ _ _ => zbI_ok (i := 0) (pMg h 38 329 100 30 (by decide)).2 (by decide) (by decide), fun _ _ _ => zaI_ok (i := 1) (pMg h 38 329 100 30 (by decide)).2 (by decide) (by decide), fun _ _ _ _ => zbI_ok (i := 1) (pMg h 38 329 100 30 (by decide)).2 (by decide) (by decide), fun _ _ _ => zaI_ok (i := 0) (pMg h 39 330 100 30 (by decide)).2 (by decide) (by decide), fun _ _ _ _ => zbI_ok (i := 0) (pMg h 39 330 100 30 (by decide)).2 (by decide) (by decide), fun _ _ _ => zaI_ok (i := 1) (pMg h 39 330 100 30 (by decide)).2 (by decide) (by decide), fun _ _ _ _ => zbI_ok (i := 1) (pMg h 39 330 100 30 (by decide)).2 (by decide) (by decide), fun _ _ _ => zaI_ok (i := 0) (pMg h 40 331 100 30 (by decide)).2 (by decide) (by decide), fun _ _ _ _ => zbI_ok (i := 0) (pMg h 40 331 100 30 (by decide)).2 (by decide) (by decide), fun _ _ _ => zaI_ok (i := 1) (pMg h 40 331 100 30 (by decide)).2 (by decide) (by decide), fun _ _ _ _ => zbI_ok (i := 1) (pMg h 40 331 100 30 (by decide)).2 (by decide) (by decide)⟩
def inR (T : Nat) (x : Int32) : Bool := if x < 0 then false else if nI T ≤ x then false else true
def inD (x : Int32) : Bool := if x < 0 then false else if (200 : Int32) < x then false else true
theorem inR_ex {T : Nat} {x : Int32} (hT : T < 2 ^ 31) (h : inR T x = true) : ∃ j, j < T ∧ x = nI j := by
  unfold inR at h
  by_cases h1 : x < 0
  · rw [if_pos h1] at h; cases h
  rw [if_neg h1] at h
  by_cases h2 : nI T ≤ x
  · rw [if_pos h2] at h; cases h
  rcases pk_ix x hT with h3 | h3 | h3
  · exact absurd h3 h1
  · exact absurd h3 h2
  · exact h3
theorem inR_of {T j : Nat} (hT : T < 2 ^ 31) (h : j < T) : inR T (nI j) = true := by
  unfold inR
  rw [if_neg (nI_pos (by omega)), if_neg (nI_ge h hT)]
theorem inD_ex {x : Int32} (h : inD x = true) : ∃ j, j ≤ 200 ∧ x = nI j := by
  unfold inD at h
  by_cases h1 : x < 0
  · rw [if_pos h1] at h; cases h
  rw [if_neg h1] at h
  by_cases h2 : (200 : Int32) < x
  · rw [if_pos h2] at h; cases h
  exact nI_of2 (M := 200) (by decide) h1 (Int32.not_lt.mp h2)
theorem e_hasTrade {S : List (Nat × Nat)} {M : zM} {t T : Nat} {x : Int32} (h : S[t]? = some (10, 18)) (hT : M.1 t 1 = nI T) : gX10_hasTrade S t x M = some (bI (inR T x)) := by
  unfold gX10_hasTrade inR
  rw [zgI_ok h, hT]
  split
  · rfl
  · split <;> rfl
theorem e_hasWork {S : List (Nat × Nat)} {M : zM} {t T : Nat} {x : Int32} (h : S[t]? = some (10, 18)) (hT : M.1 t 10 = nI T) : gX10_hasWork S t x M = some (bI (inR T x)) := by
  unfold gX10_hasWork inR
  rw [zgI_ok h, hT]
  split
  · rfl
  · split <;> rfl
theorem e_hasPlace {S : List (Nat × Nat)} {M : zM} {p P : Nat} {x : Int32} (h : S[p]? = some (7, 15)) (hT : M.1 p 10 = nI P) : gX7_hasPlace S p x M = some (bI (inR P x)) := by
  unfold gX7_hasPlace inR
  rw [zgI_ok h, hT]
  split
  · rfl
  · split <;> rfl
theorem e_isTrade {S : List (Nat × Nat)} {M : zM} {T : Nat} {x : Int32} (hS : pMs S M.2.2) (hT : M.1 308 0 = nI T) : gX12_isTrade S 306 x M = some (bI (inR T x)) := by
  simp (disch := first | omega | simp only [qI2, qL2, qC2, qF2]) only [gX12_isTrade, ↓mH hS, ↓mL hS, hT]
  unfold inR
  split
  · rfl
  · split <;> rfl
theorem e_isPlace {S : List (Nat × Nat)} {M : zM} {T : Nat} {x : Int32} (hS : pMs S M.2.2) (hT : M.1 308 1 = nI T) : gX12_isPlace S 306 x M = some (bI (inR T x)) := by
  simp (disch := first | omega | simp only [qI2, qL2, qC2, qF2]) only [gX12_isPlace, ↓mH hS, ↓mL hS, hT]
  unfold inR
  split
  · rfl
  · split <;> rfl
theorem e_isWork {S : List (Nat × Nat)} {M : zM} {T : Nat} {x : Int32} (hS : pMs S M.2.2) (hT : M.1 308 3 = nI T) : gX12_isWork S 306 x M = some (bI (inR T x)) := by
  simp (disch := first | omega | simp only [qI2, qL2, qC2, qF2]) only [gX12_isWork, ↓mH hS, ↓mL hS, hT]
  unfold inR
  split
  · rfl
  · split <;> rfl
theorem e_isDays {S : List (Nat × Nat)} {M : zM} {x : Int32} : gX11_isDays S x M = some (bI (inD x)) := by
  unfold gX11_isDays inD
  split
  · rfl
  · split <;> rfl
theorem e_isAhead {S : List (Nat × Nat)} {M : zM} {x : Int32} : gX12_isAhead S x M = some (bI (inD x)) := by
  unfold gX12_isAhead inD
  split
  · rfl
  · split <;> rfl
def cnt (f : Nat → Int32) (x : Int32) : Nat → Nat → Nat
  | 0, _ => 0
  | k + 1, i => (if f i = x then 1 else 0) + cnt f x k (i + 1)
theorem cnt_cg {f g : Nat → Int32} {x : Int32} : ∀ {k i : Nat}, (∀ j, i ≤ j → j < i + k → f j = g j) → cnt f x k i = cnt g x k i
  | 0, _, _ => rfl
  | k + 1, i, h => by
    unfold cnt
    rw [h i (Nat.le_refl _) (by omega), cnt_cg (k := k) (i := i + 1) (fun j h1 h2 => h j (by omega) (by omega))]
theorem cnt_le (f : Nat → Int32) (x : Int32) : ∀ k i, cnt f x k i ≤ k
  | 0, _ => Nat.le_refl 0
  | k + 1, i => by
    have := cnt_le f x k (i + 1)
    show (if f i = x then 1 else 0) + cnt f x k (i + 1) ≤ k + 1
    split <;> omega
theorem c_places4 {S : List (Nat × Nat)} {M : zM} {p P : Nat} {x : Int32} (hS : pSs S M.2.2 p) (hP : M.1 p 10 = nI P) (h12 : P ≤ 12) : ∀ k fu i c, i + k = P → k < fu → gX7_placesOf_4 S fu p x (nI c) (nI i) M = some (nI (c + cnt (M.1 (p + 2)) x k i)) := by
  intro k
  induction k with
  | zero =>
    intro fu i c hk hf
    obtain ⟨fu, rfl⟩ : ∃ f, fu = f + 1 := ⟨fu - 1, by omega⟩
    have hb : P ≤ i := by omega
    simp (disch := first | omega | simp only [qI2, qL2, qC2, qF2]) only [gX7_placesOf_4, ↓sG hS, hP, nI_leI, if_pos hb]
    rfl
  | succ k ih =>
    intro fu i c hk hf
    obtain ⟨fu, rfl⟩ : ∃ f, fu = f + 1 := ⟨fu - 1, by omega⟩
    have hb : ¬ P ≤ i := by omega
    simp (disch := first | omega | simp only [qI2, qL2, qC2, qF2]) only [gX7_placesOf_4, ↓sG hS, hP, nI_leI, if_neg hb, nI_1]
    rw [ih fu (i + 1) (c + 1) (by omega) (by omega), ih fu (i + 1) c (by omega) (by omega)]
    show _ = some (nI (c + ((if M.1 (p + 2) i = x then 1 else 0) + cnt (M.1 (p + 2)) x k (i + 1))))
    split
    · rw [Nat.add_assoc]
    · rw [Nat.zero_add]
theorem c_placesOf {S : List (Nat × Nat)} {M : zM} {p P : Nat} {x : Int32} (hS : pSs S M.2.2 p) (hP : M.1 p 10 = nI P) (h12 : P ≤ 12) : gX7_placesOf S p x M = some (nI (cnt (M.1 (p + 2)) x P 0)) := by
  have h := c_places4 (x := x) hS hP h12 P zfu 0 0 (by omega) (by unfold zfu; omega)
  rw [Nat.zero_add] at h
  exact h
theorem m_places4 {S : List (Nat × Nat)} {M : zM} {P : Nat} {x : Int32} (hS : pMs S M.2.2) (hP : M.1 308 1 = nI P) (h12 : P ≤ 12) : ∀ k fu i c, i + k = P → k < fu → gX12_placesOf_4 S fu 306 x (nI c) (nI i) M = some (nI (c + cnt (M.1 334) x k i)) := by
  intro k
  induction k with
  | zero =>
    intro fu i c hk hf
    obtain ⟨fu, rfl⟩ : ∃ f, fu = f + 1 := ⟨fu - 1, by omega⟩
    have hb : P ≤ i := by omega
    simp (disch := first | omega | simp only [qI2, qL2, qC2, qF2]) only [gX12_placesOf_4, ↓mH hS, ↓mL hS, hP, nI_leI, if_pos hb]
    rfl
  | succ k ih =>
    intro fu i c hk hf
    obtain ⟨fu, rfl⟩ : ∃ f, fu = f + 1 := ⟨fu - 1, by omega⟩
    have hb : ¬ P ≤ i := by omega
    have h0 : nI c + 0 = nI c := Int32.add_zero _
    simp (disch := first | omega | simp only [qI2, qL2, qC2, qF2]) only [gX12_placesOf_4, ↓mH hS, ↓mL hS, ↓mG hS, hP, nI_leI, if_neg hb, nI_1, h0]
    rw [ih fu (i + 1) (c + 1) (by omega) (by omega), ih fu (i + 1) c (by omega) (by omega)]
    show _ = some (nI (c + ((if M.1 334 i = x then 1 else 0) + cnt (M.1 334) x k (i + 1))))
    split
    · rw [Nat.add_assoc]
    · rw [Nat.zero_add]
theorem m_placesOf {S : List (Nat × Nat)} {M : zM} {P : Nat} {x : Int32} (hS : pMs S M.2.2) (hP : M.1 308 1 = nI P) (h12 : P ≤ 12) : gX12_placesOf S 306 x M = some (nI (cnt (M.1 334) x P 0)) := by
  have h := m_places4 (x := x) hS hP h12 P zfu 0 0 (by omega) (by unfold zfu; omega)
  rw [Nat.zero_add] at h
  exact h
def plc (E : zEn) (K : zKa) (x : Int32) : Nat := cnt (fun i => nI (kLs K i)) x (eP E) 0
theorem c_plc {S : List (Nat × Nat)} {M : zM} {p : Nat} {E : zEn} {K : zKa} {le : Int32} (hS : pSs S M.2.2 p) (hK : pSv M.1 p E K le) (h12 : eP E ≤ 12) (x : Int32) : gX7_placesOf S p x M = some (nI (plc E K x)) := by
  rw [c_placesOf hS hK.1.2.2.2.2.2.2.2.2.2.2 h12]
  congr 2
  exact cnt_cg (fun j _ h => hK.2.1 j (by omega))
theorem m_plc {S : List (Nat × Nat)} {M : zM} {E : zEn} {K : zKa} (hS : pMs S M.2.2) (hE : pME M.1 E) (hK : pMk M.1 0 E K) (h12 : eP E ≤ 12) (x : Int32) : gX12_placesOf S 306 x M = some (nI (plc E K x)) := by
  rw [m_placesOf hS hE.1.2.1 h12]
  congr 2
  refine cnt_cg (fun j _ h => ?_)
  have := hK.2.2.1 j (by omega)
  rw [show 12 * 0 + j = j by omega] at this
  exact this
theorem e_found3 {S : List (Nat × Nat)} {M : zM} {q N n a : Nat} {v : Int32} (hq : S[q]? = some (100, N)) (hN : N < 2 ^ 31) (hn : a + n ≤ N) : ∀ (k fu i : Nat), i + k = n → k < fu → gX12_found_3 S fu q (nI a) (nI n) v (nI i) M = some (oI (fnd (fun j => M.1 q (a + j)) v k i)) := by
  intro k
  induction k with
  | zero =>
    intro fu i hk hf
    obtain ⟨fu, rfl⟩ : ∃ f, fu = f + 1 := ⟨fu - 1, by omega⟩
    simp only [gX12_found_3]
    rw [if_pos (nI_le (by omega) (by omega))]
    rfl
  | succ k ih =>
    intro fu i hk hf
    obtain ⟨fu, rfl⟩ : ∃ f, fu = f + 1 := ⟨fu - 1, by omega⟩
    simp only [gX12_found_3, fnd]
    rw [if_neg (nI_ge (by omega) (by omega)), nI_add, zaI_ok hq (by omega) hN]
    by_cases h1 : M.1 q (a + i) = v
    · rw [if_pos h1, if_pos h1]
      rfl
    · rw [if_neg h1, if_neg h1, nI_1, ih fu (i + 1) (by omega) (by omega)]
theorem e_found {S : List (Nat × Nat)} {M : zM} {q N n a : Nat} {v : Int32} (hq : S[q]? = some (100, N)) (hN : N < 1000) (hn : a + n ≤ N) : gX12_found S q (nI a) (nI n) v M = some (oI (fnd (fun j => M.1 q (a + j)) v n 0)) := e_found3 hq (by omega) hn n zfu 0 (by omega) (by unfold zfu; omega)
