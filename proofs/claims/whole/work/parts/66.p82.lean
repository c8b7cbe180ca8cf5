/-! pure part 82: text: the model's loop of lines, the halves -/
theorem m_t140 {S : List (Nat × Nat)} {T : Nat → Nat} {n : Nat} (hn : n ≤ 700) : ∀ (k fu : Nat) (M : zM) (tk : zTk) (E : zEn) (sl sd : Bool) (ln : Nat) (r : (Nat × Nat) ⊕ (zEn × Nat)), mPp S M T n tk E sl sd ln → tkOk n 0 tk → wfE E → k < fu → readS T n k tk E sl sd ln = some r →
    ∃ M' : zM, gX12_text_140 S fu 306 M = gX12_text_162 S 306 M' ∧ M'.2.2 = M.2.2 ∧ (∀ x y, ¬ mPq x y → M'.1 x y = M.1 x y) ∧ (∀ f p, r = .inl (f, p) → (1 ≤ f ∧ f ≤ 4) ∧ M'.1 306 24 = nI f ∧ M'.1 306 25 = nI p) ∧ (∀ E' ln', r = .inr (E', ln') → wfE E' ∧ mDr M'.1 E' ∧ M'.1 306 24 = 0 ∧ M'.1 306 25 = -1 ∧ M'.1 306 18 = nI ln') := by
  intro k
  induction k with
  | zero => intro fu M tk E sl sd ln r _ _ _ _ h; cases h
  | succ k ih =>
    intro fu M tk E sl sd ln r h ho wE hf hr
    obtain ⟨fu, rfl⟩ : ∃ f, fu = f + 1 := ⟨fu - 1, by omega⟩
    obtain ⟨hS, h24, h21, tsv⟩ := mPp_t h
    have hr' : (if tk.1 = 0 then some (.inr (E, ln)) else match lineS T n tk E sl sd with | .inl e => some (.inl e) | .inr q => readS T n k q.1 q.2.1 q.2.2.1 q.2.2.2 (ln + 1)) = some r := hr
    have s4 := (m_sort1 tsv ho).2.2
    by_cases c0 : tk.1 = 0
    · rw [if_pos c0] at hr'
      cases hr'
      refine ⟨M, ?_, rfl, fun _ _ _ => rfl, fun f p e => (by cases e), fun E' ln' e => ?_⟩
      · simp (disch := first | omega | simp only [qI2, qL2, qC2, qF2]) only [gX12_text_140, ↓mH hS, h24, if_true, if_pos (s4.2 c0)]
      · cases e
        exact ⟨wE, h.2.2.1, h24, h.2.1.2.1, h.2.1.2.2.2.2⟩
    · rw [if_neg c0] at hr'
      have n4 : ¬ M.1 306 22 = 4 := fun e => c0 (s4.1 e)
      obtain ⟨M1, a1, b1, b2, b3, b4⟩ := m_line h hn ho wE
      have step : gX12_text_140 S (fu + 1) 306 M = gX12_text_140 S fu 306 M1 := by
        simp (disch := first | omega | simp only [qI2, qL2, qC2, qF2]) only [gX12_text_140, ↓mH hS, h24, if_true, if_neg n4, ↓bind_of a1]
      cases e : lineS T n tk E sl sd with
      | inl q =>
        obtain ⟨f, p⟩ := q
        rw [e] at hr'
        cases hr'
        obtain ⟨g1, g2, g3⟩ := b3 f p e
        have hS1 : pMs S M1.2.2 := b1.symm ▸ hS
        obtain ⟨fu, rfl⟩ : ∃ f, fu = f + 1 := ⟨fu - 1, by omega⟩
        have nd : ¬ M1.1 306 24 = 0 := by
          rw [g2]
          rcases (show f = 1 ∨ f = 2 ∨ f = 3 ∨ f = 4 by omega) with rfl | rfl | rfl | rfl <;> decide
        refine ⟨M1, step.trans ?_, b1, b2, fun f' p' e' => ?_, fun _ _ e' => (by cases e')⟩
        · simp (disch := first | omega | simp only [qI2, qL2, qC2, qF2]) only [gX12_text_140, ↓mH hS1, if_neg nd]
        · cases e'
          exact ⟨g1, g2, g3⟩
      | inr q =>
        obtain ⟨tk1, E1, sl1, sd1⟩ := q
        rw [e] at hr'
        have ok := ok_line (sl := sl) (sd := sd) hn ho wE tk1 E1 sl1 sd1 e
        have b5 := b4 tk1 E1 sl1 sd1 e
        obtain ⟨M', d1, d2, d3, d4, d5⟩ := ih fu M1 tk1 E1 sl1 sd1 (ln + 1) r b5 (tkOk_w ok.1 (Nat.zero_le _)) ok.2 (by omega) hr'
        exact ⟨M', step.trans d1, d2.trans b1, fun x y q => (d3 x y q).trans (b2 x y q), d4, d5⟩
/-- the lower half of an array becomes its upper half -/
def hfR (M : zM) (q N i : Nat) : zM := (fun x y => if x = q ∧ i ≤ y ∧ y < N then M.1 q (N + y) else M.1 x y, M.2)
theorem m_half7 {S : List (Nat × Nat)} {q N : Nat} (hq : S[q]? = some (100, N + N)) (hN : N ≤ 1000) : ∀ (k fu i : Nat) (M : zM), i + k = N → k < fu → gX12_half_7 S fu q (nI N) (nI i) M = some (hfR M q N i) := by
  intro k
  induction k with
  | zero =>
    intro fu i M h1 h2
    obtain ⟨fu, rfl⟩ : ∃ f, fu = f + 1 := ⟨fu - 1, by omega⟩
    have e : hfR M q N i = M := by
      unfold hfR
      refine Prod.ext ?_ rfl
      funext x y
      exact if_neg (by omega)
    rw [e]
    simp (disch := first | omega | simp only [qI2, qL2, qC2, qF2]) only [gX12_half_7, nI_leI, if_pos (show N ≤ i by omega)]
  | succ k ih =>
    intro fu i M h1 h2
    obtain ⟨fu, rfl⟩ : ∃ f, fu = f + 1 := ⟨fu - 1, by omega⟩
    have g : ∀ (ρ : Type) (f : Int32 → Option ρ), zaI S M 100 q (nI N + nI i) f = f (M.1 q (N + i)) := fun ρ f => by
      rw [nI_add]
      exact zaI_ok hq (by omega) (by omega)
    have p : ∀ (ρ : Type) (v : Int32) (f : zM → Option ρ), zbI S M q (nI i) v f = f (zsI M q i v) := fun ρ v f => zbI_ok hq (by omega) (by omega)
    have r := ih fu (i + 1) (zsI M q i (M.1 q (N + i))) (by omega) (by omega)
    have e : hfR (zsI M q i (M.1 q (N + i))) q N (i + 1) = hfR M q N i := by
      unfold hfR
      refine Prod.ext ?_ rfl
      funext x y
      dsimp only
      by_cases c : x = q ∧ i ≤ y ∧ y < N
      · rw [if_pos c]
        by_cases c1 : y = i
        · rw [if_neg (by omega), c.1, c1, zsI_at]
        · rw [if_pos (by omega), zsI_ne (by omega)]
      · rw [if_neg c, if_neg (by omega)]
        exact zsI_ne (by omega)
    simp (disch := first | omega | simp only [qI2, qL2, qC2, qF2]) only [gX12_half_7, nI_leI, if_neg (show ¬ N ≤ i by omega), ↓g, ↓p, nI_1]
    rw [r, e]
theorem m_half {S : List (Nat × Nat)} {M : zM} {q N : Nat} (hq : S[q]? = some (100, N + N)) (hN : N ≤ 1000) (hd : nI (N + N) / (2 : Int32) = nI N) : gX12_half S q M = some (hfR M q N 0) := by
  unfold gX12_half
  rw [zal_ok hq, hd]
  exact m_half7 hq hN N zfu 0 M (by omega) (by unfold zfu; omega)
theorem hf_ne {M : zM} {q N x y : Nat} (h : ¬ (x = q ∧ y < N)) : (hfR M q N 0).1 x y = M.1 x y := if_neg (by omega)
theorem hf_lo {M : zM} {q N y : Nat} (h : y < N) : (hfR M q N 0).1 q y = M.1 q (N + y) := if_pos ⟨rfl, Nat.zero_le _, h⟩

def hfA (M : zM) : zM := (hfR (hfR (hfR (hfR (hfR (hfR (hfR (hfR (hfR (hfR (hfR (hfR (hfR (hfR M 308 7 0) 309 6 0) 310 6 0) 311 6 0) 312 12 0) 313 100 0) 314 5 0) 315 5 0) 316 5 0) 317 5 0) 318 3 0) 319 3 0) 320 64 0) 321 64 0)
theorem hfA_o {M : zM} {x y : Nat} (h : x < 308 ∨ 321 < x) : (hfA M).1 x y = M.1 x y := by
  unfold hfA
  rw [hf_ne (by omega), hf_ne (by omega), hf_ne (by omega), hf_ne (by omega), hf_ne (by omega), hf_ne (by omega), hf_ne (by omega), hf_ne (by omega), hf_ne (by omega), hf_ne (by omega), hf_ne (by omega), hf_ne (by omega), hf_ne (by omega), hf_ne (by omega)]
theorem hfA_308 {M : zM} {y : Nat} (h : y < 7) : (hfA M).1 308 y = M.1 308 (7 + y) := by
  unfold hfA
  rw [hf_ne (by omega), hf_ne (by omega), hf_ne (by omega), hf_ne (by omega), hf_ne (by omega), hf_ne (by omega), hf_ne (by omega), hf_ne (by omega), hf_ne (by omega), hf_ne (by omega), hf_ne (by omega), hf_ne (by omega), hf_ne (by omega), hf_lo h]
theorem hfA_309 {M : zM} {y : Nat} (h : y < 6) : (hfA M).1 309 y = M.1 309 (6 + y) := by
  unfold hfA
  rw [hf_ne (by omega), hf_ne (by omega), hf_ne (by omega), hf_ne (by omega), hf_ne (by omega), hf_ne (by omega), hf_ne (by omega), hf_ne (by omega), hf_ne (by omega), hf_ne (by omega), hf_ne (by omega), hf_ne (by omega), hf_lo h, hf_ne (by omega)]
theorem hfA_310 {M : zM} {y : Nat} (h : y < 6) : (hfA M).1 310 y = M.1 310 (6 + y) := by
  unfold hfA
  rw [hf_ne (by omega), hf_ne (by omega), hf_ne (by omega), hf_ne (by omega), hf_ne (by omega), hf_ne (by omega), hf_ne (by omega), hf_ne (by omega), hf_ne (by omega), hf_ne (by omega), hf_ne (by omega), hf_lo h, hf_ne (by omega), hf_ne (by omega)]
theorem hfA_311 {M : zM} {y : Nat} (h : y < 6) : (hfA M).1 311 y = M.1 311 (6 + y) := by
  unfold hfA
  rw [hf_ne (by omega), hf_ne (by omega), hf_ne (by omega), hf_ne (by omega), hf_ne (by omega), hf_ne (by omega), hf_ne (by omega), hf_ne (by omega), hf_ne (by omega), hf_ne (by omega), hf_lo h, hf_ne (by omega), hf_ne (by omega), hf_ne (by omega)]
theorem hfA_312 {M : zM} {y : Nat} (h : y < 12) : (hfA M).1 312 y = M.1 312 (12 + y) := by
  unfold hfA
  rw [hf_ne (by omega), hf_ne (by omega), hf_ne (by omega), hf_ne (by omega), hf_ne (by omega), hf_ne (by omega), hf_ne (by omega), hf_ne (by omega), hf_ne (by omega), hf_lo h, hf_ne (by omega), hf_ne (by omega), hf_ne (by omega), hf_ne (by omega)]
theorem hfA_313 {M : zM} {y : Nat} (h : y < 100) : (hfA M).1 313 y = M.1 313 (100 + y) := by
  unfold hfA
  rw [hf_ne (by omega), hf_ne (by omega), hf_ne (by omega), hf_ne (by omega), hf_ne (by omega), hf_ne (by omega), hf_ne (by omega), hf_ne (by omega), hf_lo h, hf_ne (by omega), hf_ne (by omega), hf_ne (by omega), hf_ne (by omega), hf_ne (by omega)]
theorem hfA_314 {M : zM} {y : Nat} (h : y < 5) : (hfA M).1 314 y = M.1 314 (5 + y) := by
  unfold hfA
  rw [hf_ne (by omega), hf_ne (by omega), hf_ne (by omega), hf_ne (by omega), hf_ne (by omega), hf_ne (by omega), hf_ne (by omega), hf_lo h, hf_ne (by omega), hf_ne (by omega), hf_ne (by omega), hf_ne (by omega), hf_ne (by omega), hf_ne (by omega)]
theorem hfA_315 {M : zM} {y : Nat} (h : y < 5) : (hfA M).1 315 y = M.1 315 (5 + y) := by
  unfold hfA
  rw [hf_ne (by omega), hf_ne (by omega), hf_ne (by omega), hf_ne (by omega), hf_ne (by omega), hf_ne (by omega), hf_lo h, hf_ne (by omega), hf_ne (by omega), hf_ne (by omega), hf_ne (by omega), hf_ne (by omega), hf_ne (by omega), hf_ne (by omega)]
theorem hfA_316 {M : zM} {y : Nat} (h : y < 5) : (hfA M).1 316 y = M.1 316 (5 + y) := by
  unfold hfA
  rw [hf_ne (by omega), hf_ne (by omega), hf_ne (by omega), hf_ne (by omega), hf_ne (by omega), hf_lo h, hf_ne (by omega), hf_ne (by omega), hf_ne (by omega), hf_ne (by omega), hf_ne (by omega), hf_ne (by omega), hf_ne (by omega), hf_ne (by omega)]
theorem hfA_317 {M : zM} {y : Nat} (h : y < 5) : (hfA M).1 317 y = M.1 317 (5 + y) := by
  unfold hfA
  rw [hf_ne (by omega), hf_ne (by omega), hf_ne (by omega), hf_ne (by omega), hf_lo h, hf_ne (by omega), hf_ne (by omega), hf_ne (by omega), hf_ne (by omega), hf_ne (by omega), hf_ne (by omega), hf_ne (by omega), hf_ne (by omega), hf_ne (by omega)]
theorem hfA_318 {M : zM} {y : Nat} (h : y < 3) : (hfA M).1 318 y = M.1 318 (3 + y) := by
  unfold hfA
  rw [hf_ne (by omega), hf_ne (by omega), hf_ne (by omega), hf_lo h, hf_ne (by omega), hf_ne (by omega), hf_ne (by omega), hf_ne (by omega), hf_ne (by omega), hf_ne (by omega), hf_ne (by omega), hf_ne (by omega), hf_ne (by omega), hf_ne (by omega)]
theorem hfA_319 {M : zM} {y : Nat} (h : y < 3) : (hfA M).1 319 y = M.1 319 (3 + y) := by
  unfold hfA
  rw [hf_ne (by omega), hf_ne (by omega), hf_lo h, hf_ne (by omega), hf_ne (by omega), hf_ne (by omega), hf_ne (by omega), hf_ne (by omega), hf_ne (by omega), hf_ne (by omega), hf_ne (by omega), hf_ne (by omega), hf_ne (by omega), hf_ne (by omega)]
theorem hfA_320 {M : zM} {y : Nat} (h : y < 64) : (hfA M).1 320 y = M.1 320 (64 + y) := by
  unfold hfA
  rw [hf_ne (by omega), hf_lo h, hf_ne (by omega), hf_ne (by omega), hf_ne (by omega), hf_ne (by omega), hf_ne (by omega), hf_ne (by omega), hf_ne (by omega), hf_ne (by omega), hf_ne (by omega), hf_ne (by omega), hf_ne (by omega), hf_ne (by omega)]
theorem hfA_321 {M : zM} {y : Nat} (h : y < 64) : (hfA M).1 321 y = M.1 321 (64 + y) := by
  unfold hfA
  rw [hf_lo h, hf_ne (by omega), hf_ne (by omega), hf_ne (by omega), hf_ne (by omega), hf_ne (by omega), hf_ne (by omega), hf_ne (by omega), hf_ne (by omega), hf_ne (by omega), hf_ne (by omega), hf_ne (by omega), hf_ne (by omega), hf_ne (by omega)]
theorem m_halves {S : List (Nat × Nat)} {M : zM} (hS : pMs S M.2.2) : (∀ M' : zM, gX12_half S 308 M' = some (hfR M' 308 7 0)) ∧ (∀ M' : zM, gX12_half S 309 M' = some (hfR M' 309 6 0)) ∧ (∀ M' : zM, gX12_half S 310 M' = some (hfR M' 310 6 0)) ∧ (∀ M' : zM, gX12_half S 311 M' = some (hfR M' 311 6 0)) ∧ (∀ M' : zM, gX12_half S 312 M' = some (hfR M' 312 12 0)) ∧ (∀ M' : zM, gX12_half S 313 M' = some (hfR M' 313 100 0)) ∧ (∀ M' : zM, gX12_half S 314 M' = some (hfR M' 314 5 0)) ∧ (∀ M' : zM, gX12_half S 315 M' = some (hfR M' 315 5 0)) ∧ (∀ M' : zM, gX12_half S 316 M' = some (hfR M' 316 5 0)) ∧ (∀ M' : zM, gX12_half S 317 M' = some (hfR M' 317 5 0)) ∧ (∀ M' : zM, gX12_half S 318 M' = some (hfR M' 318 3 0)) ∧ (∀ M' : zM, gX12_half S 319 M' = some (hfR M' 319 3 0)) ∧ (∀ M' : zM, gX12_half S 320 M' = some (hfR M' 320 64 0)) ∧ (∀ M' : zM, gX12_half S 321 M' = some (hfR M' 321 64 0)) :=
  ⟨fun M' => m_half (N := 7) (pMg hS 3 308 100 14 (by decide)).2 (by omega) (by decide), fun M' => m_half (N := 6) (pMg hS 4 309 100 12 (by decide)).2 (by omega) (by decide), fun M' => m_half (N := 6) (pMg hS 5 310 100 12 (by decide)).2 (by omega) (by decide), fun M' => m_half (N := 6) (pMg hS 6 311 100 12 (by decide)).2 (by omega) (by decide), fun M' => m_half (N := 12) (pMg hS 7 312 100 24 (by decide)).2 (by omega) (by decide), fun M' => m_half (N := 100) (pMg hS 8 313 100 200 (by decide)).2 (by omega) (by decide), fun M' => m_half (N := 5) (pMg hS 9 314 100 10 (by decide)).2 (by omega) (by decide), fun M' => m_half (N := 5) (pMg hS 10 315 100 10 (by decide)).2 (by omega) (by decide), fun M' => m_half (N := 5) (pMg hS 11 316 100 10 (by decide)).2 (by omega) (by decide), fun M' => m_half (N := 5) (pMg hS 12 317 100 10 (by decide)).2 (by omega) (by decide), fun M' => m_half (N := 3) (pMg hS 13 318 100 6 (by decide)).2 (by omega) (by decide), fun M' => m_half (N := 3) (pMg hS 14 319 100 6 (by decide)).2 (by omega) (by decide), fun M' => m_half (N := 64) (pMg hS 15 320 100 128 (by decide)).2 (by omega) (by decide), fun M' => m_half (N := 64) (pMg hS 16 321 100 128 (by decide)).2 (by omega) (by decide)⟩
