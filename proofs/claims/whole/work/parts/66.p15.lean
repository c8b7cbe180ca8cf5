/-! pure part 15: the model's text, its mode, its calendars; what it calls a trade by; lengths -/
def pME (I : Nat → Nat → Int32) (E : zEn) : Prop := (I 308 0 = nI (eT E) ∧ I 308 1 = nI (eP E) ∧ I 308 2 = nI (eC E) ∧ I 308 3 = nI (eW E) ∧ I 308 4 = nI (eS E) ∧ I 308 5 = eD E ∧ I 308 6 = nI (eK E)) ∧ (∀ t, t < eT E → I 309 t = eTn E t ∧ I 310 t = nI (eHr E t) ∧ I 311 t = nI (eMn E t)) ∧ (∀ p, p < eP E → I 312 p = nI (eLs E p)) ∧ (∀ d, d < 100 → I 313 d = oI (eCl E d)) ∧ (∀ w, w < eW E → I 314 w = eWn E w ∧ I 315 w = eLo E w ∧ I 316 w = eHi E w ∧ I 317 w = nI (eNd E w)) ∧ (∀ r, r < 3 → pRuM I r (eRu E r))
def pMo (I : Nat → Nat → Int32) (E : zEn) (mo : zMo) : Prop := (∀ t, t < eT E → (if I 306 47 = 4 then (0 : Int32) else if nI t = I 306 49 then I 306 50 else nI (eHr E t)) = nI (mo.1 t)) ∧ (∀ t, t < eT E → ((I 306 47 = 2 ∧ nI t = I 306 48) ↔ mo.2.2.2.2 = some t)) ∧ (I 306 47 = 3 ↔ mo.2.2.1 = false) ∧ (if I 306 47 = 5 then mo.2.2.2.1 = 0 else if I 306 47 = 1 then mo.2.2.2.1 = 100 else mo.2.2.2.1 = eS E)
def pMk (I : Nat → Nat → Int32) (s : Nat) (E : zEn) (K : zKa) : Prop := (I 324 s = nI (kDy K) ∧ I 325 s = kNu K ∧ I 326 s = nI (kNx K) ∧ I 327 s = oI (kAp K) ∧ I 328 s = kMi K ∧ I 329 s = kDa K ∧ I 330 s = kLa K ∧ I 331 s = oI (kBy K)) ∧ (∀ t, t < 6 → I 332 (6 * s + t) = kKn K t ∧ I 333 (6 * s + t) = kOp K t) ∧ (∀ p, p < eP E → I 334 (12 * s + p) = nI (kLs K p)) ∧ (∀ w, w < 5 → I 335 (5 * s + w) = nI (kWt K w))
def mS (s a b : Nat) : Prop := (324 ≤ a ∧ a ≤ 331 ∧ b = s) ∨ ((a = 332 ∨ a = 333) ∧ 6 * s ≤ b ∧ b < 6 * s + 6) ∨ (a = 334 ∧ 12 * s ≤ b ∧ b < 12 * s + 12) ∨ (a = 335 ∧ 5 * s ≤ b ∧ b < 5 * s + 5)
def mW (s a b : Nat) : Prop := (a = 306 ∧ b = 32) ∨ mS s a b
def mW0 (a b : Nat) : Prop := a = 306 ∧ b = 32
theorem pME_cg {I I' : Nat → Nat → Int32} {E : zEn} (h : ∀ a b, 308 ≤ a → a ≤ 321 → I' a b = I a b) (hV : pME I E) : pME I' E := by
  have e : ∀ a, 308 ≤ a → a ≤ 321 → I' a = I a := fun a h1 h2 => funext (fun b => h a b h1 h2)
  unfold pME pRuM at *
  rw [e 308 (by decide) (by decide), e 309 (by decide) (by decide), e 310 (by decide) (by decide), e 311 (by decide) (by decide), e 312 (by decide) (by decide), e 313 (by decide) (by decide), e 314 (by decide) (by decide), e 315 (by decide) (by decide), e 316 (by decide) (by decide), e 317 (by decide) (by decide), e 318 (by decide) (by decide), e 319 (by decide) (by decide), e 320 (by decide) (by decide), e 321 (by decide) (by decide)]
  exact hV
theorem pMo_cg {I I' : Nat → Nat → Int32} {E : zEn} {mo : zMo} (h : ∀ b, 47 ≤ b → b ≤ 50 → I' 306 b = I 306 b) (hV : pMo I E mo) : pMo I' E mo := by
  unfold pMo at *
  rw [h 47 (by decide) (by decide), h 48 (by decide) (by decide), h 49 (by decide) (by decide), h 50 (by decide) (by decide)]
  exact hV
theorem pMk_cg {I I' : Nat → Nat → Int32} {s : Nat} {E : zEn} {K : zKa} (hP : eP E ≤ 12) (h : ∀ a b, mS s a b → I' a b = I a b) (hK : pMk I s E K) : pMk I' s E K := by
  obtain ⟨⟨a0, a1, a2, a3, a4, a5, a6, a7⟩, b, c, d⟩ := hK
  refine ⟨⟨?_, ?_, ?_, ?_, ?_, ?_, ?_, ?_⟩, fun t ht => ⟨?_, ?_⟩, fun p hp => ?_, fun w hw => ?_⟩
  · rw [h 324 s (by unfold mS; omega)]; exact a0
  · rw [h 325 s (by unfold mS; omega)]; exact a1
  · rw [h 326 s (by unfold mS; omega)]; exact a2
  · rw [h 327 s (by unfold mS; omega)]; exact a3
  · rw [h 328 s (by unfold mS; omega)]; exact a4
  · rw [h 329 s (by unfold mS; omega)]; exact a5
  · rw [h 330 s (by unfold mS; omega)]; exact a6
  · rw [h 331 s (by unfold mS; omega)]; exact a7
  · rw [h 332 (6 * s + t) (by unfold mS; omega)]; exact (b t ht).1
  · rw [h 333 (6 * s + t) (by unfold mS; omega)]; exact (b t ht).2
  · rw [h 334 (12 * s + p) (by unfold mS; omega)]; exact c p hp
  · rw [h 335 (5 * s + w) (by unfold mS; omega)]; exact d w hw
theorem e_hourOf {S : List (Nat × Nat)} {R : Nat → Nat → Option Nat} {I : Nat → Nat → Int32} {E : zEn} {mo : zMo} {t : Nat} (hS : pMs S R) (hE : pME I E) (hm : pMo I E mo) (h6 : eT E ≤ 6) (ht : t < eT E) (M : zM) (hR : M.2.2 = R) (hI : M.1 = I) : gX12_hourOf S 306 (nI t) M = some (nI (mo.1 t)) := by
  subst hR hI
  have h1 := hm.1 t ht
  have h2 := (hE.2.1 t ht).2.1
  simp (disch := omega) only [gX12_hourOf, zgI, zgR, mF hS, mG hS, h2, if_true]
  rw [← h1]
  split
  · rfl
  · split <;> rfl
theorem e_isDone {S : List (Nat × Nat)} {R : Nat → Nat → Option Nat} {I : Nat → Nat → Int32} {s w a b : Nat} (hS : pMs S R) (hs : s < 30) (hw : w < 5) (h1 : I 335 (5 * s + w) = nI a) (h2 : I 317 w = nI b) (ha : a < 2 ^ 31) (hb : b < 2 ^ 31) (M : zM) (hR : M.2.2 = R) (hI : M.1 = I) : gX12_isDone S 306 (nI s) (nI w) M = some (if a < b then 0 else 1) := by
  subst hR hI
  simp (disch := omega) only [gX12_isDone, zgR, mF hS, li5, pk_mul, nI_add, mG hS, h1, h2, nI_ltI, if_true]
  split <;> rfl
theorem e_doneMany4 {S : List (Nat × Nat)} {R : Nat → Nat → Option Nat} {I : Nat → Nat → Int32} {E : zEn} {K : zKa} {s : Nat} (hS : pMs S R) (hE : pME I E) (hK : pMk I s E K) (wE : wfE E) (hW : ∀ w, w < 5 → kWt K w < 100) (hs : s < 30) (M : zM) (hR : M.2.2 = R) (hI : M.1 = I) : ∀ k fu i c, i + k = eW E → k < fu → c + k < 100 → gX12_doneMany_4 S fu 306 (nI s) (nI c) (nI i) M = some (nI (c + (k - lfN (kWt K) (eNd E) k i))) := by
  subst hR hI
  have h3 := hE.1.2.2.2.1
  have hW5 := wE.2.2.2.1
  intro k
  induction k with
  | zero =>
    intro fu i c hk hf hc
    obtain ⟨fu, rfl⟩ : ∃ f, fu = f + 1 := ⟨fu - 1, by omega⟩
    have hi : i = eW E := by omega
    subst hi
    simp (disch := omega) only [gX12_doneMany_4, zgR, mF hS, mG hS, li3, h3, nI_leI, Nat.le_refl, if_true]
    simp
  | succ k ih =>
    intro fu i c hk hf hc
    obtain ⟨fu, rfl⟩ : ∃ f, fu = f + 1 := ⟨fu - 1, by omega⟩
    have hi : i < eW E := by omega
    have h4 := (hE.2.2.2.2.1 i hi).2.2.2
    have h5 := hK.2.2.2 i (by omega)
    have h6 := hW i (by omega)
    have h7 := (wE.2.2.2.2.2.2.2.2.2.2.2.1 i hi).2
    have h8 := e_isDone hS hs (show i < 5 by omega) h5 h4 (by omega) (by omega) M rfl rfl
    have h9 : ¬ eW E ≤ i := by omega
    have h10 := lfN_le (kWt K) (eNd E) k (i + 1)
    simp (disch := omega) only [gX12_doneMany_4, zgR, zrc, mF hS, mG hS, li3, h3, nI_leI, if_neg h9, if_true, h8, Option.bind_some, nI_1]
    by_cases h : kWt K i < eNd E i
    · rw [if_pos h, if_pos rfl, show nI c + 0 = nI (c + 0) from nI_add c 0, ih fu (i + 1) (c + 0) (by omega) (by omega) (by omega)]
      congr 2
      show c + 0 + _ = c + (k + 1 - ((if kWt K i < eNd E i then 1 else 0) + lfN (kWt K) (eNd E) k (i + 1)))
      rw [if_pos h]
      omega
    · rw [if_neg h, if_neg (by decide), ih fu (i + 1) (c + 1) (by omega) (by omega) (by omega)]
      congr 2
      show c + 1 + _ = c + (k + 1 - ((if kWt K i < eNd E i then 1 else 0) + lfN (kWt K) (eNd E) k (i + 1)))
      rw [if_neg h]
      omega
theorem e_doneMany {S : List (Nat × Nat)} {R : Nat → Nat → Option Nat} {I : Nat → Nat → Int32} {E : zEn} {K : zKa} {s : Nat} (hS : pMs S R) (hE : pME I E) (hK : pMk I s E K) (wE : wfE E) (hW : ∀ w, w < 5 → kWt K w < 100) (hs : s < 30) (M : zM) (hR : M.2.2 = R) (hI : M.1 = I) : gX12_doneMany S 306 (nI s) M = some (nI (eW E - left E K)) := by
  have h := e_doneMany4 hS hE hK wE hW hs M hR hI (eW E) zfu 0 0 (by omega) (by have := wE.2.2.2.1; unfold zfu; omega) (by have := wE.2.2.2.1; omega)
  rw [Nat.zero_add] at h
  exact h
theorem nmS_ne {E : zEn} {K : zKa} {hr : Nat → Nat} {t : Nat} : ∀ j, nmS E K hr t j ≠ lMin := by
  intro j
  unfold nmS
  split
  · exact lMin_ne _
  split
  · exact lMin_ne _
  split
  · exact lMin_ne _
  split
  · exact lMin_ne _
  split
  · exact lMin_ne _
  split
  · exact lMin_ne _
  · exact lMin_ne _
theorem e_calls {S : List (Nat × Nat)} {M : zM} {E : zEn} {K : zKa} {mo : zMo} {s t : Nat} (hS : pMs S M.2.2) (hE : pME M.1 E) (hm : pMo M.1 E mo) (hK : pMk M.1 s E K) (wE : wfE E) (hW : ∀ w, w < 5 → kWt K w < 100) (hs : s < 30) (ht : t < eT E) :
    ∃ M', gX12_calls S 306 (nI s) (nI t) M = some M' ∧ M'.1 = M.1 ∧ M'.2.2 = M.2.2 ∧ ∀ j, j < 7 → M'.2.1 322 j = nmS E K mo.1 t j := by
  have h6 := wE.1
  have g0 := e_hourOf hS hE hm h6 ht M rfl rfl
  have g1 := (hE.2.1 t ht).2.2
  have g2 := (hK.2.1 t (by omega)).1
  have g3 := (hK.2.1 t (by omega)).2
  have g4 := hE.1.2.2.2.1
  have g5 := hK.1.2.2.2.2.2.2.1
  have g6 := hK.1.1
  have hle := lfN_le (kWt K) (eNd E) (eW E) 0
  have hle' : left E K ≤ eW E := hle
  have g7 : nI (eW E) - nI (eW E - left E K) = nI (left E K) := by rw [pk_sub (by omega)]; congr 1; omega
  refine ⟨zsL (zsL (zsL (zsL (zsL (zsL (zsL M 322 0 (nI (mo.1 t)).toInt64) 322 1 (nI (eMn E t)).toInt64) 322 2 (kKn K t).toInt64) 322 3 (kOp K t).toInt64) 322 4 (nI (left E K)).toInt64) 322 5 (kLa K).toInt64) 322 6 (nI (kDy K)).toInt64, ?_, rfl, rfl, ?_⟩
  · simp (disch := first | omega | rfl) only [gX12_calls, zgR, zrc, mF hS, g0, li0, li1, li2, li3, li4, li5, li6, mG hS, qL2, qL0, g1, pk_mul, nI_add, g2, g3, g4, g5, g6, Option.bind_some, if_true]
    rw [e_doneMany hS hE hK wE hW hs (zsL (zsL (zsL (zsL M 322 0 (nI (mo.1 t)).toInt64) 322 1 (nI (eMn E t)).toInt64) 322 2 (kKn K t).toInt64) 322 3 (kOp K t).toInt64) rfl rfl, Option.bind_some, g7]
  · intro j hj
    unfold nmS
    rcases (show j = 0 ∨ j = 1 ∨ j = 2 ∨ j = 3 ∨ j = 4 ∨ j = 5 ∨ j = 6 by omega) with rfl | rfl | rfl | rfl | rfl | rfl | rfl <;> simp [zsL, u2]
theorem e_lengthOf {S : List (Nat × Nat)} {M : zM} {E : zEn} {K : zKa} {mo : zMo} {s t : Nat} (hS : pMs S M.2.2) (hE : pME M.1 E) (hm : pMo M.1 E mo) (hK : pMk M.1 s E K) (wE : wfE E) (hW : ∀ w, w < 5 → kWt K w < 100) (hs : s < 30) (ht : t < eT E) :
    ∃ M', gX12_lengthOf S 306 (nI s) (nI t) M = some (lenS E K mo t, M') ∧ fr mW0 M M' := by
  obtain ⟨M1, a1, a2, a3, a4⟩ := e_calls hS hE hm hK wE hW hs ht
  have g0 := e_hourOf hS hE hm wE.1 ht M1 a3 a2
  obtain ⟨M2, b1, b2, b3⟩ := e_within (M := M1) (r := 0) (lo := 0) (hi := 24) (wo := 24 - nI (mo.1 t)) (a3 ▸ hS) (by decide) (a2 ▸ hE.2.2.2.2.2 0 (by decide)) wE a4 nmS_ne
  have b1' : gX12_within S 306 0 0 24 (24 - nI (mo.1 t)) M1 = some (lenS E K mo t, M2) := b1
  refine ⟨M2, ?_, b2.trans a3, fun a b h => by rw [b3 a b h, a2]⟩
  simp only [gX12_lengthOf, zrc, zb2, mF hS, a1, g0, b1', Option.bind_some, if_true]
