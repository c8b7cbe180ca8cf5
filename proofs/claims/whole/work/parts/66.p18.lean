/-! pure part 18: a day of the model -/
def mW5 (s a b : Nat) : Prop := a = 335 ∧ 5 * s ≤ b ∧ b < 5 * s + 5
theorem e_opens85 {S : List (Nat × Nat)} {R : Nat → Nat → Option Nat} {I : Nat → Nat → Int32} {E : zEn} {K : zKa} {s : Nat} {len : Int32} (hS : pMs S R) (hE : pME I E) (wE : wfE E) (hW : ∀ w, w < 5 → kWt K w < 100) (hs : s < 30) :
    ∀ (k fu w : Nat) (M : zM), M.2.2 = R → (∀ a b, ¬ mW5 s a b → M.1 a b = I a b) → w + k = eW E → (∀ j, j < 5 → M.1 335 (5 * s + j) = nI (mixW (kWt K) (wtS E K len) w j)) → k < fu →
    ∃ M', gX12_opens_85 S fu 306 (nI s) len (nI w) M = some M' ∧ M'.2.2 = R ∧ (∀ a b, ¬ mW5 s a b → M'.1 a b = I a b) ∧ (∀ j, j < 5 → M'.1 335 (5 * s + j) = nI (mixW (kWt K) (wtS E K len) (eW E) j)) := by
  have hW5 := wE.2.2.2.1
  intro k
  induction k with
  | zero =>
    intro fu w M hR hI hk h1 hf
    obtain ⟨fu, rfl⟩ : ∃ f, fu = f + 1 := ⟨fu - 1, by omega⟩
    have hw : w = eW E := by omega
    subst hw
    have hS' : pMs S M.2.2 := hR ▸ hS
    have g3 : M.1 308 3 = nI (eW E) := by rw [hI _ _ (by unfold mW5; omega)]; exact hE.1.2.2.2.1
    refine ⟨M, ?_, hR, hI, h1⟩
    simp (disch := omega) only [gX12_opens_85, zgR, mF hS', mG hS', li3, g3, nI_leI, Nat.le_refl, if_true]
  | succ k ih =>
    intro fu w M hR hI hk h1 hf
    obtain ⟨fu, rfl⟩ : ∃ f, fu = f + 1 := ⟨fu - 1, by omega⟩
    have hw : w < eW E := by omega
    have hS' : pMs S M.2.2 := hR ▸ hS
    have g3 : M.1 308 3 = nI (eW E) := by rw [hI _ _ (by unfold mW5; omega)]; exact hE.1.2.2.2.1
    obtain ⟨-, q1, q2, q3⟩ := hE.2.2.2.2.1 w hw
    have g4 : M.1 315 w = eLo E w := by rw [hI _ _ (by unfold mW5; omega)]; exact q1
    have g5 : M.1 316 w = eHi E w := by rw [hI _ _ (by unfold mW5; omega)]; exact q2
    have g6 : M.1 317 w = nI (eNd E w) := by rw [hI _ _ (by unfold mW5; omega)]; exact q3
    have g7 : M.1 335 (5 * s + w) = nI (kWt K w) := by
      rw [h1 w (by omega)]
      congr 1
      exact if_neg (by omega)
    have hKw := hW w (by omega)
    have hn9 := (wE.2.2.2.2.2.2.2.2.2.2.2.1 w hw).2
    have hb : ¬ eW E ≤ w := by omega
    have hd := e_isDone hS' hs (show w < 5 by omega) g7 g6 (by omega) (by omega) M rfl rfl
    have step : gX12_opens_85 S (fu + 1) 306 (nI s) len (nI w) M = (if (if kWt K w < eNd E w then (0 : Int32) else 1) = 0 then (if len < eLo E w then gX12_opens_85 S fu 306 (nI s) len (nI (w + 1)) M else if eHi E w < len then gX12_opens_85 S fu 306 (nI s) len (nI (w + 1)) M else gX12_opens_85 S fu 306 (nI s) len (nI (w + 1)) (zsI M 335 (5 * s + w) (nI (kWt K w + 1)))) else gX12_opens_85 S fu 306 (nI s) len (nI (w + 1)) M) := by
      simp (disch := omega) only [gX12_opens_85, zgR, zrc, mF hS', mG hS', li3, li5, g3, nI_leI, if_neg hb, hd, Option.bind_some, g4, g5, pk_mul, nI_add, g7, nI_1, if_true]
    rw [step]
    have skip : wtS E K len w = kWt K w → ∃ M', gX12_opens_85 S fu 306 (nI s) len (nI (w + 1)) M = some M' ∧ M'.2.2 = R ∧ (∀ a b, ¬ mW5 s a b → M'.1 a b = I a b) ∧ (∀ j, j < 5 → M'.1 335 (5 * s + j) = nI (mixW (kWt K) (wtS E K len) (eW E) j)) := fun h2 =>
      ih fu (w + 1) M hR hI (by omega) (by rw [mixW_same h2]; exact h1) (by omega)
    by_cases c3 : kWt K w < eNd E w
    · rw [if_pos c3, if_pos rfl]
      by_cases c1 : len < eLo E w
      · rw [if_pos c1]
        exact skip (if_neg (fun h => h.2.1 c1))
      rw [if_neg c1]
      by_cases c2 : eHi E w < len
      · rw [if_pos c2]
        exact skip (if_neg (fun h => h.2.2.1 c2))
      rw [if_neg c2]
      have h3 : wtS E K len w = kWt K w + 1 := if_pos ⟨hw, c1, c2, c3⟩
      refine ih fu (w + 1) _ hR (fun a b h => by rw [zsI_ne (by unfold mW5 at h; omega)]; exact hI a b h) (by omega) (fun j hj => ?_) (by omega)
      by_cases h : j = w
      · rw [h, zsI_at, ← h3]
        congr 1
        exact (if_pos (by omega)).symm
      · rw [zsI_ne (by omega), h1 j hj]
        congr 1
        unfold mixW
        by_cases h4 : j < w
        · rw [if_pos h4, if_pos (by omega)]
        · rw [if_neg h4, if_neg (by omega)]
    · rw [if_neg c3, if_neg (by decide)]
      exact skip (if_neg (fun h => c3 h.2.2.2))
theorem mixW_W {E : zEn} {K : zKa} {len : Int32} (i : Nat) : mixW (kWt K) (wtS E K len) (eW E) i = wtS E K len i := by
  unfold mixW
  by_cases h : i < eW E
  · rw [if_pos h]
  · rw [if_neg h]
    exact (if_neg (fun h2 => h h2.1)).symm
theorem knC_eq (a f : Int32) : (if (0 : Int32) < (if (a + f) < (999 : Int32) then (a + f) else (999 : Int32)) then (if (a + f) < (999 : Int32) then (a + f) else (999 : Int32)) else (0 : Int32)) = knC a f := rfl
theorem opC_eq (a : Int32) : (if (a + (1 : Int32)) < (9999 : Int32) then (a + (1 : Int32)) else (9999 : Int32)) = opC a := rfl
theorem e_opensM {S : List (Nat × Nat)} {M : zM} {E : zEn} {K : zKa} {mo : zMo} {s t : Nat} (hS : pMs S M.2.2) (hE : pME M.1 E) (hm : pMo M.1 E mo) (hK : pMk M.1 s E K) (wE : wfE E) (hW : ∀ w, w < 5 → kWt K w < 100) (hs : s < 30) (ht : t < eT E) :
    ∃ M', gX12_opens S 306 (nI s) (nI t) M = some M' ∧ pMk M'.1 s E ((kDy K, kNx K, kNu K, kMi K, kDa K, lenS E K mo t), kAp K, kBy K, up1 (kKn K) t (knC (kKn K t) (famS E K mo t)), up1 (kOp K) t (opC (kOp K t)), kLs K, wtS E K (lenS E K mo t)) ∧ fr (mW s) M M' := by
  have hT6 := wE.1
  have hP12 := wE.2.1
  obtain ⟨M2, a1, a2⟩ := e_lengthOf hS hE hm hK wE hW hs ht
  have f2 : fr (mW s) M M2 := a2.mono (fun a b h => mW0_W h)
  have hS2 : pMs S M2.2.2 := a2.1 ▸ hS
  have hK2 := pMk_f0 hP12 a2 hK
  obtain ⟨M3, b1, b2, b3, b4⟩ := e_calls hS2 (pME_fr f2 hE) (pMo_fr f2 hm) hK2 wE hW hs ht
  have hS3 : pMs S M3.2.2 := b3 ▸ hS2
  have f3 : fr mW0 M M3 := ⟨b3.trans a2.1, fun a b h => by rw [b2]; exact a2.2 a b h⟩
  have hE3 := pME_fr (f3.mono (fun a b h => mW0_W (s := s) h)) hE
  have hK3 := pMk_f0 hP12 f3 hK
  obtain ⟨M8, c1, c2, c3⟩ := e_within (M := M3) (r := 1) (lo := -9) (hi := 9) (wo := 1) hS3 (by decide) (hE3.2.2.2.2.2 1 (by decide)) wE b4 nmS_ne
  have c1' : gX12_within S 306 1 (-9) 9 1 M3 = some (famS E K mo t, M8) := c1
  have hS8 : pMs S M8.2.2 := c2 ▸ hS3
  have f8 : fr mW0 M M8 := ⟨c2.trans f3.1, fun a b h => (c3 a b h).trans (f3.2 a b h)⟩
  have hK8 := pMk_f0 hP12 f8 hK
  have k3 := (hK3.2.1 t (by omega)).1
  have k8 := (hK8.2.1 t (by omega)).2
  have k8' : (zsI M8 332 (6 * s + t) (knC (kKn K t) (famS E K mo t))).1 333 (6 * s + t) = kOp K t := by rw [zsI_ne (by omega)]; exact k8
  have fr15 : ∀ (x y z : Int32) a b, ¬ mW s a b → (zsI (zsI (zsI M8 332 (6 * s + t) x) 333 (6 * s + t) y) 330 s z).1 a b = M.1 a b := fun x y z a b h => by
    rw [zsI_ne (by unfold mW mS at h; omega), zsI_ne (by unfold mW mS at h; omega), zsI_ne (by unfold mW mS at h; omega)]
    exact f8.2 a b (fun h2 => h (mW0_W h2))
  obtain ⟨M', d1, d2, d3, d4⟩ := e_opens85 (R := M.2.2) (I := (zsI (zsI (zsI M8 332 (6 * s + t) (knC (kKn K t) (famS E K mo t))) 333 (6 * s + t) (opC (kOp K t))) 330 s (lenS E K mo t)).1) (K := K) (len := lenS E K mo t) hS (pME_cg (fun a b h1 h2 => fr15 _ _ _ a b (by unfold mW mS; omega)) hE) wE hW hs (eW E) zfu 0 (zsI (zsI (zsI M8 332 (6 * s + t) (knC (kKn K t) (famS E K mo t))) 333 (6 * s + t) (opC (kOp K t))) 330 s (lenS E K mo t)) f8.1 (fun a b _ => rfl) (by omega) (fun j hj => by
      rw [mixW_0, zsI_ne (by omega), zsI_ne (by omega), zsI_ne (by omega)]
      exact hK8.2.2.2 j hj) (by have := wE.2.2.2.1; unfold zfu; omega)
  have d1' : gX12_opens_85 S zfu 306 (nI s) (lenS E K mo t) 0 (zsI (zsI (zsI M8 332 (6 * s + t) (knC (kKn K t) (famS E K mo t))) 333 (6 * s + t) (opC (kOp K t))) 330 s (lenS E K mo t)) = some M' := d1
  have fin : ∀ a b, ¬ mW5 s a b → M'.1 a b = (zsI (zsI (zsI M8 332 (6 * s + t) (knC (kKn K t) (famS E K mo t))) 333 (6 * s + t) (opC (kOp K t))) 330 s (lenS E K mo t)).1 a b := d3
  obtain ⟨⟨v0, v1, v2, v3, v4, v5, v6, v7⟩, vk, vl, vw⟩ := hK8
  refine ⟨M', ?_, ⟨⟨?_, ?_, ?_, ?_, ?_, ?_, ?_, ?_⟩, fun i hi => ⟨?_, ?_⟩, fun p hp => ?_, fun w hw => ?_⟩, d2, fun a b h => ?_⟩
  · simp (disch := omega) only [gX12_opens, zrc, zb2, zgR, mF hS, mF hS3, mF hS8, a1, b1, li6, pk_mul, nI_add, mG hS3, mG hS8, k3, c1', knC_eq, qI2, k8', opC_eq, Option.bind_some, if_true]
    exact d1'
  · rw [fin _ _ (by unfold mW5; omega), zsI_ne (by omega), zsI_ne (by omega), zsI_ne (by omega)]; exact v0
  · rw [fin _ _ (by unfold mW5; omega), zsI_ne (by omega), zsI_ne (by omega), zsI_ne (by omega)]; exact v1
  · rw [fin _ _ (by unfold mW5; omega), zsI_ne (by omega), zsI_ne (by omega), zsI_ne (by omega)]; exact v2
  · rw [fin _ _ (by unfold mW5; omega), zsI_ne (by omega), zsI_ne (by omega), zsI_ne (by omega)]; exact v3
  · rw [fin _ _ (by unfold mW5; omega), zsI_ne (by omega), zsI_ne (by omega), zsI_ne (by omega)]; exact v4
  · rw [fin _ _ (by unfold mW5; omega), zsI_ne (by omega), zsI_ne (by omega), zsI_ne (by omega)]; exact v5
  · rw [fin _ _ (by unfold mW5; omega), zsI_at]; rfl
  · rw [fin _ _ (by unfold mW5; omega), zsI_ne (by omega), zsI_ne (by omega), zsI_ne (by omega)]; exact v7
  · rw [fin _ _ (by unfold mW5; omega), zsI_ne (by omega), zsI_ne (by omega)]
    show _ = up1 (kKn K) t _ i
    unfold up1
    by_cases h : i = t
    · rw [if_pos h, h, zsI_at]
    · rw [if_neg h, zsI_ne (by omega)]; exact (vk i hi).1
  · rw [fin _ _ (by unfold mW5; omega), zsI_ne (by omega)]
    show _ = up1 (kOp K) t _ i
    unfold up1
    by_cases h : i = t
    · rw [if_pos h, h, zsI_at]
    · rw [if_neg h, zsI_ne (by omega), zsI_ne (by omega)]; exact (vk i hi).2
  · rw [fin _ _ (by unfold mW5; omega), zsI_ne (by omega), zsI_ne (by omega), zsI_ne (by omega)]; exact vl p hp
  · rw [d4 w hw, mixW_W]; rfl
  · rw [fin _ _ (by unfold mW5; unfold mW mS at h; omega)]
    exact fr15 _ _ _ a b h
theorem whoS_lt {E : zEn} {mo : zMo} {K : zKa} (wE : wfE E) (hL : ∀ i, i < eP E → kLs K i < eT E) (hx : eP E = 0 ∨ kNx K < eP E) (hA : ∀ j, kAp K = some j → j < eT E) : ∀ j, (whoS E mo K).1 = some j → j < eT E := by
  intro j hj
  cases ha : kAp K with
  | some t =>
    have hw : whoS E mo K = (some t, kNx K, kNu K, kMi K) := by unfold whoS; rw [ha]
    rw [hw] at hj
    cases hj
    exact hA _ ha
  | none =>
    cases hc : (if mo.2.2.1 then eCl E (kDy K) else none) with
    | some t =>
      have hw : whoS E mo K = (some t, kNx K, kNu K, kMi K) := by unfold whoS; rw [ha, hc]
      rw [hw] at hj
      cases hj
      split at hc
      · exact (wE.2.2.2.2.2.2.2.2.2.2.1 _ _ hc).1
      · cases hc
    | none =>
      rw [whoS_rst ha hc] at hj
      unfold rstS at hj
      by_cases h0 : eP E = 0
      · rw [if_pos h0] at hj; cases hj
      · rw [if_neg h0] at hj
        exact (turS_lt hL (hx.resolve_left h0)).1 j hj
theorem e_passes {S : List (Nat × Nat)} {M : zM} {E : zEn} {K : zKa} {mo : zMo} {s : Nat} (hS : pMs S M.2.2) (hE : pME M.1 E) (hm : pMo M.1 E mo) (hK : pMk M.1 s E K) (wE : wfE E) (hW : ∀ w, w < 5 → kWt K w < 100) (hs : s < 30) (hL : ∀ i, i < eP E → kLs K i < eT E) (hx : eP E = 0 ∨ kNx K < eP E) (hA : ∀ j, kAp K = some j → j < eT E) (hD : kDy K < 2 ^ 30) :
    ∃ M', gX12_passes S 306 (nI s) (bI mo.2.1) M = some M' ∧ pMk M'.1 s E (dayS E mo K) ∧ fr (mW s) M M' := by
  have hP12 := wE.2.1
  obtain ⟨M2, a1, a2, a3⟩ := e_whoM hS hE hm hK wE hW hs hL hx hA hD
  have hlt := whoS_lt (mo := mo) wE hL hx hA
  have hS2 : pMs S M2.2.2 := a3.1 ▸ hS
  unfold dayS
  cases hw : (whoS E mo K).1 with
  | none =>
    rw [hw] at a1
    obtain ⟨⟨v0, v1, v2, v3, v4, v5, v6, v7⟩, vk, vl, vw⟩ := a2
    have g1 : (zsI M2 331 s (oI none)).1 329 s = kDa K := by rw [zsI_ne (by omega)]; exact v5
    have g2 : (zsI (zsI M2 331 s (oI none)) 329 s (kDa K + 1)).1 324 s = nI (kDy K) := by rw [zsI_ne (by omega), zsI_ne (by omega)]; exact v0
    have hp : oI none = -1 := rfl
    refine ⟨zsI (zsI (zsI (zsI M2 331 s (oI none)) 329 s (kDa K + 1)) 324 s (nI (kDy K) + 1)) 327 s (-1), ?_, ⟨⟨?_, ?_, ?_, ?_, ?_, ?_, ?_, ?_⟩, fun i hi => ⟨?_, ?_⟩, fun p hp => ?_, fun w hw => ?_⟩, a3.1, fun a b h => ?_⟩
    · simp (disch := omega) only [gX12_passes, zrc, zb2, zgR, mF hS, mF hS2, mG hS2, a1, qI2, g1, g2, Option.bind_some, if_true]
      rw [if_pos hp]
    · rw [zsI_ne (by omega), zsI_at, nI_1]; rfl
    · rw [zsI_ne (by omega), zsI_ne (by omega), zsI_ne (by omega), zsI_ne (by omega)]; exact v1
    · rw [zsI_ne (by omega), zsI_ne (by omega), zsI_ne (by omega), zsI_ne (by omega)]; exact v2
    · rw [zsI_at]; rfl
    · rw [zsI_ne (by omega), zsI_ne (by omega), zsI_ne (by omega), zsI_ne (by omega)]; exact v4
    · rw [zsI_ne (by omega), zsI_ne (by omega), zsI_at]; rfl
    · rw [zsI_ne (by omega), zsI_ne (by omega), zsI_ne (by omega), zsI_ne (by omega)]; exact v6
    · rw [zsI_ne (by omega), zsI_ne (by omega), zsI_ne (by omega), zsI_at]; rfl
    · rw [zsI_ne (by omega), zsI_ne (by omega), zsI_ne (by omega), zsI_ne (by omega)]; exact (vk i hi).1
    · rw [zsI_ne (by omega), zsI_ne (by omega), zsI_ne (by omega), zsI_ne (by omega)]; exact (vk i hi).2
    · rw [zsI_ne (by omega), zsI_ne (by omega), zsI_ne (by omega), zsI_ne (by omega)]; exact vl p hp
    · rw [zsI_ne (by omega), zsI_ne (by omega), zsI_ne (by omega), zsI_ne (by omega)]; exact vw w hw
    · rw [zsI_ne (by unfold mW mS at h; omega), zsI_ne (by unfold mW mS at h; omega), zsI_ne (by unfold mW mS at h; omega), zsI_ne (by unfold mW mS at h; omega)]; exact a3.2 a b h
  | some t =>
    rw [hw] at a1
    have ht := hlt t hw
    have hT6 := wE.1
    have f4 : fr (mW s) M (zsI M2 331 s (nI t)) := a3.sI (by unfold mW mS; omega)
    have hK4 : pMk (zsI M2 331 s (nI t)).1 s E ((midK (whoS E mo K) K).1, kAp K, some t, K.2.2.2) := by
      obtain ⟨⟨v0, v1, v2, v3, v4, v5, v6, v7⟩, vk, vl, vw⟩ := a2
      refine ⟨⟨?_, ?_, ?_, ?_, ?_, ?_, ?_, zsI_at _ _ _ _⟩, fun i hi => ⟨?_, ?_⟩, fun p hp => ?_, fun w hw => ?_⟩
      · rw [zsI_ne (by omega)]; exact v0
      · rw [zsI_ne (by omega)]; exact v1
      · rw [zsI_ne (by omega)]; exact v2
      · rw [zsI_ne (by omega)]; exact v3
      · rw [zsI_ne (by omega)]; exact v4
      · rw [zsI_ne (by omega)]; exact v5
      · rw [zsI_ne (by omega)]; exact v6
      · rw [zsI_ne (by omega)]; exact (vk i hi).1
      · rw [zsI_ne (by omega)]; exact (vk i hi).2
      · rw [zsI_ne (by omega)]; exact vl p hp
      · rw [zsI_ne (by omega)]; exact vw w hw
    have hS4 : pMs S (zsI M2 331 s (nI t)).2.2 := hS2
    obtain ⟨M5, b1, b2, b3⟩ := e_opensM hS4 (pME_fr f4 hE) (pMo_fr f4 hm) hK4 wE hW hs ht
    have f5 : fr (mW s) M M5 := f4.trans b3
    have hS5 : pMs S M5.2.2 := b3.1 ▸ hS4
    obtain ⟨⟨v0, v1, v2, v3, v4, v5, v6, v7⟩, vk, vl, vw⟩ := b2
    have v0' : M5.1 324 s = nI (kDy K) := v0
    refine ⟨zsI (zsI M5 324 s (nI (kDy K) + 1)) 327 s (-1), ?_, ⟨⟨?_, ?_, ?_, ?_, ?_, ?_, ?_, ?_⟩, fun i hi => ⟨?_, ?_⟩, fun p hp => ?_, fun w hw => ?_⟩, b3.1.trans f4.1, fun a b h => ?_⟩
    · have hn : ¬ nI t = -1 := nI_m1ne (by omega)
      simp (disch := omega) only [gX12_passes, zrc, zb2, zgR, mF hS, mF hS2, mG hS2, a1, oIs, if_neg hn, b1, mF hS5, mG hS5, qI2, v0', Option.bind_some, if_true]
    · rw [zsI_ne (by omega), zsI_at, nI_1]; rfl
    · rw [zsI_ne (by omega), zsI_ne (by omega)]; exact v1
    · rw [zsI_ne (by omega), zsI_ne (by omega)]; exact v2
    · rw [zsI_at]; rfl
    · rw [zsI_ne (by omega), zsI_ne (by omega)]; exact v4
    · rw [zsI_ne (by omega), zsI_ne (by omega)]; exact v5
    · rw [zsI_ne (by omega), zsI_ne (by omega)]; exact v6
    · rw [zsI_ne (by omega), zsI_ne (by omega)]; exact v7
    · rw [zsI_ne (by omega), zsI_ne (by omega)]; exact (vk i hi).1
    · rw [zsI_ne (by omega), zsI_ne (by omega)]; exact (vk i hi).2
    · rw [zsI_ne (by omega), zsI_ne (by omega)]; exact vl p hp
    · rw [zsI_ne (by omega), zsI_ne (by omega)]; exact vw w hw
    · rw [zsI_ne (by unfold mW mS at h; omega), zsI_ne (by unfold mW mS at h; omega)]; exact f5.2 a b h
