/-! pure part 20: what stays well by days; many days, the class and the model -/
def wfK (E : zEn) (K : zKa) (B : Nat) : Prop := (∀ i, i < eP E → kLs K i < eT E) ∧ (eP E = 0 ∨ kNx K < eP E) ∧ (∀ w, w < 5 → kWt K w ≤ 9) ∧ (∀ j, kAp K = some j → j < eT E) ∧ kDy K ≤ B ∧ (∀ t, eT E ≤ t → t < 6 → kKn K t = 0) ∧ (∃ j, j ≤ 24 ∧ kLa K = nI j)
def moOk (E : zEn) (mo : zMo) : Prop := (∀ j, mo.2.2.2.2 = some j → j < 6) ∧ mo.2.2.2.1 ≤ 100 ∧ (∀ t, t < eT E → mo.1 t ≤ 24)
theorem clamp24 (w : Int64) : ∃ j, j ≤ 24 ∧ (if (if w < (24 : Int32).toInt64 then w else (24 : Int32).toInt64) < (0 : Int32).toInt64 then (0 : Int32).toInt64 else (if w < (24 : Int32).toInt64 then w else (24 : Int32).toInt64)).toInt32 = nI j := by
  by_cases h1 : w < (24 : Int32).toInt64
  · rw [if_pos h1]
    by_cases h2 : w < (0 : Int32).toInt64
    · rw [if_pos h2]
      exact ⟨0, by decide, rfl⟩
    · rw [if_neg h2]
      rw [Int64.lt_iff_toInt_lt] at h1 h2
      have e1 : ((24 : Int32).toInt64).toInt = 24 := by decide
      have e2 : ((0 : Int32).toInt64).toInt = 0 := by decide
      rw [e1] at h1
      rw [e2] at h2
      refine ⟨w.toInt.toNat, by omega, ?_⟩
      apply Int32.toInt_inj.mp
      rw [nI_toInt (by omega), Int64.toInt_toInt32, Int.toNat_of_nonneg (by omega)]
      apply Int.bmod_eq_of_le <;> omega
  · rw [if_neg h1]
    exact ⟨24, by decide, by decide⟩
theorem lenS_24 {E : zEn} {K : zKa} {mo : zMo} {t : Nat} (hm : mo.1 t ≤ 24) : ∃ j, j ≤ 24 ∧ lenS E K mo t = nI j := by
  unfold lenS bnd
  split
  · exact ⟨24 - mo.1 t, by omega, by rw [li24, pk_sub hm]⟩
  · exact clamp24 _
theorem whoS_nx {E : zEn} {mo : zMo} {K : zKa} (hL : ∀ i, i < eP E → kLs K i < eT E) (hx : eP E = 0 ∨ kNx K < eP E) : eP E = 0 ∨ (whoS E mo K).2.1 < eP E := by
  cases ha : kAp K with
  | some t =>
    have hw : whoS E mo K = (some t, kNx K, kNu K, kMi K) := by unfold whoS; rw [ha]
    rw [hw]
    exact hx
  | none =>
    cases hc : (if mo.2.2.1 then eCl E (kDy K) else none) with
    | some t =>
      have hw : whoS E mo K = (some t, kNx K, kNu K, kMi K) := by unfold whoS; rw [ha, hc]
      rw [hw]
      exact hx
    | none =>
      rw [whoS_rst ha hc]
      unfold rstS
      by_cases h0 : eP E = 0
      · exact Or.inl h0
      · rw [if_neg h0]
        exact Or.inr (turS_lt hL (hx.resolve_left h0)).2
theorem dayS_wf {E : zEn} {mo : zMo} {K : zKa} {B : Nat} (wE : wfE E) (hm : moOk E mo) (hK : wfK E K B) : wfK E (dayS E mo K) (B + 1) := by
  obtain ⟨a, b, c, d, e, f, g⟩ := hK
  have hw := whoS_lt (mo := mo) wE a b d
  have hn := whoS_nx (mo := mo) a b
  unfold dayS
  cases ho : (whoS E mo K).1 with
  | none => exact ⟨a, hn, c, fun j h => (by cases h), Nat.succ_le_succ e, f, g⟩
  | some t =>
    have ht := hw t ho
    refine ⟨a, hn, fun w hw => ?_, fun j h => (by cases h), Nat.succ_le_succ e, fun i h1 h2 => ?_, lenS_24 (hm.2.2 t ht)⟩
    · show wtS E (midK (whoS E mo K) K) _ w ≤ 9
      unfold wtS
      split
      · rename_i h
        have h9 := (wE.2.2.2.2.2.2.2.2.2.2.2.1 w h.1).2
        have := h.2.2.2
        omega
      · exact c w hw
    · show up1 (kKn K) t _ i = 0
      unfold up1
      rw [if_neg (by omega)]
      exact f i h1 h2
def dysS (E : zEn) (mo : zMo) : Nat → zKa → zKa
  | 0, K => K
  | n + 1, K => dysS E mo n (dayS E mo K)
def dL (E : zEn) (mo : zMo) (K : zKa) : Int32 := match kBy (dayS E mo K) with | none => 0 | some _ => kLa (dayS E mo K)
def smL (E : zEn) (mo : zMo) : Nat → zKa → Int32
  | 0, _ => 0
  | n + 1, K => dL E mo K + smL E mo n (dayS E mo K)
theorem leS_dL {E : zEn} {mo : zMo} {K : zKa} {le : Int32} : leS E mo (midK (whoS E mo K) K) le (whoS E mo K).1 = le + dL E mo K := by
  unfold dL dayS
  cases (whoS E mo K).1 with
  | none => exact (Int32.add_zero le).symm
  | some t => rfl
def cOk (S : List (Nat × Nat)) (R : Nat → Nat → Option Nat) (I : Nat → Nat → Int32) (t : Nat) (E : zEn) (mo : zMo) : Prop := (zShp S ∧ pRf R ∧ (t = 43 ∨ t = 75) ∧ R 134 0 = some t ∧ R 0 3 = some t) ∧ pTv I t E ∧ pCv I 134 167 E mo ∧ wfE E ∧ moOk E mo
theorem pCv_cg {I I' : Nat → Nat → Int32} {E : zEn} {mo : zMo} (h : ∀ a b, (a = 134 ∨ a = 168) → I' a b = I a b) (hV : pCv I 134 167 E mo) : pCv I' 134 167 E mo := by
  obtain ⟨a, b, c, d, e⟩ := hV
  exact ⟨fun i hi => by rw [h _ _ (Or.inr rfl)]; exact a i hi, by rw [h _ _ (Or.inl rfl)]; exact b, by rw [h _ _ (Or.inl rfl)]; exact c, by rw [h _ _ (Or.inl rfl)]; exact d, by rw [h _ _ (Or.inl rfl)]; exact e⟩
theorem cOk_cg {S : List (Nat × Nat)} {R : Nat → Nat → Option Nat} {I I' : Nat → Nat → Int32} {t : Nat} {E : zEn} {mo : zMo} (hI : ∀ a b, (43 ≤ a ∧ a ≤ 106) ∨ a = 134 ∨ a = 168 → I' a b = I a b) (h : cOk S R I t E mo) : cOk S R I' t E mo := by
  obtain ⟨⟨h1, h2, h3, h4, h5⟩, h6, h7, h8, h9⟩ := h
  exact ⟨⟨h1, h2, h3, h4, h5⟩, pTv_cg (fun a b k1 k2 => hI a b (by omega)) h6, pCv_cg (fun a b k => hI a b (by omega)) h7, h8, h9⟩
theorem pCs_of {S : List (Nat × Nat)} {R : Nat → Nat → Option Nat} {t : Nat} (hS : zShp S) (hR : pRf R) (h : R 134 0 = some t) : pCs S R 134 t 167 := ⟨(hS 134 (by decide)).trans rfl, h, pRg hR 134 1 167 (by decide), row_of hS hR 167 6 (by decide)⟩
theorem c_day {S : List (Nat × Nat)} {M : zM} {t p B : Nat} {E : zEn} {K : zKa} {le : Int32} {mo : zMo} (hc : cOk S M.2.2 M.1 t E mo) (hp : p = 107 ∨ p = 116 ∨ p = 243 ∨ p = 252 ∨ p = 261 ∨ p = 270 ∨ p = 279 ∨ p = 288 ∨ p = 297) (hK : pSv M.1 p E K le) (wK : wfK E K B) (hB : B < 2 ^ 30) :
    ∃ M', gX0_dayGoes S 134 p M = some M' ∧ pSv M'.1 p E (dayS E mo K) (le + dL E mo K) ∧ wfK E (dayS E mo K) (B + 1) ∧ M'.2.2 = M.2.2 ∧ (∀ a b, ¬ (p ≤ a ∧ a ≤ p + 8) → M'.1 a b = M.1 a b) ∧ cOk S M'.2.2 M'.1 t E mo := by
  obtain ⟨⟨h1, h2, h3, h4, h5⟩, h6, h7, h8, h9⟩ := id hc
  obtain ⟨a, b, c, d, e, f, g⟩ := id wK
  obtain ⟨M', e1, e2, e3, e4⟩ := e_day (pCs_of h1 h2 h4) h7 (pTs_of h1 h2 t (Or.inr h3)) h6 (pSs_of h1 h2 p (by omega)) hK h8 (by omega) (by omega) (by omega) h9.1 h9.2.1 a b (fun w hw => Nat.lt_of_le_of_lt (c w hw) (by decide)) d (by omega)
  rw [leS_dL] at e2
  exact ⟨M', e1, e2, dayS_wf h8 h9 wK, e3, e4, e3 ▸ cOk_cg (fun a b k => e4 a b (by omega)) hc⟩
theorem c_days2 {S : List (Nat × Nat)} {R : Nat → Nat → Option Nat} {I : Nat → Nat → Int32} {t p n : Nat} {E : zEn} {mo : zMo} (hp : p = 107 ∨ p = 116 ∨ p = 243 ∨ p = 252 ∨ p = 261 ∨ p = 270 ∨ p = 279 ∨ p = 288 ∨ p = 297) (hn : n < 2 ^ 30) :
    ∀ (k fu i B : Nat) (K : zKa) (le : Int32) (M : zM), M.2.2 = R → (∀ a b, ¬ (p ≤ a ∧ a ≤ p + 8) → M.1 a b = I a b) → cOk S M.2.2 M.1 t E mo → pSv M.1 p E K le → wfK E K B → B + k < 2 ^ 30 → i + k = n → k < fu →
    ∃ M', gX0_daysGo_2 S fu 134 p (nI n) (nI i) M = some M' ∧ pSv M'.1 p E (dysS E mo k K) (le + smL E mo k K) ∧ wfK E (dysS E mo k K) (B + k) ∧ M'.2.2 = R ∧ (∀ a b, ¬ (p ≤ a ∧ a ≤ p + 8) → M'.1 a b = I a b) ∧ cOk S M'.2.2 M'.1 t E mo := by
  intro k
  induction k with
  | zero =>
    intro fu i B K le M hR hI hc hK wK hB hk hf
    obtain ⟨fu, rfl⟩ : ∃ f, fu = f + 1 := ⟨fu - 1, by omega⟩
    refine ⟨M, ?_, ?_, wK, hR, hI, hc⟩
    · simp only [gX0_daysGo_2]
      rw [if_pos (nI_le (by omega) (by omega))]
    · rw [show le + smL E mo 0 K = le from Int32.add_zero le]
      exact hK
  | succ k ih =>
    intro fu i B K le M hR hI hc hK wK hB hk hf
    obtain ⟨fu, rfl⟩ : ∃ f, fu = f + 1 := ⟨fu - 1, by omega⟩
    obtain ⟨M1, a1, a2, a3, a4, a5, a6⟩ := c_day hc hp hK wK (by omega)
    obtain ⟨M', b1, b2, b3, b4, b5, b6⟩ := ih fu (i + 1) (B + 1) (dayS E mo K) (le + dL E mo K) M1 (a4.trans hR) (fun a b h => (a5 a b h).trans (hI a b h)) a6 a2 a3 (by omega) (by omega) (by omega)
    refine ⟨M', ?_, ?_, ?_, b4, b5, b6⟩
    · simp only [gX0_daysGo_2]
      rw [if_neg (nI_ge (by omega) (by omega)), zrc_ok ((hc.1.1 134 (by decide)).trans rfl), a1, Option.bind_some, nI_1]
      exact b1
    · rw [show le + smL E mo (k + 1) K = le + dL E mo K + smL E mo k (dayS E mo K) from (Int32.add_assoc _ _ _).symm]
      exact b2
    · rw [show B + (k + 1) = B + 1 + k by omega]
      exact b3
def mOk (S : List (Nat × Nat)) (R : Nat → Nat → Option Nat) (I : Nat → Nat → Int32) (E : zEn) (mo : zMo) : Prop := pMs S R ∧ pME I E ∧ pMo I E mo ∧ wfE E ∧ moOk E mo
theorem mOk_fr {S : List (Nat × Nat)} {M M' : zM} {E : zEn} {mo : zMo} {s : Nat} (h : fr (mW s) M M') (hm : mOk S M.2.2 M.1 E mo) : mOk S M'.2.2 M'.1 E mo := by
  obtain ⟨a, b, c, d, e⟩ := hm
  exact ⟨h.1 ▸ a, pME_fr h b, pMo_fr h c, d, e⟩
theorem m_day {S : List (Nat × Nat)} {M : zM} {s B : Nat} {E : zEn} {K : zKa} {mo : zMo} (hm : mOk S M.2.2 M.1 E mo) (hs : s < 30) (hK : pMk M.1 s E K) (wK : wfK E K B) (hB : B < 2 ^ 30) :
    ∃ M', gX12_passes S 306 (nI s) (bI mo.2.1) M = some M' ∧ pMk M'.1 s E (dayS E mo K) ∧ wfK E (dayS E mo K) (B + 1) ∧ fr (mW s) M M' ∧ mOk S M'.2.2 M'.1 E mo := by
  obtain ⟨h1, h2, h3, h4, h5⟩ := id hm
  obtain ⟨a, b, c, d, e, f, g⟩ := id wK
  obtain ⟨M', e1, e2, e3⟩ := e_passes h1 h2 h3 hK h4 (fun w hw => Nat.lt_of_le_of_lt (c w hw) (by decide)) hs a b d (by omega)
  exact ⟨M', e1, e2, dayS_wf h4 h5 wK, e3, mOk_fr e3 hm⟩
theorem m_goesOn2 {S : List (Nat × Nat)} {M0 : zM} {n : Nat} {E : zEn} {mo : zMo} (hd : mo.2.1 = false) (hn : n < 2 ^ 30) :
    ∀ (k fu i B : Nat) (K : zKa) (M : zM), fr (mW 1) M0 M → mOk S M.2.2 M.1 E mo → pMk M.1 1 E K → wfK E K B → B + k < 2 ^ 30 → i + k = n → k < fu →
    ∃ M', gX12_goesOn_2 S fu 306 (nI n) (nI i) M = some M' ∧ pMk M'.1 1 E (dysS E mo k K) ∧ wfK E (dysS E mo k K) (B + k) ∧ fr (mW 1) M0 M' ∧ mOk S M'.2.2 M'.1 E mo := by
  intro k
  induction k with
  | zero =>
    intro fu i B K M hf0 hm hK wK hB hk hf
    obtain ⟨fu, rfl⟩ : ∃ f, fu = f + 1 := ⟨fu - 1, by omega⟩
    refine ⟨M, ?_, hK, wK, hf0, hm⟩
    simp only [gX12_goesOn_2]
    rw [if_pos (nI_le (by omega) (by omega))]
  | succ k ih =>
    intro fu i B K M hf0 hm hK wK hB hk hf
    obtain ⟨fu, rfl⟩ : ∃ f, fu = f + 1 := ⟨fu - 1, by omega⟩
    obtain ⟨M1, a1, a2, a3, a4, a5⟩ := m_day hm (by decide) hK wK (by omega)
    rw [hd] at a1
    have a1' : gX12_passes S 306 1 0 M = some M1 := a1
    obtain ⟨M', b1, b2, b3, b4, b5⟩ := ih fu (i + 1) (B + 1) (dayS E mo K) M1 (hf0.trans a4) a5 a2 a3 (by omega) (by omega) (by omega)
    refine ⟨M', ?_, b2, ?_, b4, b5⟩
    · simp only [gX12_goesOn_2]
      rw [if_neg (nI_ge (by omega) (by omega)), zrc_ok hm.1.1, a1', Option.bind_some, nI_1]
      exact b1
    · rw [show B + (k + 1) = B + 1 + k by omega]
      exact b3
