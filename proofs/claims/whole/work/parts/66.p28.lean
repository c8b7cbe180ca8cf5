/-! pure part 28: days tried aside, the class's trial, the model's run -/
def cRun (S : List (Nat × Nat)) (M0 : zM) (t : Nat) (E : zEn) (mo : zMo) (K : zKa) (le : Int32) (M : zM) : Prop := cOk S M.2.2 M.1 t E mo ∧ pSv M.1 116 E K le ∧ M.2.2 = u2 M0.2.2 134 0 (some t) ∧ ∀ a b, ¬ (a = 134 ∨ a = 168 ∨ (116 ≤ a ∧ a ≤ 124)) → M.1 a b = M0.1 a b
def mRun (S : List (Nat × Nat)) (M0 : zM) (E : zEn) (mo : zMo) (K : zKa) (M : zM) : Prop := mOk S M.2.2 M.1 E mo ∧ pMk M.1 1 E K ∧ fr mQ M0 M
theorem cRun_fr {S : List (Nat × Nat)} {M0 M : zM} {t : Nat} {E : zEn} {mo : zMo} {K : zKa} {le : Int32} (h0 : pRf M0.2.2) (h : cRun S M0 t E mo K le M) : cFr M0 M := cFr_of h0 h.2.2.1 (fun a b k => h.2.2.2 a b (by unfold cQ at k; omega))
theorem c_runDay {S : List (Nat × Nat)} {M0 M : zM} {t B : Nat} {E : zEn} {mo : zMo} {K : zKa} {le : Int32} (h : cRun S M0 t E mo K le M) (wK : wfK E K B) (hB : B < 2 ^ 30) :
    ∃ M', gX0_dayGoes S 134 116 M = some M' ∧ cRun S M0 t E mo (dayS E mo K) (le + dL E mo K) M' ∧ wfK E (dayS E mo K) (B + 1) := by
  obtain ⟨a, b, c, d⟩ := h
  obtain ⟨M', e1, e2, e3, e4, e5, e6⟩ := c_day a (by decide) b wK hB
  exact ⟨M', e1, ⟨e6, e2, e4.trans c, fun x y k => (e5 x y (by omega)).trans (d x y k)⟩, e3⟩
theorem mS_Q {a b : Nat} (h : mS 1 a b) : mQ a b := by unfold mS at h; unfold mQ; omega
theorem mW_Q {a b : Nat} (h : mW 1 a b) : mQ a b := by unfold mW mS at h; unfold mQ; omega
theorem m_runDay {S : List (Nat × Nat)} {M0 M : zM} {B : Nat} {E : zEn} {mo : zMo} {K : zKa} (h : mRun S M0 E mo K M) (wK : wfK E K B) (hB : B < 2 ^ 30) :
    ∃ M', gX12_passes S 306 1 (bI mo.2.1) M = some M' ∧ mRun S M0 E mo (dayS E mo K) M' := by
  obtain ⟨a, b, c⟩ := h
  obtain ⟨M', e1, e2, e3, e4, e5⟩ := m_day a (by decide) b wK hB
  exact ⟨M', e1, e5, e2, c.trans (e4.mono (fun _ _ => mW_Q))⟩
theorem c_begin {S : List (Nat × Nat)} {M : zM} {t : Nat} {E : zEn} {K : zKa} {le : Int32} (hS : zShp S) (hR : pRf M.2.2) (ht : t = 43 ∨ t = 75) (h03 : M.2.2 0 3 = some t) (hV : pTv M.1 t E) (wE : wfE E) (hK : pSv M.1 107 E K le) :
    ∃ M1 M2, gX0_goesOf S 134 t M = some M1 ∧ pRf M1.2.2 ∧ M1.2.2 0 3 = some t ∧ gX7_copy S 116 107 M1 = some M2 ∧ cRun S M t E (moN E) K le M2 := by
  obtain ⟨M1, a1, a2, a3, a4⟩ := c_goesOf hS hR ht h03 hV wE
  obtain ⟨⟨-, b2, -, b4, b5⟩, -⟩ := id a2
  obtain ⟨M2, c1, c2, c3, c4⟩ := c_copy (M := M1) (p := 116) (p' := 107) (pSs_of hS b2 116 (by decide)) (pSs_of hS b2 107 (by decide)) (by omega) wE.2.1 (pSv_cg (fun a b k1 k2 => a4 a b (by omega)) hK)
  have r2 : M2.2.2 = M1.2.2 := by rw [c2]
  exact ⟨M1, M2, a1, b2, b5, c1, r2 ▸ cOk_cg (fun a b k => c4 a b (by omega)) a2, c3, r2.trans a3, fun a b k => by rw [c4 a b (by omega), a4 a b (by omega)]⟩
theorem c_try24 {S : List (Nat × Nat)} {M0 : zM} {t n : Nat} {E : zEn} {mo : zMo} (hn : n < 2 ^ 30) : ∀ (k fu i B : Nat) (K : zKa) (le : Int32) (M : zM), cRun S M0 t E mo K le M → wfK E K B → B + k < 2 ^ 30 → i + k = n → k < fu →
    ∃ M', gX11_tryDays_24 S fu 0 (nI n) (nI i) M = some M' ∧ cRun S M0 t E mo (dysS E mo k K) (le + smL E mo k K) M' ∧ wfK E (dysS E mo k K) (B + k) := by
  intro k
  induction k with
  | zero =>
    intro fu i B K le M hc wK hB hk hf
    obtain ⟨fu, rfl⟩ : ∃ f, fu = f + 1 := ⟨fu - 1, by omega⟩
    refine ⟨M, ?_, ?_, wK⟩
    · simp only [gX11_tryDays_24]
      rw [if_pos (nI_le (by omega) (by omega))]
    · rw [show le + smL E mo 0 K = le from Int32.add_zero le]
      exact hc
  | succ k ih =>
    intro fu i B K le M hc wK hB hk hf
    obtain ⟨fu, rfl⟩ : ∃ f, fu = f + 1 := ⟨fu - 1, by omega⟩
    obtain ⟨M1, a1, a2, a3⟩ := c_runDay hc wK (by omega)
    obtain ⟨M', b1, b2, b3⟩ := ih fu (i + 1) (B + 1) (dayS E mo K) (le + dL E mo K) M1 a2 a3 (by omega) (by omega) (by omega)
    have D := cD hc.1.1.1 hc.1.1.2.1
    refine ⟨M', ?_, ?_, ?_⟩
    · have hb : ¬ n ≤ i := by omega
      simp (disch := first | omega | simp only [qI2, qL2, qC2, qF2]) only [gX11_tryDays_24, nI_leI, if_neg hb, ↓D, ↓bind_of a1, nI_1]
      exact b1
    · rw [show le + smL E mo (k + 1) K = le + dL E mo K + smL E mo k (dayS E mo K) from (Int32.add_assoc _ _ _).symm]
      exact b2
    · rw [show B + (k + 1) = B + 1 + k by omega]
      exact b3
theorem c_try {S : List (Nat × Nat)} {M : zM} {t n : Nat} {E : zEn} {K : zKa} {le : Int32} (hS : zShp S) (hR : pRf M.2.2) (ht : t = 43 ∨ t = 75) (h03 : M.2.2 0 3 = some t) (hV : pTv M.1 t E) (wE : wfE E) (hK : pSv M.1 107 E K le) (wK : wfK E K 9800) (hn : n ≤ 1000) :
    ∃ M1, gX11_tryDays S 0 (nI n) M = some M1 ∧ cRun S M t E (moN E) (dysS E (moN E) n K) (le + smL E (moN E) n K) M1 ∧ wfK E (dysS E (moN E) n K) (9800 + n) := by
  obtain ⟨M1, M2, a1, a2, a3, a4, a5⟩ := c_begin hS hR ht h03 hV wE hK
  obtain ⟨M3, b1, b2, b3⟩ := c_try24 (n := n) (by omega) n zfu 0 9800 K le M2 a5 wK (by omega) (by omega) (by unfold zfu; omega)
  have D := cD hS hR
  have D1 := cD hS a2
  have N1 := cT hS a2
  have gT : ∀ (M' : zM) (f : Nat → Option zM), M'.2.2 = M.2.2 → zgR S M' 0 11 14 3 f = f t := fun M' f h => zgR_of ((hS 0 (by decide)).trans rfl) h03 M' f h
  refine ⟨M3, ?_, b2, b3⟩
  simp (disch := first | omega | simp only [qI2, qL2, qC2, qF2]) only [gX11_tryDays, ↓D, ↓gT, ↓bind_of a1, ↓D1, ↓N1, ↓bind_of a4]
  exact b1
theorem m_begin {S : List (Nat × Nat)} {M' : zM} {E : zEn} {K : zKa} {im : Option (zKa × Int32)} {st : zStp} {no : zNot} {tp : Nat × (Nat → Int32)} {fl : Nat × Int32} (wE : wfE E) (hm : mIx S M' E K im st no tp fl) :
    ∃ M3, gX12_copies S 306 1 0 (zsI M' 306 0 0) = some M3 ∧ mRun S M' E (moN E) K M3 ∧ pMk M3.1 0 E K := by
  obtain ⟨mS', mE, mK, mim, mst, mno, mtp, mfl, mmd⟩ := hm
  have hK0 : pMk (zsI M' 306 0 0).1 0 E K := pMk_cg wE.2.1 (fun a b k => zsI_ne (by unfold mS at k; omega)) mK
  obtain ⟨M3, e1, e2, e3⟩ := m_copies (M := zsI M' 306 0 0) (to := 1) (as := 0) mS' (by decide) (by decide) (by decide) wE.2.1 hK0
  have f3 : fr mQ M' M3 := (th0 M' 0).trans (e3.mono (fun _ _ => mS_Q))
  refine ⟨M3, e1, ⟨⟨f3.1 ▸ mS', pME_cg (fun a b k1 k2 => f3.2 a b (by unfold mQ; omega)) mE, pMo_cg (fun b k1 k2 => ?_) (mo_now wE mmd), wE, moN_ok wE⟩, e2, f3⟩, pMk_cg wE.2.1 (fun a b k => f3.2 a b (by unfold mS at k; unfold mQ; omega)) mK⟩
  rw [e3.2 306 b (by unfold mS; omega), zsI_ne (by omega)]
theorem m_goes2 {S : List (Nat × Nat)} {M0 : zM} {n : Nat} {E : zEn} {mo : zMo} (hd : mo.2.1 = false) (hn : n < 2 ^ 30) :
    ∀ (k fu i B : Nat) (K : zKa) (M : zM), mRun S M0 E mo K M → wfK E K B → B + k < 2 ^ 30 → i + k = n → k < fu →
    ∃ M', gX12_goesOn_2 S fu 306 (nI n) (nI i) M = some M' ∧ mRun S M0 E mo (dysS E mo k K) M' := by
  intro k fu i B K M hm wK hB hk hf
  obtain ⟨a, b, c⟩ := hm
  obtain ⟨M', e1, e2, e3, e4, e5⟩ := m_goesOn2 (M0 := M) hd hn k fu i B K M fr.refl a b wK hB hk hf
  exact ⟨M', e1, e5, e2, c.trans (e4.mono (fun _ _ => mW_Q))⟩
theorem m_goes {S : List (Nat × Nat)} {M0 M : zM} {n : Nat} {E : zEn} {mo : zMo} {K : zKa} (hd : mo.2.1 = false) (hm : mRun S M0 E mo K M) (wK : wfK E K 9800) (hn : n ≤ 1000) :
    ∃ M', gX12_goesOn S 306 (nI n) M = some M' ∧ mRun S M0 E mo (dysS E mo n K) M' := m_goes2 hd (by omega) n zfu 0 9800 K M hm wK (by omega) (by omega) (by unfold zfu; omega)
theorem m_lengths4 {S : List (Nat × Nat)} {M0 : zM} {n : Nat} {E : zEn} {mo : zMo} (hd : mo.2.1 = false) (hn : n < 2 ^ 30) (hT : eT E ≤ 6) :
    ∀ (k fu i B : Nat) (x : Int32) (K : zKa) (M : zM), mRun S M0 E mo K M → wfK E K B → B + k < 2 ^ 30 → i + k = n → k < fu →
    ∃ M', gX12_lengthsIn_4 S fu 306 (nI n) x (nI i) M = some (x + smL E mo k K, M') ∧ mRun S M0 E mo (dysS E mo k K) M' := by
  intro k
  induction k with
  | zero =>
    intro fu i B x K M hm wK hB hk hf
    obtain ⟨fu, rfl⟩ : ∃ f, fu = f + 1 := ⟨fu - 1, by omega⟩
    refine ⟨M, ?_, hm⟩
    simp only [gX12_lengthsIn_4]
    rw [if_pos (nI_le (by omega) (by omega)), show x + smL E mo 0 K = x from Int32.add_zero x]
  | succ k ih =>
    intro fu i B x K M hm wK hB hk hf
    obtain ⟨fu, rfl⟩ : ∃ f, fu = f + 1 := ⟨fu - 1, by omega⟩
    obtain ⟨M1, a1, a2⟩ := m_runDay hm wK (by omega)
    rw [hd] at a1
    have a1' : gX12_passes S 306 1 0 M = some M1 := a1
    obtain ⟨M', b1, b2⟩ := ih fu (i + 1) (B + 1) (x + dL E mo K) (dayS E mo K) M1 a2 (dayS_wf hm.1.2.2.2.1 hm.1.2.2.2.2 wK) (by omega) (by omega) (by omega)
    have hS1 := hm.1.1
    have hS2 := a2.1.1
    refine ⟨M', ?_, b2⟩
    have hb : ¬ n ≤ i := by omega
    simp (disch := first | omega | simp only [qI2, qL2, qC2, qF2]) only [gX12_lengthsIn_4, nI_leI, if_neg hb, ↓mH hS1, ↓bind_of a1', ↓mH hS2, ↓mL hS2, nI_1, a2.2.1.1.2.2.2.2.2.2.2, a2.2.1.1.2.2.2.2.2.2.1]
    rw [show x + smL E mo (k + 1) K = x + dL E mo K + smL E mo k (dayS E mo K) from (Int32.add_assoc _ _ _).symm, ← b1]
    unfold dL
    cases ho : kBy (dayS E mo K) with
    | none => exact if_pos rfl
    | some j =>
      have hw : kBy (dayS E mo K) = (whoS E mo K).1 := by
        unfold dayS
        cases (whoS E mo K).1 <;> rfl
      have hj := whoS_lt (mo := mo) hm.1.2.2.2.1 wK.1 wK.2.1 wK.2.2.2.1 j (by rw [← hw, ho])
      exact if_neg (nI_m1ne (by omega))
theorem kBy_lt {E : zEn} {mo : zMo} {K : zKa} {B : Nat} (wE : wfE E) (wK : wfK E K B) : ∀ j, kBy (dayS E mo K) = some j → j < eT E := by
  intro j hj
  have hw : kBy (dayS E mo K) = (whoS E mo K).1 := by
    unfold dayS
    cases (whoS E mo K).1 <;> rfl
  exact whoS_lt (mo := mo) wE wK.1 wK.2.1 wK.2.2.2.1 j (by rw [← hw, hj])
