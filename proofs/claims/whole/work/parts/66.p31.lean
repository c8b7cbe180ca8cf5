/-! pure part 31: go -/
def moDr (E : zEn) : zMo := (eHr E, true, true, eS E, none)
theorem cIx_mk {S : List (Nat × Nat)} {M M' : zM} {t : Nat} {E : zEn} {K K' : zKa} {le le' : Int32} {im : Option (zKa × Int32)} {st st' : zStp} {no : zNot} {tp : Nat × (Nat → Int32)} {fl : Nat × Int32} (hI : cIx S M t E K le im st no tp fl) (h : ∀ a b, a < 306 → ¬ (107 ≤ a ∧ a ≤ 115) → ¬ (a = 182 ∨ a = 184) → ¬ cQ a b → M'.1 a b = M.1 a b) (h1 : pRf M'.2.2) (h2 : M'.2.2 0 3 = some t) (h3 : M'.2.2 0 4 = some (118 - t)) (hK : pSv M'.1 107 E K' le') (hst : cSt M'.1 E st') : cIx S M' t E K' le' im st' no tp fl := by
  obtain ⟨⟨a1, a2, a3, a4, a5⟩, b, c, d, e, f, g, i⟩ := hI
  have h' : ∀ a b, a < 306 → ¬ (107 ≤ a ∧ a ≤ 115) → ¬ (a = 182 ∨ a = 184) → ¬ ((116 ≤ a ∧ a ≤ 124) ∨ (134 ≤ a ∧ a ≤ 168) ∨ a = 177 ∨ a = 179 ∨ a = 181 ∨ (a = 169 ∧ 8 ≤ b) ∨ (185 ≤ a ∧ a ≤ 305)) → M'.1 a b = M.1 a b := h
  exact ⟨⟨a1, h1, a3, h2, h3⟩, pTv_cg (fun a b k1 k2 => h' a b (by omega) (by omega) (by omega) (by omega)) b, hK, ⟨(h' 0 8 (by decide) (by decide) (by decide) (by decide)).trans d.1, fun q hq => pSv_cg (fun a b k1 k2 => h' a b (by omega) (by omega) (by omega) (by omega)) (d.2 q hq)⟩, hst, ⟨(h' 169 6 (by decide) (by decide) (by decide) (by decide)).trans f.1, (h' 169 7 (by decide) (by decide) (by decide) (by decide)).trans f.2.1, fun j hj => ⟨(h' 171 j (by decide) (by omega) (by omega) (by omega)).trans (f.2.2 j hj).1, (h' 173 j (by decide) (by omega) (by omega) (by omega)).trans (f.2.2 j hj).2.1, (h' 175 j (by decide) (by omega) (by omega) (by omega)).trans (f.2.2 j hj).2.2⟩⟩, ⟨(h' 0 1 (by decide) (by decide) (by decide) (by decide)).trans g.1, fun j hj => (h' 2 j (by decide) (by omega) (by omega) (by omega)).trans (g.2 j hj)⟩, ⟨(h' 3 2 (by decide) (by decide) (by decide) (by decide)).trans i.1, (h' 3 3 (by decide) (by decide) (by decide) (by decide)).trans i.2.1, fun j hj => (h' 6 j (by decide) (by omega) (by omega) (by omega)).trans (i.2.2 j hj)⟩⟩
def mU (a b : Nat) : Prop := (324 ≤ a ∧ a ≤ 335 ∧ ¬ mS 2 a b) ∨ (a = 306 ∧ (b = 0 ∨ b = 32 ∨ b = 46 ∨ b = 50 ∨ b = 55)) ∨ (336 ≤ a ∧ a ≤ 341) ∨ a = 346 ∨ a = 347
theorem mIx_mk {S : List (Nat × Nat)} {M M' : zM} {E : zEn} {K K' : zKa} {im : Option (zKa × Int32)} {st st' : zStp} {no : zNot} {tp : Nat × (Nat → Int32)} {fl : Nat × Int32} (hP : eP E ≤ 12) (hI : mIx S M E K im st no tp fl) (h : ∀ a b, 306 ≤ a → ¬ mU a b → M'.1 a b = M.1 a b) (h1 : pMs S M'.2.2) (hK : pMk M'.1 0 E K') (hst : mSt M'.1 E K' st') : mIx S M' E K' im st' no tp fl := by
  obtain ⟨a1, b, c, d, e, f, g, i, k⟩ := hI
  have h' : ∀ a b, 306 ≤ a → ¬ (324 ≤ a ∧ a ≤ 335) → ¬ (a = 306 ∧ (b = 0 ∨ b = 32 ∨ b = 46 ∨ b = 50 ∨ b = 55)) → ¬ ((336 ≤ a ∧ a ≤ 341) ∨ a = 346 ∨ a = 347) → M'.1 a b = M.1 a b := fun a b k1 k2 k3 k4 => h a b k1 (by unfold mU; omega)
  exact ⟨h1, pME_cg (fun a b k1 k2 => h' a b (by omega) (by omega) (by omega) (by omega)) b, hK, ⟨(h' 306 45 (by decide) (by decide) (by decide) (by decide)).trans d.1, fun q hq => pMk_cg hP (fun a b k1 => h a b (by unfold mS at k1; omega) (by
    unfold mU
    intro k2
    rcases k2 with k2 | k2 | k2 | k2 | k2
    · exact k2.2.2 k1
    · unfold mS at k1; omega
    · unfold mS at k1; omega
    · unfold mS at k1; omega
    · unfold mS at k1; omega)) (d.2 q hq)⟩, hst, ⟨(h' 306 58 (by decide) (by decide) (by decide) (by decide)).trans f.1, (h' 306 59 (by decide) (by decide) (by decide) (by decide)).trans f.2.1, fun j hj => ⟨(h' 345 j (by decide) (by omega) (by omega) (by omega)).trans (f.2.2 j hj).1, fun h2 => ⟨(h' 342 j (by decide) (by omega) (by omega) (by omega)).trans ((f.2.2 j hj).2 h2).1, (h' 343 j (by decide) (by omega) (by omega) (by omega)).trans ((f.2.2 j hj).2 h2).2.1, (h' 344 j (by decide) (by omega) (by omega) (by omega)).trans ((f.2.2 j hj).2 h2).2.2⟩⟩⟩, ⟨(h' 306 2 (by decide) (by decide) (by decide) (by decide)).trans g.1, fun j hj => (h' 307 j (by decide) (by omega) (by omega) (by omega)).trans (g.2 j hj)⟩, ⟨(h' 306 26 (by decide) (by decide) (by decide) (by decide)).trans i.1, (h' 306 27 (by decide) (by decide) (by decide) (by decide)).trans i.2⟩, ⟨(h' 306 47 (by decide) (by decide) (by decide) (by decide)).trans k.1, (h' 306 48 (by decide) (by decide) (by decide) (by decide)).trans k.2.1, (h' 306 49 (by decide) (by decide) (by decide) (by decide)).trans k.2.2⟩⟩
theorem kDy_day {E : zEn} {mo : zMo} {K : zKa} : kDy (dayS E mo K) = kDy K + 1 := by
  unfold dayS
  cases (whoS E mo K).1 <;> rfl
theorem kDy_dys {E : zEn} {mo : zMo} : ∀ k K, kDy (dysS E mo k K) = kDy K + k
  | 0, _ => rfl
  | k + 1, K => by
    show kDy (dysS E mo k (dayS E mo K)) = _
    rw [kDy_dys k, kDy_day]
    omega
theorem wfK_to {E : zEn} {K : zKa} {B B' : Nat} (h : wfK E K B) (hB : kDy K ≤ B') : wfK E K B' := ⟨h.1, h.2.1, h.2.2.1, h.2.2.2.1, hB, h.2.2.2.2.2⟩
theorem m_go43 {S : List (Nat × Nat)} {M0 : zM} {n : Nat} {E : zEn} {mo : zMo} (hd : mo.2.1 = true) (hn : n < 2 ^ 30) :
    ∀ (k fu i B : Nat) (K : zKa) (M : zM), fr (mW 0) M0 M → mOk S M.2.2 M.1 E mo → pMk M.1 0 E K → wfK E K B → B + k < 2 ^ 30 → i + k = n → k < fu →
    ∃ M', gX12_go_43 S fu 306 (nI n) (nI i) M = some (nI (kDy K + k), M') ∧ pMk M'.1 0 E (dysS E mo k K) ∧ fr (mW 0) M0 M' := by
  intro k
  induction k with
  | zero =>
    intro fu i B K M hf0 hm hK wK hB hk hf
    obtain ⟨fu, rfl⟩ : ∃ f, fu = f + 1 := ⟨fu - 1, by omega⟩
    refine ⟨M, ?_, hK, hf0⟩
    have hb : n ≤ i := by omega
    have hS := hm.1
    simp (disch := first | omega | simp only [qI2, qL2, qC2, qF2]) only [gX12_go_43, nI_leI, ↓if_pos hb, ↓mH hS, ↓mL hS, hK.1.1]
    rfl
  | succ k ih =>
    intro fu i B K M hf0 hm hK wK hB hk hf
    obtain ⟨fu, rfl⟩ : ∃ f, fu = f + 1 := ⟨fu - 1, by omega⟩
    obtain ⟨M1, a1, a2, a3, a4, a5⟩ := m_day hm (by decide) hK wK (by omega)
    rw [hd] at a1
    have a1' : gX12_passes S 306 0 1 M = some M1 := a1
    obtain ⟨M', b1, b2, b3⟩ := ih fu (i + 1) (B + 1) (dayS E mo K) M1 (hf0.trans a4) a5 a2 a3 (by omega) (by omega) (by omega)
    refine ⟨M', ?_, b2, b3⟩
    have hb : ¬ n ≤ i := by omega
    have hS := hm.1
    simp (disch := first | omega | simp only [qI2, qL2, qC2, qF2]) only [gX12_go_43, nI_leI, if_neg hb, ↓mH hS, ↓bind_of a1', nI_1]
    rw [b1, kDy_day]
    congr 3
    omega
theorem cOk_dr {S : List (Nat × Nat)} {M : zM} {t : Nat} {E : zEn} (h : cOk S M.2.2 M.1 t E (moN E)) : cOk S (zsI M 134 2 1).2.2 (zsI M 134 2 1).1 t E (moDr E) := by
  obtain ⟨h1, h2, h3, h4, h5⟩ := h
  have ht := h1.2.2.1
  refine ⟨h1, pTv_cg (fun a b k1 k2 => zsI_ne (by omega)) h2, ⟨fun i hi => (zsI_ne (by omega)).trans (h3.1 i hi), zsI_at _ _ _ _, (zsI_ne (by omega)).trans h3.2.2.1, (zsI_ne (by omega)).trans h3.2.2.2.1, (zsI_ne (by omega)).trans h3.2.2.2.2⟩, h4, h5⟩
theorem P_go : zP_go zInv := by
  intro S M hM a1
  refine zu (f := gX11_go S 0 a1) (g := gX12_go S 306 a1) ?_ M hM
  intro A M hw hc
  obtain ⟨t, E, K, le, im, st, no, tp, fl⟩ := A
  have hc2 : cIx S M t E K le im st no tp fl := hc
  have hw2 : aWx E K im st no tp fl := hw
  obtain ⟨⟨hS, hR, ht, h03, h04⟩, hV, hK, him, hst, hno, htp, hfl⟩ := hc2
  obtain ⟨wE, wK, wim, wst, wno, wtp, wfl⟩ := hw2
  have hT6 := wE.1
  have hP12 := wE.2.1
  have hW5 := wE.2.2.2.1
  have T0 := pTs_of hS hR t (Or.inr ht)
  have N0 := pSs_of hS hR 107 (by decide)
  have gT : ∀ (ρ : Type) (M' : zM) (f : Nat → Option ρ), M'.2.2 = M.2.2 → zgR S M' 0 11 14 3 f = f t := fun ρ M' f h => zgR_of ((hS 0 (by decide)).trans rfl) h03 M' f h
  have D := cD hS hR
  have N := cN hS hR
  have same : ∀ (v : Int32), gX11_go S 0 a1 M = some (v, M) → (∀ M' : zM, mIx S M' E K im st no tp fl → gX12_go S 306 a1 M' = some (v, zsI M' 306 0 0)) → ∃ (v : Int32) (A' : zAb) (M1 : zM), gX11_go S 0 a1 M = some (v, M1) ∧ aW A' ∧ cI S M1 A' ∧ cX M M1 ∧ ∀ M' : zM, mI S M' (t, E, K, le, im, st, no, tp, fl) → ∃ M2 : zM, gX12_go S 306 a1 M' = some (v, M2) ∧ mI S M2 A' ∧ mX M' M2 := fun v h1 h2 =>
    ⟨v, (t, E, K, le, im, st, no, tp, fl), M, h1, hw, hc, fun _ _ _ => rfl, fun M' hm => ⟨_, h2 M' hm, mFr_I hw (th0 M' 0) hm, mFr_X (th0 M' 0)⟩⟩
  cases h : inD a1 with
  | false =>
    have hd : ∀ M : zM, gX11_isDays S a1 M = some (bI false) := fun M => by rw [e_isDays, h]
    refine same (-1) (by simp only [gX11_go, ↓bind_of (hd M), bIf, if_true]) (fun M' hm => ?_)
    unfold inD at h
    have mS' := hm.1
    by_cases c0 : a1 < 0
    · simp (disch := first | omega | simp only [qI2, qL2, qC2, qF2]) only [gX12_go, ↓mH mS', ↓if_pos c0]
    · rw [if_neg c0] at h
      by_cases c1 : (200 : Int32) < a1
      · simp (disch := first | omega | simp only [qI2, qL2, qC2, qF2]) only [gX12_go, ↓mH mS', ↓if_neg c0, ↓if_pos c1]
      · rw [if_neg c1] at h; cases h
  | true =>
    have hd : ∀ M : zM, gX11_isDays S a1 M = some (bI true) := fun M => by rw [e_isDays, h]
    have c0 : ¬ a1 < 0 := fun c => by unfold inD at h; rw [if_pos c] at h; cases h
    have c1 : ¬ (200 : Int32) < a1 := fun c => by unfold inD at h; rw [if_neg c0, if_pos c] at h; cases h
    obtain ⟨n, hn, rfl⟩ := inD_ex h
    have hday := wK.2.2.2.2.1
    have k0 : M.1 107 0 = nI (kDy K) := hK.1.1
    by_cases c2 : kDy K + n ≤ 9800
    · obtain ⟨M1, e1, e2, e3, e4⟩ := c_goesOf hS hR ht h03 hV wE
      have e5 := cOk_dr e2
      have hK2 : pSv (zsI M1 134 2 1).1 107 E K le := pSv_cg (fun a b k1 k2 => by rw [zsI_ne (by omega)]; exact e4 a b (by omega)) hK
      obtain ⟨M3, f1, f2, f3, f4, f5, f6⟩ := c_days2 (R := M1.2.2) (I := (zsI M1 134 2 1).1) (p := 107) (n := n) (mo := moDr E) (by decide) (by omega) n zfu 0 (kDy K) K le (zsI M1 134 2 1) rfl (fun _ _ _ => rfl) e5 hK2 (wfK_to wK (Nat.le_refl _)) (by omega) (by omega) (by unfold zfu; omega)
      have f1' : gX0_daysGo S 134 107 (nI n) (zsI M1 134 2 1) = some M3 := f1
      have D1 := cD hS e2.1.2.1
      have D3 := cD hS f6.1.2.1
      have N3 := cN hS f6.1.2.1
      have day3 : M3.1 107 0 = nI (kDy K + n) := by rw [f2.1.1, kDy_dys]
      have R3 : M3.2.2 = u2 M.2.2 134 0 (some t) := f4.trans e3
      have off : ∀ a b, ¬ (107 ≤ a ∧ a ≤ 115) → ¬ (a = 134 ∨ a = 168) → M3.1 a b = M.1 a b := fun a b k1 k2 => by rw [f5 a b (by omega), zsI_ne (by omega), e4 a b k2]
      have r03 : M3.2.2 0 3 = some t := f6.1.2.2.2.2
      have r04 : M3.2.2 0 4 = some (118 - t) := by rw [R3]; exact (u2_o (by decide)).trans h04
      have wK' : wfK E (dysS E (moDr E) n K) 9800 := wfK_to f3 (by rw [kDy_dys]; exact c2)
      have cc2 : nI (kDy K) + nI n ≤ (9800 : Int32) := by rw [nI_add]; exact nI_le c2 (by decide)
      by_cases c3 : n = 0
      · subst c3
        have c4 : nI 0 ≤ (0 : Int32) := by decide
        refine ⟨nI (kDy K + 0), (t, E, dysS E (moDr E) 0 K, le + smL E (moDr E) 0 K, im, st, no, tp, fl), M3, ?_, ⟨wE, wK', wim, wst, wno, wtp, wfl⟩, cIx_mk hc (fun a b k1 k2 k3 k4 => off a b k2 (by unfold cQ at k4; omega)) f6.1.2.1 r03 r04 f2 ⟨(off 182 1 (by decide) (by decide)).trans hst.1, fun j hj => ⟨fun p hp => (off 184 _ (by decide) (by decide)).trans ((hst.2 j hj).1 p hp), (off 184 _ (by decide) (by decide)).trans (hst.2 j hj).2⟩⟩, fun a b k => off a b (by omega) (by omega), ?_⟩
        · simp (disch := first | omega | simp only [qI2, qL2, qC2, qF2]) only [gX11_go, ↓bind_of (hd M), if_neg bIt, ↓D, ↓N, k0, ↓if_pos cc2, ↓gT, ↓bind_of e1, ↓D1, ↓bind_of f1', ↓if_pos c4, ↓D3, ↓N3, day3]
        · skip
          intro M' hm
          have hm2 : mIx S M' E K im st no tp fl := hm
          obtain ⟨mS', mE, mK, mim, mst, mno, mtp, mfl, mmd⟩ := id hm2
          refine ⟨_, ?_, mFr_I hw (th0 M' 0) hm, mFr_X (th0 M' 0)⟩
          have j0 := mK.1.1
          have stop : ∀ M2 : zM, M2.2.2 = M'.2.2 → M2.1 324 0 = nI (kDy K) → gX12_go_43 S zfu 306 (nI 0) 0 M2 = some (nI (kDy K + 0), M2) := fun M2 q1 q2 => by
            have hS2 : pMs S M2.2.2 := q1 ▸ mS'
            show gX12_go_43 S (999999 + 1) 306 (nI 0) 0 M2 = _
            simp (disch := first | omega | simp only [qI2, qL2, qC2, qF2]) only [gX12_go_43, ↓if_pos c4, ↓mH hS2, ↓mL hS2, q2]
            rfl
          simp (disch := first | omega | simp only [qI2, qL2, qC2, qF2]) only [gX12_go, ↓mH mS', ↓mL mS', ↓if_neg c0, ↓if_neg c1, zsI_ne, j0, ↓if_pos cc2, ↓if_pos c4]
          exact stop _ rfl ((zsI_ne (by omega)).trans j0)
      · have c4 : ¬ nI n ≤ (0 : Int32) := nI_nle (by omega) (by omega)
        refine ⟨nI (kDy K + n), (t, E, dysS E (moDr E) n K, le + smL E (moDr E) n K, im, (0, st.2), no, tp, fl), zsI M3 182 1 0, ?_, ⟨wE, wK', wim, ⟨Nat.zero_le _, fun j hj => absurd hj (Nat.not_lt_zero j)⟩, wno, wtp, wfl⟩, cIx_mk hc (fun a b k1 k2 k3 k4 => by rw [zsI_ne (by omega)]; exact off a b k2 (by unfold cQ at k4; omega)) f6.1.2.1 r03 r04 (pSv_cg (fun a b k1 k2 => zsI_ne (by omega)) f2) ⟨zsI_at _ _ _ _, fun j hj => absurd hj (Nat.not_lt_zero j)⟩, fun a b k => by rw [zsI_ne (by omega)]; exact off a b (by omega) (by omega), ?_⟩
        · simp (disch := first | omega | simp only [qI2, qL2, qC2, qF2]) only [gX11_go, ↓bind_of (hd M), if_neg bIt, ↓D, ↓N, k0, ↓if_pos cc2, ↓gT, ↓bind_of e1, ↓D1, ↓bind_of f1', ↓if_neg c4, ↓D3, gX8_clear, Option.bind_some, ↓N3, zsI_ne, day3]
        · skip
          intro M' hm
          have hm2 : mIx S M' E K im st no tp fl := hm
          obtain ⟨mS', mE, mK, mim, mst, mno, mtp, mfl, mmd⟩ := id hm2
          have j0 := mK.1.1
          have hM2 : ∀ a b, ¬ (a = 306 ∧ (b = 0 ∨ b = 46)) → (zsI (zsI M' 306 0 0) 306 46 0).1 a b = M'.1 a b := fun a b k => by rw [zsI_ne (by omega), zsI_ne (by omega)]
          obtain ⟨M4, g1, g2, g3⟩ := m_go43 (S := S) (M0 := zsI (zsI M' 306 0 0) 306 46 0) (n := n) (mo := moDr E) rfl (by omega) n zfu 0 (kDy K) K (zsI (zsI M' 306 0 0) 306 46 0) fr.refl ⟨mS', pME_cg (fun a b k1 k2 => hM2 a b (by omega)) mE, pMo_cg (fun b k1 k2 => hM2 306 b (by omega)) (mo_now wE mmd), wE, moN_ok wE⟩ (pMk_cg hP12 (fun a b k => hM2 a b (by unfold mS at k; omega)) mK) (wfK_to wK (Nat.le_refl _)) (by omega) (by omega) (by unfold zfu; omega)
          have g1' : gX12_go_43 S zfu 306 (nI n) 0 (zsI (zsI M' 306 0 0) 306 46 0) = some (nI (kDy K + n), M4) := g1
          have mS4 : pMs S M4.2.2 := g3.1 ▸ mS'
          have un : M4.1 306 46 = 0 := by rw [g3.2 306 46 (by unfold mW mS; omega), zsI_at]
          refine ⟨M4, ?_, mIx_mk hP12 hm2 (fun a b k1 k2 => ?_) mS4 g2 ⟨un, fun j hj => absurd hj (Nat.not_lt_zero j)⟩, ⟨g3.1, fun a b k => by rw [g3.2 a b (by unfold mW mS; omega), hM2 a b (by omega)]⟩⟩
          · simp (disch := first | omega | simp only [qI2, qL2, qC2, qF2]) only [gX12_go, ↓mH mS', ↓mL mS', ↓if_neg c0, ↓if_neg c1, zsI_ne, j0, ↓if_pos cc2, ↓if_neg c4, g1']
          · unfold mU mS at k2
            rw [g3.2 a b (by unfold mW mS; omega), hM2 a b (by omega)]
    · have cc2 : ¬ nI (kDy K) + nI n ≤ (9800 : Int32) := by rw [nI_add]; exact nI_ge (a := 9800) (b := kDy K + n) (by omega) (by omega)
      refine same (-1) (by simp (disch := first | omega | simp only [qI2, qL2, qC2, qF2]) only [gX11_go, ↓bind_of (hd M), if_neg bIt, ↓D, ↓N, k0, ↓if_neg cc2]) (fun M' hm => ?_)
      have mS' := hm.1
      have j0 := hm.2.2.1.1.1
      simp (disch := first | omega | simp only [qI2, qL2, qC2, qF2]) only [gX12_go, ↓mH mS', ↓mL mS', ↓if_neg c0, ↓if_neg c1, zsI_ne, j0, ↓if_neg cc2]
