/-! pure part 30: doneWhen, soon, out -/
def dwS (E : zEn) (mo : zMo) (w : Nat) : Nat → Nat → zKa → Int32
  | 0, _, _ => -2
  | k + 1, d, K => if kWt K w < eNd E w then dwS E mo w k (d + 1) (dayS E mo K) else nI d
def soS (E : zEn) (mo : zMo) (x : Int32) : Nat → Nat → zKa → Int32
  | 0, _, _ => -2
  | k + 1, d, K => if oI (kBy (dayS E mo K)) = x then nI d else soS E mo x k (d + 1) (dayS E mo K)
def ouS (E : zEn) (mo : zMo) (x : Int32) : Nat → Int32 → Int32 → zKa → Int32
  | 0, _, m, _ => m
  | k + 1, r, m, K => if oI (kBy (dayS E mo K)) = x then ouS E mo x k 0 (if m < 0 then 0 else m) (dayS E mo K) else ouS E mo x k (r + 1) (if m < r + 1 then r + 1 else m) (dayS E mo K)
theorem c_dw {S : List (Nat × Nat)} {M0 : zM} {t w : Nat} {E : zEn} {mo : zMo} (hw : w < eW E) : ∀ (k fu d B : Nat) (K : zKa) (le : Int32) (M : zM), cRun S M0 t E mo K le M → wfK E K B → B + k < 2 ^ 30 → d + k = 200 → k < fu →
    ∃ M' K' le', gX11_doneWhen_20 S fu 0 (nI w) (nI d) M = some (dwS E mo w k d K, M') ∧ cRun S M0 t E mo K' le' M' := by
  intro k
  induction k with
  | zero =>
    intro fu d B K le M hc wK hB hk hf
    obtain ⟨fu, rfl⟩ : ∃ f, fu = f + 1 := ⟨fu - 1, by omega⟩
    have hd : 200 ≤ d := by omega
    refine ⟨M, K, le, ?_, hc⟩
    simp (disch := first | omega | simp only [qI2, qL2, qC2, qF2]) only [gX11_doneWhen_20, li200, nI_leI, ↓if_pos hd]
    rfl
  | succ k ih =>
    intro fu d B K le M hc wK hB hk hf
    obtain ⟨fu, rfl⟩ : ∃ f, fu = f + 1 := ⟨fu - 1, by omega⟩
    obtain ⟨M1, a1, a2, a3⟩ := c_runDay hc wK (by omega)
    have hW5 := hc.1.2.2.2.1.2.2.2.1
    have hn9 := (hc.1.2.2.2.1.2.2.2.2.2.2.2.2.2.2.2.1 w hw).2
    have hk9 := wK.2.2.1 w (by omega)
    have T0 := pTs_of hc.1.1.1 hc.1.1.2.1 t (Or.inr hc.1.1.2.2.1)
    have D := cD hc.1.1.1 hc.1.1.2.1
    have T1 := cT hc.1.1.1 hc.1.1.2.1
    have F := tG T0
    have gT : ∀ (f : Nat → Option (Int32 × zM)), zgR S M 0 11 14 3 f = f t := fun f => zgR_of ((hc.1.1.1 0 (by decide)).trans rfl) hc.1.1.2.2.2.2 M f rfl
    have g1 : M.1 124 w = nI (kWt K w) := hc.2.1.2.2.2 w (by omega)
    have g2 : M.1 (t + 20) w = nI (eNd E w) := (hc.1.2.1.2.2.2.2.1 w hw).2.2.2
    have hb : ¬ 200 ≤ d := by omega
    have step : gX11_doneWhen_20 S (fu + 1) 0 (nI w) (nI d) M = (if kWt K w < eNd E w then gX11_doneWhen_20 S fu 0 (nI w) (nI (d + 1)) M1 else some (nI d, M)) := by
      simp (disch := first | omega | simp only [qI2, qL2, qC2, qF2]) only [gX11_doneWhen_20, li200, nI_leI, if_neg hb, ↓D, ↓T1, ↓F, ↓gT, g1, g2, ↓bind_of a1, nI_1, nI_ltI]
    rw [step]
    show ∃ M' K' le', _ = some (if kWt K w < eNd E w then dwS E mo w k (d + 1) (dayS E mo K) else nI d, M') ∧ _
    by_cases h : kWt K w < eNd E w
    · rw [if_pos h, if_pos h]
      exact ih fu (d + 1) (B + 1) _ _ M1 a2 a3 (by omega) (by omega) (by omega)
    · rw [if_neg h, if_neg h]
      exact ⟨M, K, le, rfl, hc⟩
theorem m_dw {S : List (Nat × Nat)} {M0 : zM} {w : Nat} {E : zEn} {mo : zMo} (hmo : mo.2.1 = false) (hw : w < eW E) : ∀ (k fu d B : Nat) (K : zKa) (M : zM), mRun S M0 E mo K M → wfK E K B → B + k < 2 ^ 30 → d + k = 200 → k < fu →
    ∃ M' K', gX12_doneWhen_23 S fu 306 (nI w) (nI d) M = some (dwS E mo w k d K, M') ∧ mRun S M0 E mo K' M' := by
  intro k
  induction k with
  | zero =>
    intro fu d B K M hc wK hB hk hf
    obtain ⟨fu, rfl⟩ : ∃ f, fu = f + 1 := ⟨fu - 1, by omega⟩
    have hd : 199 < d := by omega
    refine ⟨M, K, ?_, hc⟩
    simp (disch := first | omega | simp only [qI2, qL2, qC2, qF2]) only [gX12_doneWhen_23, li199, nI_ltI, ↓if_pos hd]
    rfl
  | succ k ih =>
    intro fu d B K M hc wK hB hk hf
    obtain ⟨fu, rfl⟩ : ∃ f, fu = f + 1 := ⟨fu - 1, by omega⟩
    obtain ⟨M1, a1, a2⟩ := m_runDay hc wK (by omega)
    rw [hmo] at a1
    have a1' : gX12_passes S 306 1 0 M = some M1 := a1
    have hW5 := hc.1.2.2.2.1.2.2.2.1
    have hn9 := (hc.1.2.2.2.1.2.2.2.2.2.2.2.2.2.2.2.1 w hw).2
    have hk9 := wK.2.2.1 w (by omega)
    have hS := hc.1.1
    have dn : gX12_isDone S 306 1 (nI w) M = some (if kWt K w < eNd E w then 0 else 1) := e_isDone (s := 1) hS (by decide) (by omega) (hc.2.1.2.2.2 w (by omega)) (hc.1.2.1.2.2.2.2.1 w hw).2.2.2 (by omega) (by omega) M rfl rfl
    have hb : ¬ 199 < d := by omega
    have step : gX12_doneWhen_23 S (fu + 1) 306 (nI w) (nI d) M = (if (if kWt K w < eNd E w then (0 : Int32) else 1) = 0 then gX12_doneWhen_23 S fu 306 (nI w) (nI (d + 1)) M1 else some (nI d, M)) := by
      simp (disch := first | omega | simp only [qI2, qL2, qC2, qF2]) only [gX12_doneWhen_23, li199, nI_ltI, if_neg hb, ↓mH hS, ↓bind_of dn, ↓bind_of a1', nI_1]
    rw [step]
    show ∃ M' K', _ = some (if kWt K w < eNd E w then dwS E mo w k (d + 1) (dayS E mo K) else nI d, M') ∧ _
    by_cases h : kWt K w < eNd E w
    · rw [if_pos h, if_pos h, if_pos rfl]
      exact ih fu (d + 1) (B + 1) _ M1 a2 (dayS_wf hc.1.2.2.2.1 hc.1.2.2.2.2 wK) (by omega) (by omega) (by omega)
    · rw [if_neg h, if_neg h, if_neg (by decide)]
      exact ⟨M, K, rfl, hc⟩
theorem c_so {S : List (Nat × Nat)} {M0 : zM} {t : Nat} {x : Int32} {E : zEn} {mo : zMo} : ∀ (k fu d B : Nat) (K : zKa) (le : Int32) (M : zM), cRun S M0 t E mo K le M → wfK E K B → B + k < 2 ^ 30 → d + k = 200 → k < fu →
    ∃ M' K' le', gX11_soon_20 S fu 0 x (nI d) M = some (soS E mo x k d K, M') ∧ cRun S M0 t E mo K' le' M' := by
  intro k
  induction k with
  | zero =>
    intro fu d B K le M hc wK hB hk hf
    obtain ⟨fu, rfl⟩ : ∃ f, fu = f + 1 := ⟨fu - 1, by omega⟩
    have hd : 200 ≤ d := by omega
    refine ⟨M, K, le, ?_, hc⟩
    simp (disch := first | omega | simp only [qI2, qL2, qC2, qF2]) only [gX11_soon_20, li200, nI_leI, ↓if_pos hd]
    rfl
  | succ k ih =>
    intro fu d B K le M hc wK hB hk hf
    obtain ⟨fu, rfl⟩ : ∃ f, fu = f + 1 := ⟨fu - 1, by omega⟩
    obtain ⟨M1, a1, a2, a3⟩ := c_runDay hc wK (by omega)
    have D := cD hc.1.1.1 hc.1.1.2.1
    have D1 := cD a2.1.1.1 a2.1.1.2.1
    have T1 := cT a2.1.1.1 a2.1.1.2.1
    have g1 := a2.2.1.1.2.2.2.2.2.2.2.2.2.1
    have hb : ¬ 200 ≤ d := by omega
    have step : gX11_soon_20 S (fu + 1) 0 x (nI d) M = (if oI (kBy (dayS E mo K)) = x then some (nI d, M1) else gX11_soon_20 S fu 0 x (nI (d + 1)) M1) := by
      simp (disch := first | omega | simp only [qI2, qL2, qC2, qF2]) only [gX11_soon_20, li200, nI_leI, if_neg hb, ↓D, ↓bind_of a1, ↓D1, ↓T1, g1, nI_1]
    rw [step]
    show ∃ M' K' le', _ = some (if oI (kBy (dayS E mo K)) = x then nI d else soS E mo x k (d + 1) (dayS E mo K), M') ∧ _
    by_cases h : oI (kBy (dayS E mo K)) = x
    · rw [if_pos h, if_pos h]
      exact ⟨M1, _, _, rfl, a2⟩
    · rw [if_neg h, if_neg h]
      exact ih fu (d + 1) (B + 1) _ _ M1 a2 a3 (by omega) (by omega) (by omega)
theorem m_so {S : List (Nat × Nat)} {M0 : zM} {x : Int32} {E : zEn} {mo : zMo} (hmo : mo.2.1 = false) : ∀ (k fu d B : Nat) (K : zKa) (M : zM), mRun S M0 E mo K M → wfK E K B → B + k < 2 ^ 30 → d + k = 200 → k < fu →
    ∃ M' K', gX12_soon_23 S fu 306 x (nI d) M = some (soS E mo x k d K, M') ∧ mRun S M0 E mo K' M' := by
  intro k
  induction k with
  | zero =>
    intro fu d B K M hc wK hB hk hf
    obtain ⟨fu, rfl⟩ : ∃ f, fu = f + 1 := ⟨fu - 1, by omega⟩
    have hd : 199 < d := by omega
    refine ⟨M, K, ?_, hc⟩
    simp (disch := first | omega | simp only [qI2, qL2, qC2, qF2]) only [gX12_soon_23, li199, nI_ltI, ↓if_pos hd]
    rfl
  | succ k ih =>
    intro fu d B K M hc wK hB hk hf
    obtain ⟨fu, rfl⟩ : ∃ f, fu = f + 1 := ⟨fu - 1, by omega⟩
    obtain ⟨M1, a1, a2⟩ := m_runDay hc wK (by omega)
    rw [hmo] at a1
    have a1' : gX12_passes S 306 1 0 M = some M1 := a1
    have hS := hc.1.1
    have hS1 := a2.1.1
    have g1 := a2.2.1.1.2.2.2.2.2.2.2
    have hb : ¬ 199 < d := by omega
    have step : gX12_soon_23 S (fu + 1) 306 x (nI d) M = (if oI (kBy (dayS E mo K)) = x then some (nI d, M1) else gX12_soon_23 S fu 306 x (nI (d + 1)) M1) := by
      simp (disch := first | omega | simp only [qI2, qL2, qC2, qF2]) only [gX12_soon_23, li199, nI_ltI, if_neg hb, ↓mH hS, ↓bind_of a1', ↓mH hS1, ↓mL hS1, g1, nI_1]
    rw [step]
    show ∃ M' K', _ = some (if oI (kBy (dayS E mo K)) = x then nI d else soS E mo x k (d + 1) (dayS E mo K), M') ∧ _
    by_cases h : oI (kBy (dayS E mo K)) = x
    · rw [if_pos h, if_pos h]
      exact ⟨M1, _, rfl, a2⟩
    · rw [if_neg h, if_neg h]
      exact ih fu (d + 1) (B + 1) _ M1 a2 (dayS_wf hc.1.2.2.2.1 hc.1.2.2.2.2 wK) (by omega) (by omega) (by omega)
theorem c_ou {S : List (Nat × Nat)} {M0 : zM} {t : Nat} {x : Int32} {E : zEn} {mo : zMo} : ∀ (k fu d B : Nat) (r m : Int32) (K : zKa) (le : Int32) (M : zM), cRun S M0 t E mo K le M → wfK E K B → B + k < 2 ^ 30 → d + k = 60 → k < fu →
    ∃ M' K' le', gX11_out_25 S fu 0 x r m (nI d) M = some (ouS E mo x k r m K, M') ∧ cRun S M0 t E mo K' le' M' := by
  intro k
  induction k with
  | zero =>
    intro fu d B r m K le M hc wK hB hk hf
    obtain ⟨fu, rfl⟩ : ∃ f, fu = f + 1 := ⟨fu - 1, by omega⟩
    have hd : 60 ≤ d := by omega
    refine ⟨M, K, le, ?_, hc⟩
    simp (disch := first | omega | simp only [qI2, qL2, qC2, qF2]) only [gX11_out_25, li60, nI_leI, ↓if_pos hd]
    rfl
  | succ k ih =>
    intro fu d B r m K le M hc wK hB hk hf
    obtain ⟨fu, rfl⟩ : ∃ f, fu = f + 1 := ⟨fu - 1, by omega⟩
    obtain ⟨M1, a1, a2, a3⟩ := c_runDay hc wK (by omega)
    have D := cD hc.1.1.1 hc.1.1.2.1
    have D1 := cD a2.1.1.1 a2.1.1.2.1
    have T1 := cT a2.1.1.1 a2.1.1.2.1
    have g1 := a2.2.1.1.2.2.2.2.2.2.2.2.2.1
    have hb : ¬ 60 ≤ d := by omega
    have step : gX11_out_25 S (fu + 1) 0 x r m (nI d) M = (if oI (kBy (dayS E mo K)) = x then gX11_out_25 S fu 0 x 0 (if m < 0 then 0 else m) (nI (d + 1)) M1 else gX11_out_25 S fu 0 x (r + 1) (if m < r + 1 then r + 1 else m) (nI (d + 1)) M1) := by
      simp (disch := first | omega | simp only [qI2, qL2, qC2, qF2]) only [gX11_out_25, li60, nI_leI, if_neg hb, ↓D, ↓bind_of a1, ↓D1, ↓T1, g1, nI_1]
    rw [step]
    show ∃ M' K' le', _ = some (if oI (kBy (dayS E mo K)) = x then ouS E mo x k 0 (if m < 0 then 0 else m) (dayS E mo K) else ouS E mo x k (r + 1) (if m < r + 1 then r + 1 else m) (dayS E mo K), M') ∧ _
    by_cases h : oI (kBy (dayS E mo K)) = x
    · rw [if_pos h, if_pos h]
      exact ih fu (d + 1) (B + 1) _ _ _ _ M1 a2 a3 (by omega) (by omega) (by omega)
    · rw [if_neg h, if_neg h]
      exact ih fu (d + 1) (B + 1) _ _ _ _ M1 a2 a3 (by omega) (by omega) (by omega)
theorem m_ou {S : List (Nat × Nat)} {M0 : zM} {x : Int32} {E : zEn} {mo : zMo} (hmo : mo.2.1 = false) : ∀ (k fu d B : Nat) (r m : Int32) (K : zKa) (M : zM), mRun S M0 E mo K M → wfK E K B → B + k < 2 ^ 30 → d + k = 60 → k < fu →
    ∃ M' K', gX12_out_28 S fu 306 x r m (nI d) M = some (ouS E mo x k r m K, M') ∧ mRun S M0 E mo K' M' := by
  intro k
  induction k with
  | zero =>
    intro fu d B r m K M hc wK hB hk hf
    obtain ⟨fu, rfl⟩ : ∃ f, fu = f + 1 := ⟨fu - 1, by omega⟩
    have hd : 60 ≤ d := by omega
    refine ⟨M, K, ?_, hc⟩
    simp (disch := first | omega | simp only [qI2, qL2, qC2, qF2]) only [gX12_out_28, li60, nI_leI, ↓if_pos hd]
    rfl
  | succ k ih =>
    intro fu d B r m K M hc wK hB hk hf
    obtain ⟨fu, rfl⟩ : ∃ f, fu = f + 1 := ⟨fu - 1, by omega⟩
    obtain ⟨M1, a1, a2⟩ := m_runDay hc wK (by omega)
    rw [hmo] at a1
    have a1' : gX12_passes S 306 1 0 M = some M1 := a1
    have hS := hc.1.1
    have hS1 := a2.1.1
    have g1 := a2.2.1.1.2.2.2.2.2.2.2
    have hb : ¬ 60 ≤ d := by omega
    have step : gX12_out_28 S (fu + 1) 306 x r m (nI d) M = (if oI (kBy (dayS E mo K)) = x then gX12_out_28 S fu 306 x 0 (if m < 0 then 0 else m) (nI (d + 1)) M1 else gX12_out_28 S fu 306 x (r + 1) (if m < r + 1 then r + 1 else m) (nI (d + 1)) M1) := by
      simp (disch := first | omega | simp only [qI2, qL2, qC2, qF2]) only [gX12_out_28, li60, nI_leI, if_neg hb, ↓mH hS, ↓bind_of a1', ↓mH hS1, ↓mL hS1, g1, nI_1]
    rw [step]
    show ∃ M' K', _ = some (if oI (kBy (dayS E mo K)) = x then ouS E mo x k 0 (if m < 0 then 0 else m) (dayS E mo K) else ouS E mo x k (r + 1) (if m < r + 1 then r + 1 else m) (dayS E mo K), M') ∧ _
    by_cases h : oI (kBy (dayS E mo K)) = x
    · rw [if_pos h, if_pos h]
      exact ih fu (d + 1) (B + 1) _ _ _ M1 a2 (dayS_wf hc.1.2.2.2.1 hc.1.2.2.2.2 wK) (by omega) (by omega) (by omega)
    · rw [if_neg h, if_neg h]
      exact ih fu (d + 1) (B + 1) _ _ _ M1 a2 (dayS_wf hc.1.2.2.2.1 hc.1.2.2.2.2 wK) (by omega) (by omega) (by omega)
theorem P_doneWhen : zP_doneWhen zInv := by
  intro S M hM a1
  refine zq (f := gX11_doneWhen S 0 a1) (g := gX12_doneWhen S 306 a1) ?_ M hM
  intro A M hw hc
  obtain ⟨t, E, K, le, im, st, no, tp, fl⟩ := A
  have hc2 : cIx S M t E K le im st no tp fl := hc
  have hw2 : aWx E K im st no tp fl := hw
  obtain ⟨⟨hS, hR, ht, h03, h04⟩, hV, hK, him, hst, hno, htp, hfl⟩ := hc2
  obtain ⟨wE, wK, wim, wst, wno, wtp, wfl⟩ := hw2
  have hT6 := wE.1
  have hP12 := wE.2.1
  have hW5 := wE.2.2.2.1
  have T0 := pTs_of hS hR t (Or.inr ht)
  have N0 := pSs_of hS hR 107 (by decide)
  have gT : ∀ (ρ : Type) (M' : zM) (f : Nat → Option ρ), M'.2.2 = M.2.2 → zgR S M' 0 11 14 3 f = f t := fun ρ M' f h => zgR_of ((hS 0 (by decide)).trans rfl) h03 M' f h
  have D := cD hS hR
  have hrc : ∀ (ρ : Type) (o : Option ρ), zrc S t 10 18 o = o := fun ρ o => zrc_ok T0.1
  have hp := e_hasWork (M := M) (x := a1) T0.1 hV.1.2.2.2.1
  have mp : ∀ M' : zM, mIx S M' E K im st no tp fl → gX12_isWork S 306 a1 (zsI M' 306 0 0) = some (bI (inR (eW E) a1)) := fun M' hm => e_isWork (M := zsI M' 306 0 0) hm.1 ((zsI_ne (by omega)).trans hm.2.1.1.2.2.2.1)
  cases h : inR (eW E) a1 with
  | false =>
    rw [h] at hp mp
    refine ⟨-1, M, ?_, cFr.refl' hR, ?_⟩
    · simp (disch := first | omega | simp only [qI2, qL2, qC2, qF2]) only [gX11_doneWhen, ↓gT, ↓hrc, ↓bind_of hp, bIf, if_true]
    · skip
      intro M' hm
      have hm2 : mIx S M' E K im st no tp fl := hm
      obtain ⟨mS', mE, mK, mim, mst, mno, mtp, mfl, mmd⟩ := id hm2
      refine ⟨_, ?_, th0 M' 0⟩
      simp (disch := first | omega | simp only [qI2, qL2, qC2, qF2]) only [gX12_doneWhen, ↓mH mS', ↓bind_of (mp M' hm), bIf, if_true]
  | true =>
    rw [h] at hp mp
    obtain ⟨j, hj, rfl⟩ := inR_ex (by omega) h
    obtain ⟨M1, e1, e2, e3⟩ := c_try (n := 0) hS hR ht h03 hV wE hK wK (by omega)
    obtain ⟨M2, K2, l2, d1, d2⟩ := c_dw (mo := moN E) hj 200 zfu 0 9800 K (le + 0) M1 e2 wK (by omega) (by omega) (by unfold zfu; omega)
    have e1' : gX11_tryDays S 0 0 M = some M1 := e1
    have d1' : gX11_doneWhen_20 S zfu 0 (nI j) 0 M1 = some (dwS E (moN E) j 200 0 K, M2) := d1
    refine ⟨dwS E (moN E) j 200 0 K, M2, ?_, cRun_fr hR d2, ?_⟩
    · simp (disch := first | omega | simp only [qI2, qL2, qC2, qF2]) only [gX11_doneWhen, ↓D, ↓gT, ↓hrc, ↓bind_of hp, if_neg bIt, ↓bind_of e1', d1']
    · skip
      intro M' hm
      have hm2 : mIx S M' E K im st no tp fl := hm
      obtain ⟨mS', mE, mK, mim, mst, mno, mtp, mfl, mmd⟩ := id hm2
      obtain ⟨M3, f1, f2, f3⟩ := m_begin wE hm2
      obtain ⟨M4, K4, g1, g2⟩ := m_dw (mo := moN E) rfl hj 200 zfu 0 9800 K M3 f2 wK (by omega) (by omega) (by unfold zfu; omega)
      have g1' : gX12_doneWhen_23 S zfu 306 (nI j) 0 M3 = some (dwS E (moN E) j 200 0 K, M4) := g1
      refine ⟨M4, ?_, g2.2.2⟩
      simp (disch := first | omega | simp only [qI2, qL2, qC2, qF2]) only [gX12_doneWhen, ↓mH mS', ↓bind_of (mp M' hm2), if_neg bIt, ↓bind_of f1, g1']
theorem P_soon : zP_soon zInv := by
  intro S M hM a1
  refine zq (f := gX11_soon S 0 a1) (g := gX12_soon S 306 a1) ?_ M hM
  intro A M hw hc
  obtain ⟨t, E, K, le, im, st, no, tp, fl⟩ := A
  have hc2 : cIx S M t E K le im st no tp fl := hc
  have hw2 : aWx E K im st no tp fl := hw
  obtain ⟨⟨hS, hR, ht, h03, h04⟩, hV, hK, him, hst, hno, htp, hfl⟩ := hc2
  obtain ⟨wE, wK, wim, wst, wno, wtp, wfl⟩ := hw2
  have hT6 := wE.1
  have hP12 := wE.2.1
  have hW5 := wE.2.2.2.1
  have T0 := pTs_of hS hR t (Or.inr ht)
  have N0 := pSs_of hS hR 107 (by decide)
  have gT : ∀ (ρ : Type) (M' : zM) (f : Nat → Option ρ), M'.2.2 = M.2.2 → zgR S M' 0 11 14 3 f = f t := fun ρ M' f h => zgR_of ((hS 0 (by decide)).trans rfl) h03 M' f h
  have D := cD hS hR
  have hrc : ∀ (ρ : Type) (o : Option ρ), zrc S t 10 18 o = o := fun ρ o => zrc_ok T0.1
  have hp := e_hasTrade (M := M) (x := a1) T0.1 hV.1.1
  have mp : ∀ M' : zM, mIx S M' E K im st no tp fl → gX12_isTrade S 306 a1 (zsI M' 306 0 0) = some (bI (inR (eT E) a1)) := fun M' hm => e_isTrade (M := zsI M' 306 0 0) hm.1 ((zsI_ne (by omega)).trans hm.2.1.1.1)
  cases h : inR (eT E) a1 with
  | false =>
    rw [h] at hp mp
    refine ⟨-1, M, ?_, cFr.refl' hR, ?_⟩
    · simp (disch := first | omega | simp only [qI2, qL2, qC2, qF2]) only [gX11_soon, ↓gT, ↓hrc, ↓bind_of hp, bIf, if_true]
    · skip
      intro M' hm
      have hm2 : mIx S M' E K im st no tp fl := hm
      obtain ⟨mS', mE, mK, mim, mst, mno, mtp, mfl, mmd⟩ := id hm2
      refine ⟨_, ?_, th0 M' 0⟩
      simp (disch := first | omega | simp only [qI2, qL2, qC2, qF2]) only [gX12_soon, ↓mH mS', ↓bind_of (mp M' hm), bIf, if_true]
  | true =>
    rw [h] at hp mp
    obtain ⟨j, hj, rfl⟩ := inR_ex (by omega) h
    obtain ⟨M1, e1, e2, e3⟩ := c_try (n := 0) hS hR ht h03 hV wE hK wK (by omega)
    obtain ⟨M2, K2, l2, d1, d2⟩ := c_so (x := nI j) (mo := moN E) 199 zfu 1 9800 K (le + 0) M1 e2 wK (by omega) (by omega) (by unfold zfu; omega)
    have e1' : gX11_tryDays S 0 0 M = some M1 := e1
    have d1' : gX11_soon_20 S zfu 0 (nI j) 1 M1 = some (soS E (moN E) (nI j) 199 1 K, M2) := d1
    refine ⟨soS E (moN E) (nI j) 199 1 K, M2, ?_, cRun_fr hR d2, ?_⟩
    · simp (disch := first | omega | simp only [qI2, qL2, qC2, qF2]) only [gX11_soon, ↓D, ↓gT, ↓hrc, ↓bind_of hp, if_neg bIt, ↓bind_of e1', d1']
    · skip
      intro M' hm
      have hm2 : mIx S M' E K im st no tp fl := hm
      obtain ⟨mS', mE, mK, mim, mst, mno, mtp, mfl, mmd⟩ := id hm2
      obtain ⟨M3, f1, f2, f3⟩ := m_begin wE hm2
      obtain ⟨M4, K4, g1, g2⟩ := m_so (x := nI j) (mo := moN E) rfl 199 zfu 1 9800 K M3 f2 wK (by omega) (by omega) (by unfold zfu; omega)
      have g1' : gX12_soon_23 S zfu 306 (nI j) 1 M3 = some (soS E (moN E) (nI j) 199 1 K, M4) := g1
      refine ⟨M4, ?_, g2.2.2⟩
      simp (disch := first | omega | simp only [qI2, qL2, qC2, qF2]) only [gX12_soon, ↓mH mS', ↓bind_of (mp M' hm2), if_neg bIt, ↓bind_of f1, g1']
theorem P_out : zP_out zInv := by
  intro S M hM a1
  refine zq (f := gX11_out S 0 a1) (g := gX12_out S 306 a1) ?_ M hM
  intro A M hw hc
  obtain ⟨t, E, K, le, im, st, no, tp, fl⟩ := A
  have hc2 : cIx S M t E K le im st no tp fl := hc
  have hw2 : aWx E K im st no tp fl := hw
  obtain ⟨⟨hS, hR, ht, h03, h04⟩, hV, hK, him, hst, hno, htp, hfl⟩ := hc2
  obtain ⟨wE, wK, wim, wst, wno, wtp, wfl⟩ := hw2
  have hT6 := wE.1
  have hP12 := wE.2.1
  have hW5 := wE.2.2.2.1
  have T0 := pTs_of hS hR t (Or.inr ht)
  have N0 := pSs_of hS hR 107 (by decide)
  have gT : ∀ (ρ : Type) (M' : zM) (f : Nat → Option ρ), M'.2.2 = M.2.2 → zgR S M' 0 11 14 3 f = f t := fun ρ M' f h => zgR_of ((hS 0 (by decide)).trans rfl) h03 M' f h
  have D := cD hS hR
  have hrc : ∀ (ρ : Type) (o : Option ρ), zrc S t 10 18 o = o := fun ρ o => zrc_ok T0.1
  have hp := e_hasTrade (M := M) (x := a1) T0.1 hV.1.1
  have mp : ∀ M' : zM, mIx S M' E K im st no tp fl → gX12_isTrade S 306 a1 (zsI M' 306 0 0) = some (bI (inR (eT E) a1)) := fun M' hm => e_isTrade (M := zsI M' 306 0 0) hm.1 ((zsI_ne (by omega)).trans hm.2.1.1.1)
  cases h : inR (eT E) a1 with
  | false =>
    rw [h] at hp mp
    refine ⟨-1, M, ?_, cFr.refl' hR, ?_⟩
    · simp (disch := first | omega | simp only [qI2, qL2, qC2, qF2]) only [gX11_out, ↓gT, ↓hrc, ↓bind_of hp, bIf, if_true]
    · skip
      intro M' hm
      have hm2 : mIx S M' E K im st no tp fl := hm
      obtain ⟨mS', mE, mK, mim, mst, mno, mtp, mfl, mmd⟩ := id hm2
      refine ⟨_, ?_, th0 M' 0⟩
      simp (disch := first | omega | simp only [qI2, qL2, qC2, qF2]) only [gX12_out, ↓mH mS', ↓bind_of (mp M' hm), bIf, if_true]
  | true =>
    rw [h] at hp mp
    obtain ⟨j, hj, rfl⟩ := inR_ex (by omega) h
    obtain ⟨M1, e1, e2, e3⟩ := c_try (n := 0) hS hR ht h03 hV wE hK wK (by omega)
    obtain ⟨M2, K2, l2, d1, d2⟩ := c_ou (x := nI j) (mo := moN E) 60 zfu 0 9800 0 0 K (le + 0) M1 e2 wK (by omega) (by omega) (by unfold zfu; omega)
    have e1' : gX11_tryDays S 0 0 M = some M1 := e1
    have d1' : gX11_out_25 S zfu 0 (nI j) 0 0 0 M1 = some (ouS E (moN E) (nI j) 60 0 0 K, M2) := d1
    refine ⟨ouS E (moN E) (nI j) 60 0 0 K, M2, ?_, cRun_fr hR d2, ?_⟩
    · simp (disch := first | omega | simp only [qI2, qL2, qC2, qF2]) only [gX11_out, ↓D, ↓gT, ↓hrc, ↓bind_of hp, if_neg bIt, ↓bind_of e1', d1']
    · skip
      intro M' hm
      have hm2 : mIx S M' E K im st no tp fl := hm
      obtain ⟨mS', mE, mK, mim, mst, mno, mtp, mfl, mmd⟩ := id hm2
      obtain ⟨M3, f1, f2, f3⟩ := m_begin wE hm2
      obtain ⟨M4, K4, g1, g2⟩ := m_ou (x := nI j) (mo := moN E) rfl 60 zfu 0 9800 0 0 K M3 f2 wK (by omega) (by omega) (by unfold zfu; omega)
      have g1' : gX12_out_28 S zfu 306 (nI j) 0 0 0 M3 = some (ouS E (moN E) (nI j) 60 0 0 K, M4) := g1
      refine ⟨M4, ?_, g2.2.2⟩
      simp (disch := first | omega | simp only [qI2, qL2, qC2, qF2]) only [gX12_out, ↓mH mS', ↓bind_of (mp M' hm2), if_neg bIt, ↓bind_of f1, g1']
