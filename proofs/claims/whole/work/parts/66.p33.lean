/-! pure part 33: chance -/
def setNu (K : zKa) (x : Int32) : zKa := ((kDy K, kNx K, x, kMi K, kDa K, kLa K), K.2)
def chS (E : zEn) (mo : zMo) (w n : Nat) (K : zKa) : Nat → Int32 → Nat → Nat
  | 0, _, f => f
  | k + 1, x, f => chS E mo w n K k (kNu (dysS E mo n (setNu K x))) (if kWt (dysS E mo n (setNu K x)) w < eNd E w then f else f + 1)
theorem wfK_nu {E : zEn} {K : zKa} {B : Nat} {x : Int32} (h : wfK E K B) : wfK E (setNu K x) B := h
theorem pSv_nu {I : zM} {p : Nat} {E : zEn} {K : zKa} {le x : Int32} (h : pSv I.1 p E K le) : pSv (zsI I p 2 x).1 p E (setNu K x) le := by
  obtain ⟨⟨v0, v1, v2, v3, v4, v5, v6, v7, v8, v9, v10⟩, vl, vk, vw⟩ := h
  have e : ∀ j, j ≠ 2 → (zsI I p 2 x).1 p j = I.1 p j := fun j hj => zsI_ne (by omega)
  exact ⟨⟨(e 0 (by omega)).trans v0, (e 1 (by omega)).trans v1, zsI_at _ _ _ _, (e 3 (by omega)).trans v3, (e 4 (by omega)).trans v4, (e 5 (by omega)).trans v5, (e 6 (by omega)).trans v6, (e 7 (by omega)).trans v7, (e 8 (by omega)).trans v8, (e 9 (by omega)).trans v9, (e 10 (by omega)).trans v10⟩, fun i hi => (zsI_ne (by omega)).trans (vl i hi), fun i hi => ⟨(zsI_ne (by omega)).trans (vk i hi).1, (zsI_ne (by omega)).trans (vk i hi).2⟩, fun w hw => (zsI_ne (by omega)).trans (vw w hw)⟩
theorem pMk_nu {I : zM} {E : zEn} {K : zKa} {x : Int32} (h : pMk I.1 1 E K) : pMk (zsI I 325 1 x).1 1 E (setNu K x) := by
  obtain ⟨⟨v0, v1, v2, v3, v4, v5, v6, v7⟩, vk, vl, vw⟩ := h
  exact ⟨⟨(zsI_ne (by omega)).trans v0, zsI_at _ _ _ _, (zsI_ne (by omega)).trans v2, (zsI_ne (by omega)).trans v3, (zsI_ne (by omega)).trans v4, (zsI_ne (by omega)).trans v5, (zsI_ne (by omega)).trans v6, (zsI_ne (by omega)).trans v7⟩, fun t ht => ⟨(zsI_ne (by omega)).trans (vk t ht).1, (zsI_ne (by omega)).trans (vk t ht).2⟩, fun p hp => (zsI_ne (by omega)).trans (vl p hp), fun w hw => (zsI_ne (by omega)).trans (vw w hw)⟩
theorem c_ch {S : List (Nat × Nat)} {M0 : zM} {t w n : Nat} {E : zEn} {K : zKa} {le : Int32} (hK : pSv M0.1 107 E K le) (wK : wfK E K 9800) (hw : w < eW E) (hn : n ≤ 99) : ∀ (k fu d f : Nat) (x : Int32) (M : zM), cOk S M.2.2 M.1 t E (moDr E) → M.2.2 = u2 M0.2.2 134 0 (some t) → (∀ a b, ¬ (a = 134 ∨ a = 168 ∨ (116 ≤ a ∧ a ≤ 124)) → M.1 a b = M0.1 a b) → d + k = 10 → f + k ≤ 20 → k < fu →
    ∃ M', gX11_chance_56 S fu 0 (nI n) (nI w) x (nI f) (nI d) M = some (nI (chS E (moDr E) w n K k x f), M') ∧ M'.2.2 = u2 M0.2.2 134 0 (some t) ∧ (∀ a b, ¬ (a = 134 ∨ a = 168 ∨ (116 ≤ a ∧ a ≤ 124)) → M'.1 a b = M0.1 a b) := by
  intro k
  induction k with
  | zero =>
    intro fu d f x M hc hR hI hk hff hf
    obtain ⟨fu, rfl⟩ : ∃ f, fu = f + 1 := ⟨fu - 1, by omega⟩
    have hd : 10 ≤ d := by omega
    refine ⟨M, ?_, hR, hI⟩
    simp (disch := first | omega | simp only [qI2, qL2, qC2, qF2]) only [gX11_chance_56, li10, nI_leI, ↓if_pos hd]
    rfl
  | succ k ih =>
    intro fu d f x M hc hR hI hk hff hf
    obtain ⟨fu, rfl⟩ : ∃ f, fu = f + 1 := ⟨fu - 1, by omega⟩
    obtain ⟨⟨hS, h2, ht, h134, h03⟩, -⟩ := id hc
    have hP12 := hc.2.2.2.1.2.1
    have hW5 := hc.2.2.2.1.2.2.2.1
    obtain ⟨M3, f1, f2, f3, f4⟩ := c_copy (M := M) (p := 116) (p' := 107) (pSs_of hS h2 116 (by decide)) (pSs_of hS h2 107 (by decide)) (by omega) hP12 (pSv_cg (fun a b k1 k2 => hI a b (by omega)) hK)
    have R3 : M3.2.2 = M.2.2 := by rw [f2]
    have c5 : cOk S (zsI M3 116 2 x).2.2 (zsI M3 116 2 x).1 t E (moDr E) := (show (zsI M3 116 2 x).2.2 = M.2.2 from R3) ▸ cOk_cg (fun a b k => by rw [zsI_ne (by omega)]; exact f4 a b (by omega)) hc
    obtain ⟨M8, g1, g2, g3, g4, g5, g6⟩ := c_days2 (R := M3.2.2) (I := (zsI M3 116 2 x).1) (p := 116) (n := n) (mo := moDr E) (by decide) (by omega) n zfu 0 9800 (setNu K x) le (zsI M3 116 2 x) rfl (fun _ _ _ => rfl) c5 (pSv_nu f3) (wfK_nu wK) (by omega) (by omega) (by unfold zfu; omega)
    have g1' : gX0_daysGo S 134 116 (nI n) (zsI M3 116 2 x) = some M8 := g1
    have off : ∀ a b, ¬ (a = 134 ∨ a = 168 ∨ (116 ≤ a ∧ a ≤ 124)) → M8.1 a b = M0.1 a b := fun a b q => by rw [g5 a b (by omega), zsI_ne (by omega), f4 a b (by omega), hI a b q]
    have D := cD hS h2
    have N := cN hS h2
    have T := cT hS h2
    have D3 := cD hS c5.1.2.1
    have T3 := cT hS c5.1.2.1
    have D8 := cD hS g6.1.2.1
    have T8 := cT hS g6.1.2.1
    have T0 := pTs_of hS g6.1.2.1 t (Or.inr ht)
    have F8 := tG T0
    have gT8 : ∀ (f : Nat → Option (Int32 × zM)), zgR S M8 0 11 14 3 f = f t := fun f => zgR_of ((hS 0 (by decide)).trans rfl) g6.1.2.2.2.2 M8 f rfl
    have u1 : M8.1 124 w = nI (kWt (dysS E (moDr E) n (setNu K x)) w) := g2.2.2.2 w (by omega)
    have u2 : M8.1 (t + 20) w = nI (eNd E w) := (g6.2.1.2.2.2.2.1 w hw).2.2.2
    have u3 : M8.1 116 2 = kNu (dysS E (moDr E) n (setNu K x)) := g2.1.2.2.1
    have hn9 := (hc.2.2.2.1.2.2.2.2.2.2.2.2.2.2.2.1 w hw).2
    have hk9 := g3.2.2.1 w (by omega)
    have hb : ¬ 10 ≤ d := by omega
    have step : gX11_chance_56 S (fu + 1) 0 (nI n) (nI w) x (nI f) (nI d) M = (if kWt (dysS E (moDr E) n (setNu K x)) w < eNd E w then gX11_chance_56 S fu 0 (nI n) (nI w) (kNu (dysS E (moDr E) n (setNu K x))) (nI f) (nI (d + 1)) M8 else gX11_chance_56 S fu 0 (nI n) (nI w) (kNu (dysS E (moDr E) n (setNu K x))) (nI (f + 1)) (nI (d + 1)) M8) := by
      simp (disch := first | omega | simp only [qI2, qL2, qC2, qF2]) only [gX11_chance_56, li10, nI_leI, if_neg hb, ↓D, ↓N, ↓T, ↓bind_of f1, ↓D3, ↓T3, ↓bind_of g1', ↓D8, ↓T8, ↓gT8, ↓F8, u1, u2, u3, nI_1, nI_ltI]
    rw [step]
    show ∃ M', _ = some (nI (chS E (moDr E) w n K k (kNu (dysS E (moDr E) n (setNu K x))) (if kWt (dysS E (moDr E) n (setNu K x)) w < eNd E w then f else f + 1)), M') ∧ _
    by_cases h : kWt (dysS E (moDr E) n (setNu K x)) w < eNd E w
    · rw [if_pos h, if_pos h]
      exact ih fu (d + 1) f _ M8 g6 (g4.trans (R3.trans hR)) off (by omega) (by omega) (by omega)
    · rw [if_neg h, if_neg h]
      exact ih fu (d + 1) (f + 1) _ M8 g6 (g4.trans (R3.trans hR)) off (by omega) (by omega) (by omega)
theorem m_ch63 {S : List (Nat × Nat)} {M0 : zM} {w n : Nat} {E : zEn} {k39 : Nat → Int32 → Int32 → Int32 → Int32 → Int32 → zM → Option (Int32 × zM)} {x5 x6 : Int32} (hw : w < eW E) (hn : n < 2 ^ 30) :
    ∀ (k fu i B : Nat) (K : zKa) (M : zM), mRun S M0 E (moDr E) K M → wfK E K B → B + k < 2 ^ 30 → i + k = n → k < fu →
    ∃ M', gX12_chance_63 S k39 fu 306 (nI n) (nI w) x5 x6 (nI i) M = (if kWt (dysS E (moDr E) k K) w < eNd E w then k39 306 (nI n) (nI w) (kNu (dysS E (moDr E) k K)) (x5 + 0) (x6 + 1) M' else k39 306 (nI n) (nI w) (kNu (dysS E (moDr E) k K)) (x5 + 1) (x6 + 1) M') ∧ mRun S M0 E (moDr E) (dysS E (moDr E) k K) M' := by
  intro k
  induction k with
  | zero =>
    intro fu i B K M hm wK hB hk hf
    obtain ⟨fu, rfl⟩ : ∃ f, fu = f + 1 := ⟨fu - 1, by omega⟩
    refine ⟨M, ?_, hm⟩
    have hb : n ≤ i := by omega
    have hS := hm.1.1
    have hW5 := hm.1.2.2.2.1.2.2.2.1
    have hn9 := (hm.1.2.2.2.1.2.2.2.2.2.2.2.2.2.2.2.1 w hw).2
    have hk9 := wK.2.2.1 w (by omega)
    have dn : gX12_isDone S 306 1 (nI w) M = some (if kWt K w < eNd E w then 0 else 1) := e_isDone (s := 1) hS (by decide) (by omega) (hm.2.1.2.2.2 w (by omega)) (hm.1.2.1.2.2.2.2.1 w hw).2.2.2 (by omega) (by omega) M rfl rfl
    have u3 := hm.2.1.1.2.1
    simp (disch := first | omega | simp only [qI2, qL2, qC2, qF2]) only [gX12_chance_63, nI_leI, ↓if_pos hb, ↓mH hS, ↓mL hS, ↓bind_of dn, u3]
    show (if (if kWt K w < eNd E w then (0 : Int32) else 1) = 0 then _ else _) = (if kWt K w < eNd E w then _ else _)
    by_cases h : kWt K w < eNd E w
    · rw [if_pos h, if_pos h, if_pos rfl]; rfl
    · rw [if_neg h, if_neg h, if_neg (by decide)]; rfl
  | succ k ih =>
    intro fu i B K M hm wK hB hk hf
    obtain ⟨fu, rfl⟩ : ∃ f, fu = f + 1 := ⟨fu - 1, by omega⟩
    obtain ⟨M1, a1, a2⟩ := m_runDay hm wK (by omega)
    have a1' : gX12_passes S 306 1 1 M = some M1 := a1
    obtain ⟨M', b1, b2⟩ := ih fu (i + 1) (B + 1) (dayS E (moDr E) K) M1 a2 (dayS_wf hm.1.2.2.2.1 hm.1.2.2.2.2 wK) (by omega) (by omega) (by omega)
    refine ⟨M', ?_, b2⟩
    have hb : ¬ n ≤ i := by omega
    have hS := hm.1.1
    simp (disch := first | omega | simp only [qI2, qL2, qC2, qF2]) only [gX12_chance_63, nI_leI, if_neg hb, ↓mH hS, ↓bind_of a1', nI_1]
    exact b1
theorem m_ch {S : List (Nat × Nat)} {M0 : zM} {w n : Nat} {E : zEn} {K : zKa} (mS' : pMs S M0.2.2) (mE : pME M0.1 E) (mmd : mMd M0.1) (wE : wfE E) (hK : pMk M0.1 0 E K) (wK : wfK E K 9800) (hw : w < eW E) (hn : n ≤ 99) : ∀ (k fu d f : Nat) (x : Int32) (M : zM), fr mQ M0 M → d + k = 10 → f + k ≤ 20 → k < fu →
    ∃ M', gX12_chance_39 S fu 306 (nI n) (nI w) x (nI f) (nI d) M = some (nI (chS E (moDr E) w n K k x f), M') ∧ fr mQ M0 M' := by
  have hP12 := wE.2.1
  intro k
  induction k with
  | zero =>
    intro fu d f x M hf0 hk hff hf
    obtain ⟨fu, rfl⟩ : ∃ f, fu = f + 1 := ⟨fu - 1, by omega⟩
    have hd : 10 ≤ d := by omega
    refine ⟨M, ?_, hf0⟩
    simp (disch := first | omega | simp only [qI2, qL2, qC2, qF2]) only [gX12_chance_39, li10, nI_leI, ↓if_pos hd]
    rfl
  | succ k ih =>
    intro fu d f x M hf0 hk hff hf
    obtain ⟨fu, rfl⟩ : ∃ f, fu = f + 1 := ⟨fu - 1, by omega⟩
    have hS : pMs S M.2.2 := hf0.1 ▸ mS'
    obtain ⟨M3, e1, e2, e3⟩ := m_copies (M := M) (to := 1) (as := 0) hS (by decide) (by decide) (by decide) hP12 (pMk_cg hP12 (fun a b q => hf0.2 a b (by unfold mS at q; unfold mQ; omega)) hK)
    have e1' : gX12_copies S 306 1 0 M = some M3 := e1
    have f3 : fr mQ M0 M3 := hf0.trans (e3.mono (fun _ _ => mS_Q))
    have f4 : fr mQ M0 (zsI M3 325 1 x) := f3.sI (by unfold mQ; omega)
    have hS3 : pMs S M3.2.2 := f3.1 ▸ mS'
    have m4 : mRun S M0 E (moDr E) (setNu K x) (zsI M3 325 1 x) := ⟨⟨hS3, pME_cg (fun a b k1 k2 => f4.2 a b (by unfold mQ; omega)) mE, pMo_cg (fun b k1 k2 => by
      by_cases q : b = 50
      · rw [zsI_ne (by omega), e3.2 306 b (by unfold mS; omega)]
      · rw [zsI_ne (by omega), e3.2 306 b (by unfold mS; omega)]) (show pMo M.1 E (moDr E) from mo_now wE ⟨(hf0.2 306 47 (by unfold mQ; omega)).trans mmd.1, (hf0.2 306 48 (by unfold mQ; omega)).trans mmd.2.1, (hf0.2 306 49 (by unfold mQ; omega)).trans mmd.2.2⟩), wE, moN_ok wE⟩, pMk_nu e2, f4⟩
    obtain ⟨M5, g1, g2⟩ := m_ch63 (S := S) (M0 := M0) (k39 := gX12_chance_39 S fu) (x5 := nI f) (x6 := nI d) hw (show n < 2 ^ 30 by omega) n zfu 0 9800 (setNu K x) (zsI M3 325 1 x) m4 (wfK_nu wK) (by omega) (by omega) (by unfold zfu; omega)
    have g1' : gX12_chance_63 S (gX12_chance_39 S fu) zfu 306 (nI n) (nI w) (nI f) (nI d) 0 (zsI M3 325 1 x) = _ := g1
    have hb : ¬ 10 ≤ d := by omega
    have step : gX12_chance_39 S (fu + 1) 306 (nI n) (nI w) x (nI f) (nI d) M = gX12_chance_63 S (gX12_chance_39 S fu) zfu 306 (nI n) (nI w) (nI f) (nI d) 0 (zsI M3 325 1 x) := by
      simp (disch := first | omega | simp only [qI2, qL2, qC2, qF2]) only [gX12_chance_39, li10, nI_leI, if_neg hb, ↓mH hS, ↓bind_of e1', ↓mH hS3, ↓mL hS3]
    rw [step, g1']
    show ∃ M', _ = some (nI (chS E (moDr E) w n K k (kNu (dysS E (moDr E) n (setNu K x))) (if kWt (dysS E (moDr E) n (setNu K x)) w < eNd E w then f else f + 1)), M') ∧ _
    by_cases h : kWt (dysS E (moDr E) n (setNu K x)) w < eNd E w
    · rw [if_pos h, if_pos h, show nI f + 0 = nI f from Int32.add_zero _, nI_1]
      exact ih fu (d + 1) f _ M5 g2.2.2 (by omega) (by omega) (by omega)
    · rw [if_neg h, if_neg h, nI_1, nI_1]
      exact ih fu (d + 1) (f + 1) _ M5 g2.2.2 (by omega) (by omega) (by omega)
theorem i01 {x : Int32} (h : x < 0) : x < 1 := by
  rw [Int32.lt_iff_toInt_lt] at h ⊢
  have e1 : (0 : Int32).toInt = 0 := by decide
  have e2 : (1 : Int32).toInt = 1 := by decide
  omega
theorem P_chance : zP_chance zInv := by
  intro S M hM a1 a2 a3
  refine zq (f := gX11_chance S 0 a1 a2 a3) (g := gX12_chance S 306 a1 a2 a3) ?_ M hM
  intro A M hw hc
  obtain ⟨t, E, K, le, im, st, no, tp, fl⟩ := A
  have hc2 : cIx S M t E K le im st no tp fl := hc
  have hw2 : aWx E K im st no tp fl := hw
  obtain ⟨⟨hS, hR, ht, h03, h04⟩, hV, hK, him, hst, hno, htp, hfl⟩ := hc2
  obtain ⟨wE, wK, wim, wst, wno, wtp, wfl⟩ := hw2
  have hT6 := wE.1
  have hP12 := wE.2.1
  have hW5 := wE.2.2.2.1
  have T0 := pTs_of hS hR t (Or.inr ht)
  have N0 := pSs_of hS hR 107 (by decide)
  have gT : ∀ (ρ : Type) (M' : zM) (f : Nat → Option ρ), M'.2.2 = M.2.2 → zgR S M' 0 11 14 3 f = f t := fun ρ M' f h => zgR_of ((hS 0 (by decide)).trans rfl) h03 M' f h
  have D := cD hS hR
  have hrc : ∀ (ρ : Type) (o : Option ρ), zrc S t 10 18 o = o := fun ρ o => zrc_ok T0.1
  by_cases c0 : a1 < 0
  · refine ⟨-1, M, ?_, cFr.refl' hR, ?_⟩
    · simp only [gX11_chance, ↓if_pos c0]
    · skip
      intro M' hm
      have hm2 : mIx S M' E K im st no tp fl := hm
      obtain ⟨mS', mE, mK, mim, mst, mno, mtp, mfl, mmd⟩ := id hm2
      refine ⟨_, ?_, th0 M' 0⟩
      simp (disch := first | omega | simp only [qI2, qL2, qC2, qF2]) only [gX12_chance, ↓mH mS', ↓if_pos c0]
  by_cases c1 : a2 < (1 : Int32)
  · refine ⟨-1, M, ?_, cFr.refl' hR, ?_⟩
    · simp only [gX11_chance, ↓if_neg c0, ↓if_pos c1]
    · skip
      intro M' hm
      have hm2 : mIx S M' E K im st no tp fl := hm
      obtain ⟨mS', mE, mK, mim, mst, mno, mtp, mfl, mmd⟩ := id hm2
      refine ⟨_, ?_, th0 M' 0⟩
      simp (disch := first | omega | simp only [qI2, qL2, qC2, qF2]) only [gX12_chance, ↓mH mS', ↓if_neg c0, ↓if_pos c1]
  by_cases c2 : (99 : Int32) < a2
  · refine ⟨-1, M, ?_, cFr.refl' hR, ?_⟩
    · simp only [gX11_chance, ↓if_neg c0, ↓if_neg c1, ↓if_pos c2]
    · skip
      intro M' hm
      have hm2 : mIx S M' E K im st no tp fl := hm
      obtain ⟨mS', mE, mK, mim, mst, mno, mtp, mfl, mmd⟩ := id hm2
      refine ⟨_, ?_, th0 M' 0⟩
      simp (disch := first | omega | simp only [qI2, qL2, qC2, qF2]) only [gX12_chance, ↓mH mS', ↓if_neg c0, ↓if_neg c1, ↓if_pos c2]
  have hp := e_hasWork (M := M) (x := a3) T0.1 hV.1.2.2.2.1
  have mp : ∀ M' : zM, mIx S M' E K im st no tp fl → gX12_isWork S 306 a3 (zsI M' 306 0 0) = some (bI (inR (eW E) a3)) := fun M' hm => e_isWork (M := zsI M' 306 0 0) hm.1 ((zsI_ne (by omega)).trans hm.2.1.1.2.2.2.1)
  cases h : inR (eW E) a3 with
  | false =>
    rw [h] at hp mp
    refine ⟨-1, M, ?_, cFr.refl' hR, ?_⟩
    · simp (disch := first | omega | simp only [qI2, qL2, qC2, qF2]) only [gX11_chance, ↓if_neg c0, ↓if_neg c1, ↓if_neg c2, ↓gT, ↓hrc, ↓bind_of hp, bIf, if_true]
    · skip
      intro M' hm
      have hm2 : mIx S M' E K im st no tp fl := hm
      obtain ⟨mS', mE, mK, mim, mst, mno, mtp, mfl, mmd⟩ := id hm2
      refine ⟨_, ?_, th0 M' 0⟩
      simp (disch := first | omega | simp only [qI2, qL2, qC2, qF2]) only [gX12_chance, ↓mH mS', ↓if_neg c0, ↓if_neg c1, ↓if_neg c2, ↓bind_of (mp M' hm), bIf, if_true]
  | true =>
    rw [h] at hp mp
    obtain ⟨w, hw, rfl⟩ := inR_ex (by omega) h
    obtain ⟨n, hn, rfl⟩ := nI_of2 (x := a2) (M := 99) (n := 99) (by decide) (fun q => c1 (i01 q)) (Int32.not_lt.mp c2)
    obtain ⟨M1, e1, e2, e3, e4⟩ := c_goesOf hS hR ht h03 hV wE
    have e5 := cOk_dr e2
    have D1 := cD hS e2.1.2.1
    obtain ⟨M3, f1, f2, f3⟩ := c_ch (S := S) (M0 := M) (t := t) hK wK hw hn 10 zfu 0 0 a1 (zsI M1 134 2 1) e5 e3 (fun a b q => by rw [zsI_ne (by omega)]; exact e4 a b (by omega)) (by omega) (by omega) (by unfold zfu; omega)
    have f1' : gX11_chance_56 S zfu 0 (nI n) (nI w) a1 0 0 (zsI M1 134 2 1) = _ := f1
    refine ⟨nI (chS E (moDr E) w n K 10 a1 0), M3, ?_, cFr_of hR f2 (fun a b q => f3 a b (by unfold cQ at q; omega)), ?_⟩
    · simp (disch := first | omega | simp only [qI2, qL2, qC2, qF2]) only [gX11_chance, ↓if_neg c0, ↓if_neg c1, ↓if_neg c2, ↓D, ↓gT, ↓hrc, ↓bind_of hp, if_neg bIt, ↓bind_of e1, ↓D1, f1']
    · skip
      intro M' hm
      have hm2 : mIx S M' E K im st no tp fl := hm
      obtain ⟨mS', mE, mK, mim, mst, mno, mtp, mfl, mmd⟩ := id hm2
      obtain ⟨M4, g1, g2⟩ := m_ch (S := S) (M0 := M') mS' mE mmd wE mK wK hw hn 10 zfu 0 0 a1 (zsI M' 306 0 0) (th0 M' 0) (by omega) (by omega) (by unfold zfu; omega)
      have g1' : gX12_chance_39 S zfu 306 (nI n) (nI w) a1 0 0 (zsI M' 306 0 0) = _ := g1
      refine ⟨M4, ?_, g2⟩
      simp (disch := first | omega | simp only [qI2, qL2, qC2, qF2]) only [gX12_chance, ↓mH mS', ↓if_neg c0, ↓if_neg c1, ↓if_neg c2, ↓bind_of (mp M' hm2), if_neg bIt, g1']
