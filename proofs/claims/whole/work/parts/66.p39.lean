/-! pure part 39: even, rare -/
def evS (W : Nat → Nat) (T tr : Nat) : Nat → Nat → Int32
  | 0, _ => 0
  | k + 1, m => if nI m &&& (nI tr ^^^ (-1 : Int32)) = 0 then (if 2 * sR (gB W m) T 0 = sR (gB W tr) T 0 then 1 else evS W T tr k (m + 1)) else evS W T tr k (m + 1)
theorem c_ev8 {S : List (Nat × Nat)} {M : zM} {T tr : Nat} {W : Nat → Nat} (hS : zShp S) (hR : pRf M.2.2) (hT : T ≤ 6) (htr : tr < 2 ^ T) (hW : ∀ i, i < T → M.1 191 i = nI (W i)) (hW12 : ∀ i, W i ≤ 12) : ∀ (k fu m : Nat), m + k = tr + 1 → k < fu →
    gX6_canHalve_8 S fu 185 (nI tr) (nI (sR (gB W tr) T 0)) (nI m) M = some (evS W T tr k m) := by
  have D := cD hS hR
  have h64 : 2 ^ T ≤ 64 := Nat.pow_le_pow_right (n := 2) (j := 6) (by decide) hT
  have hA := Nat.le_trans (sR_le (gB_le hW12 (m := tr)) T 0) (Nat.mul_le_mul_right 12 hT)
  intro k
  induction k with
  | zero =>
    intro fu m hk hf
    obtain ⟨fu, rfl⟩ : ∃ f, fu = f + 1 := ⟨fu - 1, by omega⟩
    have hb : tr < m := by omega
    simp (disch := first | omega | simp only [qI2, qL2, qC2, qF2]) only [gX6_canHalve_8, nI_ltI, ↓if_pos hb]
    rfl
  | succ k ih =>
    intro fu m hk hf
    obtain ⟨fu, rfl⟩ : ∃ f, fu = f + 1 := ⟨fu - 1, by omega⟩
    have hb : ¬ tr < m := by omega
    have hm : m < 2 ^ T := by omega
    have wO := c_wO hS hR hT hm hW
    have hB := Nat.le_trans (sR_le (gB_le hW12 (m := m)) T 0) (Nat.mul_le_mul_right 12 hT)
    show _ = some (if nI m &&& (nI tr ^^^ (-1 : Int32)) = 0 then (if 2 * sR (gB W m) T 0 = sR (gB W tr) T 0 then 1 else evS W T tr k (m + 1)) else evS W T tr k (m + 1))
    by_cases q : nI m &&& (nI tr ^^^ (-1 : Int32)) = 0
    · rw [if_pos q]
      by_cases q2 : 2 * sR (gB W m) T 0 = sR (gB W tr) T 0
      · rw [if_pos q2]
        simp (disch := first | omega | simp only [qI2, qL2, qC2, qF2]) only [gX6_canHalve_8, nI_ltI, if_neg hb, ↓if_pos q, ↓D, ↓bind_of wO, li2, pk_mul, nI_eq, if_pos q2]
      · rw [if_neg q2]
        simp (disch := first | omega | simp only [qI2, qL2, qC2, qF2]) only [gX6_canHalve_8, nI_ltI, if_neg hb, ↓if_pos q, ↓D, ↓bind_of wO, li2, pk_mul, nI_eq, if_neg q2, nI_1]
        exact ih fu (m + 1) (by omega) (by omega)
    · rw [if_neg q]
      simp (disch := first | omega | simp only [qI2, qL2, qC2, qF2]) only [gX6_canHalve_8, nI_ltI, if_neg hb, ↓if_neg q, nI_1]
      exact ih fu (m + 1) (by omega) (by omega)
theorem m_ev31 {S : List (Nat × Nat)} {M : zM} {tr : Nat} {E : zEn} {K : zKa} (hS : pMs S M.2.2) (hE : pME M.1 E) (hK : pMk M.1 0 E K) (wE : wfE E) (htr : tr < 2 ^ eT E) : ∀ (k fu m : Nat), m + k = tr + 1 → k < fu →
    gX12_even_31 S fu 306 (nI tr) (nI (sR (gB (wgt E K) tr) (eT E) 0)) (nI m) M = some (evS (wgt E K) (eT E) tr k m, M) := by
  have hT := wE.1
  have hP := wE.2.1
  have h64 : 2 ^ eT E ≤ 64 := Nat.pow_le_pow_right (n := 2) (j := 6) (by decide) hT
  have hA := Nat.le_trans (sR_le (gB_le (wgt_le (K := K) hP) (m := tr)) (eT E) 0) (Nat.mul_le_mul_right 12 hT)
  intro k
  induction k with
  | zero =>
    intro fu m hk hf
    obtain ⟨fu, rfl⟩ : ∃ f, fu = f + 1 := ⟨fu - 1, by omega⟩
    have hb : tr < m := by omega
    simp (disch := first | omega | simp only [qI2, qL2, qC2, qF2]) only [gX12_even_31, nI_ltI, ↓if_pos hb]
    rfl
  | succ k ih =>
    intro fu m hk hf
    obtain ⟨fu, rfl⟩ : ∃ f, fu = f + 1 := ⟨fu - 1, by omega⟩
    have hb : ¬ tr < m := by omega
    have wO := m_pI hS hE hK wE (show m < 64 by omega)
    have hB := Nat.le_trans (sR_le (gB_le (wgt_le (K := K) hP) (m := m)) (eT E) 0) (Nat.mul_le_mul_right 12 hT)
    show _ = some (if nI m &&& (nI tr ^^^ (-1 : Int32)) = 0 then (if 2 * sR (gB (wgt E K) m) (eT E) 0 = sR (gB (wgt E K) tr) (eT E) 0 then 1 else evS (wgt E K) (eT E) tr k (m + 1)) else evS (wgt E K) (eT E) tr k (m + 1), M)
    by_cases q : nI m &&& (nI tr ^^^ (-1 : Int32)) = 0
    · rw [if_pos q]
      by_cases q2 : 2 * sR (gB (wgt E K) m) (eT E) 0 = sR (gB (wgt E K) tr) (eT E) 0
      · rw [if_pos q2]
        simp (disch := first | omega | simp only [qI2, qL2, qC2, qF2]) only [gX12_even_31, nI_ltI, if_neg hb, ↓if_pos q, ↓mH hS, ↓bind_of wO, li2, pk_mul, nI_eq, if_pos q2]
      · rw [if_neg q2]
        simp (disch := first | omega | simp only [qI2, qL2, qC2, qF2]) only [gX12_even_31, nI_ltI, if_neg hb, ↓if_pos q, ↓mH hS, ↓bind_of wO, li2, pk_mul, nI_eq, if_neg q2, nI_1]
        exact ih fu (m + 1) (by omega) (by omega)
    · rw [if_neg q]
      simp (disch := first | omega | simp only [qI2, qL2, qC2, qF2]) only [gX12_even_31, nI_ltI, if_neg hb, ↓if_neg q, nI_1]
      exact ih fu (m + 1) (by omega) (by omega)
theorem evS_01 {W : Nat → Nat} {T tr : Nat} : ∀ k m, evS W T tr k m = 0 ∨ evS W T tr k m = 1
  | 0, _ => Or.inl rfl
  | k + 1, m => by
    show (if _ then _ else _) = (0 : Int32) ∨ (if _ then _ else _) = (1 : Int32)
    split
    · split
      · exact Or.inr rfl
      · exact evS_01 k (m + 1)
    · exact evS_01 k (m + 1)
theorem shrT {T j : Nat} (hT : T < 7) (hj : j < 2 ^ 31) : nI j >>> (nI T &&& 31) = nI (j / 2 ^ T) := pk_shrN hj (nI T &&& 31) T (by
  rcases (show T = 0 ∨ T = 1 ∨ T = 2 ∨ T = 3 ∨ T = 4 ∨ T = 5 ∨ T = 6 by omega) with rfl | rfl | rfl | rfl | rfl | rfl | rfl <;> decide)
theorem P_even : zP_even zInv := by
  intro S M hM a1
  refine zq (f := gX11_even S 0 a1) (g := gX12_even S 306 a1) ?_ M hM
  intro A M hw hc
  obtain ⟨t, E, K, le, im, st, no, tp, fl⟩ := A
  have hc2 : cIx S M t E K le im st no tp fl := hc
  have hw2 : aWx E K im st no tp fl := hw
  obtain ⟨⟨hS, hR, ht, h03, h04⟩, hV, hK, him, hst, hno, htp, hfl⟩ := hc2
  obtain ⟨wE, wK, wim, wst, wno, wtp, wfl⟩ := hw2
  have hT6 := wE.1
  have hP12 := wE.2.1
  have hW5 := wE.2.2.2.1
  have T0 := pTs_of hS hR t (Or.inr ht)
  have N0 := pSs_of hS hR 107 (by decide)
  have gT : ∀ (ρ : Type) (M' : zM) (f : Nat → Option ρ), M'.2.2 = M.2.2 → zgR S M' 0 11 14 3 f = f t := fun ρ M' f h => zgR_of ((hS 0 (by decide)).trans rfl) h03 M' f h
  have D := cD hS hR
  have hgi : ∀ (ρ : Type) (M' : zM) (j : Nat) (f : Int32 → Option ρ), zgI S M' t 10 18 j f = f (M'.1 t j) := fun ρ M' j f => zgI_ok T0.1
  have v1 := hV.1.1
  have h64 : 2 ^ eT E ≤ 64 := Nat.pow_le_pow_right (n := 2) (j := 6) (by decide) hT6
  have hsh := shl1 (eT E) (by omega)
  by_cases c0 : a1 < 0
  · refine ⟨-1, M, ?_, cFr.refl' hR, ?_⟩
    · simp only [gX11_even, ↓if_pos c0]
    · skip
      intro M' hm
      have hm2 : mIx S M' E K im st no tp fl := hm
      obtain ⟨mS', mE, mK, mim, mst, mno, mtp, mfl, mmd⟩ := id hm2
      refine ⟨_, ?_, th0 M' 0⟩
      simp (disch := first | omega | simp only [qI2, qL2, qC2, qF2]) only [gX12_even, ↓mH mS', ↓if_pos c0]
  · obtain ⟨j, hj, rfl⟩ := nI_of c0
    have hs := shrT (T := eT E) (by omega) hj
    by_cases c1 : j < 2 ^ eT E
    · have c2 : nI j >>> (nI (eT E) &&& 31) = 0 := by rw [hs, Nat.div_eq_of_lt c1]; rfl
      obtain ⟨M6, e1, e2, e3, e4, e5⟩ := c_weigh2 hS hR T0 ht hV hK wE (eT E) zfu 0 M rfl (fun _ _ _ => rfl) (by omega) (by unfold zfu; omega)
      have e1' : gX6_weigh S 185 t 107 M = some M6 := e1
      have R6 : pRf M6.2.2 := e2 ▸ hR
      have D6 := cD hS R6
      have wO := c_wO hS R6 hT6 c1 (fun i hi => e5 i (Nat.zero_le _) hi)
      have r : gX6_canHalve_8 S zfu 185 (nI j) (nI (sR (gB (wgt E K) j) (eT E) 0)) 0 M6 = _ := c_ev8 hS R6 hT6 c1 (fun i hi => e5 i (Nat.zero_le _) hi) (wgt_le hP12) (j + 1) zfu 0 (by omega) (by unfold zfu; omega)
      have dd : gX6_canHalve S 185 (nI j) M6 = some (evS (wgt E K) (eT E) j (j + 1) 0) := by
        simp (disch := first | omega | simp only [qI2, e2]) only [gX6_canHalve, ↓D6, ↓bind_of wO, r]
      refine ⟨evS (wgt E K) (eT E) j (j + 1) 0, M6, ?_, ⟨fun a b k => e3 a b (by unfold cQ at k; omega), R6, by rw [e2], by rw [e2]⟩, ?_⟩
      · simp (disch := first | omega | simp only [qI2, e2]) only [gX11_even, ↓if_neg c0, ↓gT, ↓hgi, v1, ↓if_pos c2, ↓D, ↓bind_of e1', ↓D6, ↓bind_of dd]
        rcases evS_01 (W := wgt E K) (T := eT E) (tr := j) (j + 1) 0 with q | q <;> rw [q] <;> rfl
      · skip
        intro M' hm
        have hm2 : mIx S M' E K im st no tp fl := hm
        obtain ⟨mS', mE, mK, mim, mst, mno, mtp, mfl, mmd⟩ := id hm2
        refine ⟨_, ?_, th0 M' 0⟩
        have mE1 : pME (zsI M' 306 0 0).1 E := pME_cg (fun a b k1 k2 => zsI_ne (by omega)) mE
        have mK1 : pMk (zsI M' 306 0 0).1 0 E K := pMk_cg hP12 (fun a b q => zsI_ne (by unfold mS at q; omega)) mK
        have pl := m_pI (M := zsI M' 306 0 0) mS' mE1 mK1 wE (show j < 64 by omega)
        have r2 : gX12_even_31 S zfu 306 (nI j) (nI (sR (gB (wgt E K) j) (eT E) 0)) 0 (zsI M' 306 0 0) = _ := m_ev31 (M := zsI M' 306 0 0) mS' mE1 mK1 wE c1 (j + 1) zfu 0 (by omega) (by unfold zfu; omega)
        have u0 := mE1.1.1
        simp (disch := first | omega | simp only [qI2, qL2, qC2, qF2]) only [gX12_even, ↓mH mS', ↓if_neg c0, ↓mL mS', u0, hsh, nI_ltI, if_pos c1, ↓bind_of pl, r2]
    · have c2 : ¬ nI j >>> (nI (eT E) &&& 31) = 0 := by
        rw [hs]
        exact nI_ne0 (Nat.div_pos (by omega) (Nat.pow_pos (by decide))) (Nat.lt_of_le_of_lt (Nat.div_le_self _ _) hj)
      refine ⟨-1, M, ?_, cFr.refl' hR, ?_⟩
      · simp (disch := first | omega | simp only [qI2, qL2, qC2, qF2]) only [gX11_even, ↓if_neg c0, ↓gT, ↓hgi, v1, ↓if_neg c2]
      · skip
        intro M' hm
        have hm2 : mIx S M' E K im st no tp fl := hm
        obtain ⟨mS', mE, mK, mim, mst, mno, mtp, mfl, mmd⟩ := id hm2
        refine ⟨_, ?_, th0 M' 0⟩
        have u0 : (zsI M' 306 0 0).1 308 0 = nI (eT E) := (zsI_ne (by omega)).trans mE.1.1
        simp (disch := first | omega | simp only [qI2, qL2, qC2, qF2]) only [gX12_even, ↓mH mS', ↓if_neg c0, ↓mL mS', u0, hsh, nI_ltI, if_neg c1]
def n2I : Option Nat → Int32 := fun o => match o with | none => -2 | some t => nI t
def raN (E : zEn) (K : zKa) (i : Nat) : Option Nat → Option Nat := fun b => match b with | none => some i | some c => if kOp K c ≤ kOp K i then some c else some i
def raS (E : zEn) (K : zKa) : Nat → Nat → Option Nat → Option Nat
  | 0, _, b => b
  | k + 1, i, b => raS E K k (i + 1) (if wgt E K i = 0 then b else raN E K i b)
theorem c_ra5 {S : List (Nat × Nat)} {M : zM} {t : Nat} {E : zEn} {K : zKa} {le : Int32} (hS : zShp S) (hR : pRf M.2.2) (h03 : M.2.2 0 3 = some t) (hT : pTs S M.2.2 t) (hV : pTv M.1 t E) (hK : pSv M.1 107 E K le) (wE : wfE E) : ∀ (k fu i : Nat) (b : Option Nat), (∀ c, b = some c → c < eT E) → i + k = eT E → k < fu →
    gX11_rare_5 S fu 0 (n2I b) (nI i) M = some (n2I (raS E K k i b)) := by
  have hT6 := wE.1
  have hP12 := wE.2.1
  have D := cD hS hR
  have N := cN hS hR
  have N0 := pSs_of hS hR 107 (by decide)
  have v1 := hV.1.1
  have gT : ∀ (ρ : Type) (M' : zM) (f : Nat → Option ρ), M'.2.2 = M.2.2 → zgR S M' 0 11 14 3 f = f t := fun ρ M' f h => zgR_of ((hS 0 (by decide)).trans rfl) h03 M' f h
  have hgi : ∀ (ρ : Type) (M' : zM) (j : Nat) (f : Int32 → Option ρ), zgI S M' t 10 18 j f = f (M'.1 t j) := fun ρ M' j f => zgI_ok hT.1
  have n10 : ¬ (1 : Int32) = 0 := by decide
  intro k
  induction k with
  | zero =>
    intro fu i b hb hk hf
    obtain ⟨fu, rfl⟩ : ∃ f, fu = f + 1 := ⟨fu - 1, by omega⟩
    have hi : eT E ≤ i := by omega
    simp (disch := first | omega | simp only [qI2, qL2, qC2, qF2]) only [gX11_rare_5, ↓gT, ↓hgi, v1, nI_leI, ↓if_pos hi]
    rfl
  | succ k ih =>
    intro fu i b hb hk hf
    obtain ⟨fu, rfl⟩ : ∃ f, fu = f + 1 := ⟨fu - 1, by omega⟩
    have hi : ¬ eT E ≤ i := by omega
    have hi2 : i < eT E := by omega
    have pl := c_plc (x := nI i) N0 hK hP12
    have o1 : M.1 113 i = kOp K i := (hK.2.2.1 i (by omega)).2
    have w12 := wgt_le (E := E) (K := K) hP12 i
    have fifty : ∀ (b' : Option Nat), gX11_rare_52 S (gX11_rare_5 S fu) 0 (n2I b') (nI i) 1 M = (if wgt E K i = 0 then gX11_rare_5 S fu 0 (n2I b') (nI (i + 1)) M else gX11_rare_5 S fu 0 (nI i) (nI (i + 1)) M) := fun b' => by
      simp (disch := first | omega | simp only [qI2, qL2, qC2, qF2]) only [gX11_rare_52, ↓if_neg n10, ↓D, ↓N, ↓bind_of pl, nI_1]
      show (if nI (wgt E K i) ≤ 0 then _ else _) = _
      by_cases q : wgt E K i = 0
      · rw [if_pos q, q, if_pos (by decide)]
      · rw [if_neg q, if_neg (nI_nle (by omega) (by omega))]
    have fifty0 : ∀ (b' : Option Nat), gX11_rare_52 S (gX11_rare_5 S fu) 0 (n2I b') (nI i) 0 M = gX11_rare_5 S fu 0 (n2I b') (nI (i + 1)) M := fun b' => by
      simp (disch := first | omega | simp only [qI2, qL2, qC2, qF2]) only [gX11_rare_52, nI_1, if_true]
    show _ = some (n2I (raS E K k (i + 1) (if wgt E K i = 0 then b else raN E K i b)))
    cases b with
    | none =>
      have z : n2I none = -2 := rfl
      have step : gX11_rare_5 S (fu + 1) 0 (n2I none) (nI i) M = gX11_rare_52 S (gX11_rare_5 S fu) 0 (n2I none) (nI i) 1 M := by
        simp (disch := first | omega | simp only [qI2, qL2, qC2, qF2]) only [gX11_rare_5, ↓gT, ↓hgi, v1, nI_leI, if_neg hi, ↓if_pos z]
      rw [step, fifty none]
      by_cases q : wgt E K i = 0
      · rw [if_pos q, if_pos q]
        exact ih fu (i + 1) none (fun c h => by cases h) (by omega) (by omega)
      · rw [if_neg q, if_neg q]
        exact ih fu (i + 1) (some i) (fun c h => by cases h; exact hi2) (by omega) (by omega)
    | some c =>
      have hc := hb c rfl
      have z : ¬ nI c = -2 := by
        intro h
        have h4 := nI_pos' (show c < 2 ^ 31 by omega)
        rw [h] at h4
        exact absurd h4 (by decide)
      have o2 : M.1 113 c = kOp K c := (hK.2.2.1 c (by omega)).2
      have step : gX11_rare_5 S (fu + 1) 0 (n2I (some c)) (nI i) M = (if kOp K c ≤ kOp K i then gX11_rare_52 S (gX11_rare_5 S fu) 0 (n2I (some c)) (nI i) 0 M else gX11_rare_52 S (gX11_rare_5 S fu) 0 (n2I (some c)) (nI i) 1 M) := by
        show gX11_rare_5 S (fu + 1) 0 (nI c) (nI i) M = (if kOp K c ≤ kOp K i then gX11_rare_52 S (gX11_rare_5 S fu) 0 (nI c) (nI i) 0 M else gX11_rare_52 S (gX11_rare_5 S fu) 0 (nI c) (nI i) 1 M)
        simp (disch := first | omega | simp only [qI2, qL2, qC2, qF2]) only [gX11_rare_5, ↓gT, ↓hgi, v1, nI_leI, if_neg hi, ↓if_neg z, ↓D, ↓N, o1, o2]
      rw [step, fifty, fifty0]
      by_cases q : wgt E K i = 0
      · rw [if_pos q, if_pos q]
        have := ih fu (i + 1) (some c) (fun c h => by cases h; exact hc) (by omega) (by omega)
        split <;> exact this
      · rw [if_neg q, if_neg q]
        by_cases q2 : kOp K c ≤ kOp K i
        · rw [if_pos q2]
          show _ = some (n2I (raS E K k (i + 1) (if kOp K c ≤ kOp K i then some c else some i)))
          rw [if_pos q2]
          exact ih fu (i + 1) (some c) (fun c h => by cases h; exact hc) (by omega) (by omega)
        · rw [if_neg q2]
          show _ = some (n2I (raS E K k (i + 1) (if kOp K c ≤ kOp K i then some c else some i)))
          rw [if_neg q2]
          exact ih fu (i + 1) (some i) (fun c h => by cases h; exact hi2) (by omega) (by omega)
theorem m_ra10 {S : List (Nat × Nat)} {M : zM} {E : zEn} {K : zKa} (hS : pMs S M.2.2) (hE : pME M.1 E) (hK : pMk M.1 0 E K) (wE : wfE E) : ∀ (k fu i : Nat) (b : Option Nat), (∀ c, b = some c → c < eT E) → i + k = eT E → k < fu →
    gX12_rare_10 S fu 306 (n2I b) (nI i) M = some (n2I (raS E K k i b), M) := by
  have hT6 := wE.1
  have hP12 := wE.2.1
  have v1 := hE.1.1
  intro k
  induction k with
  | zero =>
    intro fu i b hb hk hf
    obtain ⟨fu, rfl⟩ : ∃ f, fu = f + 1 := ⟨fu - 1, by omega⟩
    have hi : eT E ≤ i := by omega
    simp (disch := first | omega | simp only [qI2, qL2, qC2, qF2]) only [gX12_rare_10, ↓mH hS, ↓mL hS, v1, nI_leI, ↓if_pos hi]
    rfl
  | succ k ih =>
    intro fu i b hb hk hf
    obtain ⟨fu, rfl⟩ : ∃ f, fu = f + 1 := ⟨fu - 1, by omega⟩
    have hi : ¬ eT E ≤ i := by omega
    have hi2 : i < eT E := by omega
    have pl : gX12_placesOf S 306 (nI i) M = some (nI (wgt E K i)) := m_plc hS hE hK hP12 (nI i)
    have w12 := wgt_le (E := E) (K := K) hP12 i
    have ops : ∀ c, c < 6 → M.1 333 c = kOp K c := fun c hc => by have := (hK.2.1 c hc).2; rw [show 6 * 0 + c = c by omega] at this; exact this
    have o1 := ops i (by omega)
    show _ = some (n2I (raS E K k (i + 1) (if wgt E K i = 0 then b else raN E K i b)), M)
    by_cases q : wgt E K i = 0
    · have q' : nI (wgt E K i) ≤ 0 := by rw [q]; decide
      rw [if_pos q]
      simp (disch := first | omega | simp only [qI2, qL2, qC2, qF2]) only [gX12_rare_10, ↓mH hS, ↓mL hS, v1, nI_leI, if_neg hi, ↓bind_of pl, ↓if_pos q', nI_1]
      exact ih fu (i + 1) b hb (by omega) (by omega)
    · have q' : ¬ nI (wgt E K i) ≤ 0 := nI_nle (by omega) (by omega)
      rw [if_neg q]
      cases b with
      | none =>
        have z : n2I none < 0 := by decide
        simp (disch := first | omega | simp only [qI2, qL2, qC2, qF2]) only [gX12_rare_10, ↓mH hS, ↓mL hS, v1, nI_leI, if_neg hi, ↓bind_of pl, ↓if_neg q', ↓if_pos z, nI_1]
        exact ih fu (i + 1) (some i) (fun c h => by cases h; exact hi2) (by omega) (by omega)
      | some c =>
        have hc := hb c rfl
        have z : ¬ nI c < 0 := nI_pos (by omega)
        have o2 := ops c (by omega)
        have step : gX12_rare_10 S (fu + 1) 306 (n2I (some c)) (nI i) M = (if kOp K c ≤ kOp K i then gX12_rare_10 S fu 306 (nI c) (nI (i + 1)) M else gX12_rare_10 S fu 306 (nI i) (nI (i + 1)) M) := by
          show gX12_rare_10 S (fu + 1) 306 (nI c) (nI i) M = _
          simp (disch := first | omega | simp only [qI2, qL2, qC2, qF2]) only [gX12_rare_10, ↓mH hS, ↓mL hS, ↓mG hS, v1, nI_leI, if_neg hi, ↓bind_of pl, ↓if_neg q', ↓if_neg z, o1, o2, nI_1]
        rw [step]
        show _ = some (n2I (raS E K k (i + 1) (if kOp K c ≤ kOp K i then some c else some i)), M)
        by_cases q2 : kOp K c ≤ kOp K i
        · rw [if_pos q2, if_pos q2]
          exact ih fu (i + 1) (some c) (fun c h => by cases h; exact hc) (by omega) (by omega)
        · rw [if_neg q2, if_neg q2]
          exact ih fu (i + 1) (some i) (fun c h => by cases h; exact hi2) (by omega) (by omega)
theorem P_rare : zP_rare zInv := by
  intro S M hM
  refine zp (f := gX11_rare S 0) (g := gX12_rare S 306) ?_ M hM
  intro A M hw hc
  obtain ⟨t, E, K, le, im, st, no, tp, fl⟩ := A
  have hc2 : cIx S M t E K le im st no tp fl := hc
  have hw2 : aWx E K im st no tp fl := hw
  obtain ⟨⟨hS, hR, ht, h03, h04⟩, hV, hK, him, hst, hno, htp, hfl⟩ := hc2
  obtain ⟨wE, wK, wim, wst, wno, wtp, wfl⟩ := hw2
  have hT6 := wE.1
  have hP12 := wE.2.1
  have hW5 := wE.2.2.2.1
  have T0 := pTs_of hS hR t (Or.inr ht)
  have N0 := pSs_of hS hR 107 (by decide)
  have gT : ∀ (ρ : Type) (M' : zM) (f : Nat → Option ρ), M'.2.2 = M.2.2 → zgR S M' 0 11 14 3 f = f t := fun ρ M' f h => zgR_of ((hS 0 (by decide)).trans rfl) h03 M' f h
  refine ⟨n2I (raS E K (eT E) 0 none), c_ra5 hS hR h03 T0 hV hK wE (eT E) zfu 0 none (fun c h => by cases h) (by omega) (by unfold zfu; omega), ?_⟩
  intro M' hm
  have hm2 : mIx S M' E K im st no tp fl := hm
  obtain ⟨mS', mE, mK, mim, mst, mno, mtp, mfl, mmd⟩ := id hm2
  refine ⟨_, ?_, th0 M' 0⟩
  have r : gX12_rare_10 S zfu 306 (-2) 0 (zsI M' 306 0 0) = _ := m_ra10 (M := zsI M' 306 0 0) mS' (pME_cg (fun a b k1 k2 => zsI_ne (by omega)) mE) (pMk_cg hP12 (fun a b q => zsI_ne (by unfold mS at q; omega)) mK) wE (eT E) zfu 0 none (fun c h => by cases h) (by omega) (by unfold zfu; omega)
  simp (disch := first | omega | simp only [qI2, qL2, qC2, qF2]) only [gX12_rare, ↓mH mS', r]
