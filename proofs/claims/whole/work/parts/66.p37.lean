/-! pure part 37: pairs -/
def sR (g : Nat → Nat) : Nat → Nat → Nat
  | 0, _ => 0
  | k + 1, i => g i + sR g k (i + 1)
theorem sR_last {g : Nat → Nat} : ∀ k i, sR g (k + 1) i = sR g k i + g (i + k)
  | 0, i => by show g i + 0 = 0 + g (i + 0); rw [Nat.add_zero, Nat.zero_add, Nat.add_zero]
  | k + 1, i => by
    show g i + sR g (k + 1) (i + 1) = g i + sR g k (i + 1) + g (i + (k + 1))
    rw [sR_last k (i + 1), show i + 1 + k = i + (k + 1) by omega]
    omega
theorem sR_cg {g h : Nat → Nat} : ∀ k i, (∀ j, i ≤ j → j < i + k → g j = h j) → sR g k i = sR h k i
  | 0, _, _ => rfl
  | k + 1, i, e => by
    show g i + sR g k (i + 1) = h i + sR h k (i + 1)
    rw [e i (Nat.le_refl _) (by omega), sR_cg k (i + 1) (fun j h1 h2 => e j (by omega) (by omega))]
theorem sR_add {g h : Nat → Nat} : ∀ k i, sR (fun j => g j + h j) k i = sR g k i + sR h k i
  | 0, _ => rfl
  | k + 1, i => by
    show g i + h i + sR (fun j => g j + h j) k (i + 1) = g i + sR g k (i + 1) + (h i + sR h k (i + 1))
    rw [sR_add k (i + 1)]
    omega
def b01 (b : Bool) : Nat := if b then 1 else 0
def prC (f : Nat → Nat → Bool) (P : Nat) : Nat := sR (fun i => sR (fun j => b01 (f i j)) (P - 1 - i) (i + 1)) P 0
def prM (f : Nat → Nat → Bool) (P : Nat) : Nat := sR (fun j => sR (fun i => b01 (f i j)) j 0) P 0
theorem pr_eq (f : Nat → Nat → Bool) : ∀ P, prC f P = prM f P
  | 0 => rfl
  | P + 1 => by
    have ih := pr_eq f P
    unfold prC prM at *
    rw [sR_last, sR_last, show P + 1 - 1 - (0 + P) = 0 by omega, ← ih, Nat.zero_add]
    rw [show sR (fun j => b01 (f P j)) 0 (P + 1) = 0 from rfl, Nat.add_zero, ← sR_add]
    refine sR_cg P 0 (fun i _ h2 => ?_)
    have h2' : i < P := by omega
    rw [show P + 1 - 1 - i = (P - 1 - i) + 1 by omega, sR_last, show i + 1 + (P - 1 - i) = P by omega]
def apN (x m : Nat) : Nat := if m ≤ x then x - m else m - x
theorem apN_c : ∀ x, x < 12 → ∀ m, m < 10 → (if 0 ≤ (nI x - nI m) then (nI x - nI m) else 0 - (nI x - nI m)) = nI (apN x m) := by decide +kernel
theorem apN_m : ∀ x, x < 12 → ∀ m, m < 10 → (if nI m ≤ nI x then nI x - nI m else nI m - nI x) = nI (apN x m) := by decide +kernel
theorem apN_lt {x m : Nat} (h1 : x < 12) (h2 : m < 10) : apN x m < 12 := by unfold apN; split <;> omega
def mnS (E : zEn) (K : zKa) (i : Nat) : Nat := eMn E (kLs K i)
def prS (E : zEn) (K : zKa) (i j : Nat) : Bool := decide (apN j (mnS E K i) < apN i (mnS E K i)) && decide (apN i (mnS E K j) < apN j (mnS E K j))
theorem c_apart {S : List (Nat × Nat)} {M : zM} {t p h x : Nat} {E : zEn} {K : zKa} {le : Int32} {B : Nat} (hT : pTs S M.2.2 t) (hS : pSs S M.2.2 p) (hV : pTv M.1 t E) (hK : pSv M.1 p E K le) (wE : wfE E) (wK : wfK E K B) (hh : h < eP E) (hx : x < 12) : gX6_apart S t p (nI h) (nI x) M = some (nI (apN x (mnS E K h))) := by
  have hP12 := wE.2.1
  have hT6 := wE.1
  have hl := wK.1 h hh
  have hm := wE.2.2.2.2.2.2.2.2.1 _ hl
  have g1 : M.1 (p + 2) h = nI (kLs K h) := hK.2.1 h hh
  have g2 : M.1 (t + 6) (kLs K h) = nI (mnS E K h) := (hV.2.1 _ hl).2.2
  simp (disch := first | omega | simp only [qI2, qL2, qC2, qF2]) only [gX6_apart, ↓tG hT, ↓sG hS, g1, g2]
  rw [apN_c x hx (mnS E K h) (Nat.lt_succ_of_le hm)]
theorem m_mannerAt {S : List (Nat × Nat)} {M : zM} {h : Nat} {E : zEn} {K : zKa} {B : Nat} (hS : pMs S M.2.2) (hE : pME M.1 E) (hK : pMk M.1 0 E K) (wE : wfE E) (wK : wfK E K B) (hh : h < eP E) : gX12_mannerAt S 306 (nI h) M = some (nI (mnS E K h)) := by
  have hP12 := wE.2.1
  have hT6 := wE.1
  have hl := wK.1 h hh
  have g1 : M.1 334 h = nI (kLs K h) := by have := hK.2.2.1 h hh; rw [show 12 * 0 + h = h by omega] at this; exact this
  have g2 : M.1 311 (kLs K h) = nI (mnS E K h) := (hE.2.1 _ hl).2.2
  simp (disch := first | omega | simp only [qI2, qL2, qC2, qF2]) only [gX12_mannerAt, ↓mH hS, ↓mG hS, g1, g2]
theorem m_apart {S : List (Nat × Nat)} {M : zM} {x m : Nat} (hx : x < 12) (hm : m < 10) : gX12_apart S (nI x) (nI m) M = some (nI (apN x m)) := by
  unfold gX12_apart
  rw [← apN_m x hx m hm]
  split <;> rfl
theorem c_ch20 {S : List (Nat × Nat)} {M : zM} {t i : Nat} {E : zEn} {K : zKa} {le : Int32} {B : Nat} {k5 : Nat → Nat → Int32 → Int32 → zM → Option Int32} (hT : pTs S M.2.2 t) (hS : pSs S M.2.2 107) (hV : pTv M.1 t E) (hK : pSv M.1 107 E K le) (wE : wfE E) (wK : wfK E K B) (hi : i < eP E) : ∀ (k fu j c : Nat), j + k = eP E → k < fu →
    gX6_changers_20 S k5 fu t 107 (nI c) (nI i) (nI j) M = k5 t 107 (nI (c + sR (fun j => b01 (prS E K i j)) k j)) (nI (i + 1)) M := by
  have hP12 := wE.2.1
  have hP := hK.1.2.2.2.2.2.2.2.2.2.2
  have mlt : ∀ h, h < eP E → mnS E K h < 10 := fun h hh => Nat.lt_succ_of_le (wE.2.2.2.2.2.2.2.2.1 _ (wK.1 h hh))
  intro k
  induction k with
  | zero =>
    intro fu j c hk hf
    obtain ⟨fu, rfl⟩ : ∃ f, fu = f + 1 := ⟨fu - 1, by omega⟩
    have hb : eP E ≤ j := by omega
    simp (disch := first | omega | simp only [qI2, qL2, qC2, qF2]) only [gX6_changers_20, ↓sG hS, hP, nI_leI, ↓if_pos hb, nI_1]
    rfl
  | succ k ih =>
    intro fu j c hk hf
    obtain ⟨fu, rfl⟩ : ∃ f, fu = f + 1 := ⟨fu - 1, by omega⟩
    have hb : ¬ eP E ≤ j := by omega
    have hj : j < eP E := by omega
    have a1 := c_apart (h := i) (x := j) hT hS hV hK wE wK hi (by omega)
    have a2 := c_apart (h := i) (x := i) hT hS hV hK wE wK hi (by omega)
    have a3 := c_apart (h := j) (x := i) hT hS hV hK wE wK hj (by omega)
    have a4 := c_apart (h := j) (x := j) hT hS hV hK wE wK hj (by omega)
    have l1 := apN_lt (x := j) (m := mnS E K i) (by omega) (mlt i hi)
    have l2 := apN_lt (x := i) (m := mnS E K i) (by omega) (mlt i hi)
    have l3 := apN_lt (x := i) (m := mnS E K j) (by omega) (mlt j hj)
    have l4 := apN_lt (x := j) (m := mnS E K j) (by omega) (mlt j hj)
    have step : gX6_changers_20 S k5 (fu + 1) t 107 (nI c) (nI i) (nI j) M = (if apN i (mnS E K i) ≤ apN j (mnS E K i) then gX6_changers_20 S k5 fu t 107 (nI c) (nI i) (nI (j + 1)) M else if apN j (mnS E K j) ≤ apN i (mnS E K j) then gX6_changers_20 S k5 fu t 107 (nI c) (nI i) (nI (j + 1)) M else gX6_changers_20 S k5 fu t 107 (nI (c + 1)) (nI i) (nI (j + 1)) M) := by
      have n10 : ¬ (1 : Int32) = 0 := by decide
      simp (disch := first | omega | simp only [qI2, qL2, qC2, qF2]) only [gX6_changers_20, gX6_changers_55, gX6_changers_83, ↓sG hS, hP, nI_leI, if_neg hb, ↓bind_of a1, ↓bind_of a2, ↓bind_of a3, ↓bind_of a4, nI_1, if_true, if_neg n10]
      by_cases q1 : apN i (mnS E K i) ≤ apN j (mnS E K i)
      · rw [if_pos q1, if_pos q1]
        split <;> rfl
      · rw [if_neg q1, if_neg q1]
    rw [step]
    show _ = k5 t 107 (nI (c + (b01 (prS E K i j) + sR (fun j => b01 (prS E K i j)) k (j + 1)))) (nI (i + 1)) M
    have e : b01 (prS E K i j) = (if apN i (mnS E K i) ≤ apN j (mnS E K i) then 0 else if apN j (mnS E K j) ≤ apN i (mnS E K j) then 0 else 1) := by
      unfold prS b01
      by_cases q1 : apN i (mnS E K i) ≤ apN j (mnS E K i)
      · rw [if_pos q1, decide_eq_false (by omega), Bool.false_and]; rfl
      · rw [if_neg q1, decide_eq_true (by omega), Bool.true_and]
        by_cases q2 : apN j (mnS E K j) ≤ apN i (mnS E K j)
        · rw [if_pos q2, decide_eq_false (by omega)]; rfl
        · rw [if_neg q2, decide_eq_true (by omega)]; rfl
    rw [e, ← Nat.add_assoc]
    split
    · rw [ih fu (j + 1) c (by omega) (by omega)]; rfl
    · split
      · rw [ih fu (j + 1) c (by omega) (by omega)]; rfl
      · rw [ih fu (j + 1) (c + 1) (by omega) (by omega)]
theorem c_ch5 {S : List (Nat × Nat)} {M : zM} {t : Nat} {E : zEn} {K : zKa} {le : Int32} {B : Nat} (hT : pTs S M.2.2 t) (hS : pSs S M.2.2 107) (hV : pTv M.1 t E) (hK : pSv M.1 107 E K le) (wE : wfE E) (wK : wfK E K B) : ∀ (k fu i c : Nat), i + k = eP E → k < fu →
    gX6_changers_5 S fu t 107 (nI c) (nI i) M = some (nI (c + sR (fun i => sR (fun j => b01 (prS E K i j)) (eP E - 1 - i) (i + 1)) k i)) := by
  have hP12 := wE.2.1
  have hP := hK.1.2.2.2.2.2.2.2.2.2.2
  intro k
  induction k with
  | zero =>
    intro fu i c hk hf
    obtain ⟨fu, rfl⟩ : ∃ f, fu = f + 1 := ⟨fu - 1, by omega⟩
    have hb : eP E ≤ i := by omega
    simp (disch := first | omega | simp only [qI2, qL2, qC2, qF2]) only [gX6_changers_5, ↓sG hS, hP, nI_leI, ↓if_pos hb]
    rfl
  | succ k ih =>
    intro fu i c hk hf
    obtain ⟨fu, rfl⟩ : ∃ f, fu = f + 1 := ⟨fu - 1, by omega⟩
    have hb : ¬ eP E ≤ i := by omega
    simp (disch := first | omega | simp only [qI2, qL2, qC2, qF2]) only [gX6_changers_5, ↓sG hS, hP, nI_leI, if_neg hb, nI_1]
    rw [c_ch20 hT hS hV hK wE wK (by omega) (eP E - 1 - i) zfu (i + 1) c (by omega) (by unfold zfu; omega), ih fu (i + 1) _ (by omega) (by omega), Nat.add_assoc]
    rfl
theorem m_p21 {S : List (Nat × Nat)} {M : zM} {p : Nat} {E : zEn} {K : zKa} {B : Nat} {k9 : Nat → Int32 → Int32 → zM → Option (Int32 × zM)} (hS : pMs S M.2.2) (hE : pME M.1 E) (hK : pMk M.1 0 E K) (wE : wfE E) (wK : wfK E K B) (hp : p < eP E) : ∀ (k fu q c : Nat), q + k = p → k < fu →
    gX12_pairs_21 S k9 fu 306 (nI c) (nI p) (nI q) M = k9 306 (nI (c + sR (fun i => b01 (prS E K i p)) k q)) (nI (p + 1)) M := by
  have hP12 := wE.2.1
  have mlt : ∀ h, h < eP E → mnS E K h < 10 := fun h hh => Nat.lt_succ_of_le (wE.2.2.2.2.2.2.2.2.1 _ (wK.1 h hh))
  intro k
  induction k with
  | zero =>
    intro fu q c hk hf
    obtain ⟨fu, rfl⟩ : ∃ f, fu = f + 1 := ⟨fu - 1, by omega⟩
    have hb : p ≤ q := by omega
    simp (disch := first | omega | simp only [qI2, qL2, qC2, qF2]) only [gX12_pairs_21, nI_leI, ↓if_pos hb, nI_1]
    rfl
  | succ k ih =>
    intro fu q c hk hf
    obtain ⟨fu, rfl⟩ : ∃ f, fu = f + 1 := ⟨fu - 1, by omega⟩
    have hb : ¬ p ≤ q := by omega
    have hq : q < eP E := by omega
    have y1 := m_mannerAt hS hE hK wE wK hp
    have y2 := m_mannerAt hS hE hK wE wK hq
    have a1 := m_apart (S := S) (M := M) (x := q) (m := mnS E K p) (by omega) (mlt p hp)
    have a2 := m_apart (S := S) (M := M) (x := p) (m := mnS E K p) (by omega) (mlt p hp)
    have a3 := m_apart (S := S) (M := M) (x := p) (m := mnS E K q) (by omega) (mlt q hq)
    have a4 := m_apart (S := S) (M := M) (x := q) (m := mnS E K q) (by omega) (mlt q hq)
    have l1 := apN_lt (x := q) (m := mnS E K p) (by omega) (mlt p hp)
    have l2 := apN_lt (x := p) (m := mnS E K p) (by omega) (mlt p hp)
    have l3 := apN_lt (x := p) (m := mnS E K q) (by omega) (mlt q hq)
    have l4 := apN_lt (x := q) (m := mnS E K q) (by omega) (mlt q hq)
    have h0 : nI c + 0 = nI c := Int32.add_zero _
    have step : gX12_pairs_21 S k9 (fu + 1) 306 (nI c) (nI p) (nI q) M = (if apN p (mnS E K p) ≤ apN q (mnS E K p) then gX12_pairs_21 S k9 fu 306 (nI c) (nI p) (nI (q + 1)) M else if apN q (mnS E K q) ≤ apN p (mnS E K q) then gX12_pairs_21 S k9 fu 306 (nI c) (nI p) (nI (q + 1)) M else gX12_pairs_21 S k9 fu 306 (nI (c + 1)) (nI p) (nI (q + 1)) M) := by
      simp (disch := first | omega | simp only [qI2, qL2, qC2, qF2]) only [gX12_pairs_21, nI_leI, if_neg hb, ↓mH hS, ↓bind_of y1, ↓bind_of y2, ↓bind_of a1, ↓bind_of a2, ↓bind_of a3, ↓bind_of a4, nI_1, h0]
    rw [step]
    show _ = k9 306 (nI (c + (b01 (prS E K q p) + sR (fun i => b01 (prS E K i p)) k (q + 1)))) (nI (p + 1)) M
    have e : b01 (prS E K q p) = (if apN p (mnS E K p) ≤ apN q (mnS E K p) then 0 else if apN q (mnS E K q) ≤ apN p (mnS E K q) then 0 else 1) := by
      unfold prS b01
      by_cases q1 : apN p (mnS E K p) ≤ apN q (mnS E K p)
      · rw [if_pos q1, decide_eq_false (p := apN q (mnS E K p) < apN p (mnS E K p)) (by omega), Bool.and_false]; rfl
      · rw [if_neg q1, decide_eq_true (p := apN q (mnS E K p) < apN p (mnS E K p)) (by omega), Bool.and_true]
        by_cases q2 : apN q (mnS E K q) ≤ apN p (mnS E K q)
        · rw [if_pos q2, decide_eq_false (by omega)]; rfl
        · rw [if_neg q2, decide_eq_true (by omega)]; rfl
    rw [e, ← Nat.add_assoc]
    split
    · rw [ih fu (q + 1) c (by omega) (by omega)]; rfl
    · split
      · rw [ih fu (q + 1) c (by omega) (by omega)]; rfl
      · rw [ih fu (q + 1) (c + 1) (by omega) (by omega)]
theorem m_p9 {S : List (Nat × Nat)} {M : zM} {E : zEn} {K : zKa} {B : Nat} (hS : pMs S M.2.2) (hE : pME M.1 E) (hK : pMk M.1 0 E K) (wE : wfE E) (wK : wfK E K B) : ∀ (k fu p c : Nat), p + k = eP E → k < fu →
    gX12_pairs_9 S fu 306 (nI c) (nI p) M = some (nI (c + sR (fun j => sR (fun i => b01 (prS E K i j)) j 0) k p), M) := by
  have hP12 := wE.2.1
  have hP := hE.1.2.1
  intro k
  induction k with
  | zero =>
    intro fu p c hk hf
    obtain ⟨fu, rfl⟩ : ∃ f, fu = f + 1 := ⟨fu - 1, by omega⟩
    have hb : eP E ≤ p := by omega
    simp (disch := first | omega | simp only [qI2, qL2, qC2, qF2]) only [gX12_pairs_9, ↓mH hS, ↓mL hS, hP, nI_leI, ↓if_pos hb]
    rfl
  | succ k ih =>
    intro fu p c hk hf
    obtain ⟨fu, rfl⟩ : ∃ f, fu = f + 1 := ⟨fu - 1, by omega⟩
    have hb : ¬ eP E ≤ p := by omega
    have r : gX12_pairs_21 S (gX12_pairs_9 S fu) zfu 306 (nI c) (nI p) 0 M = _ := m_p21 hS hE hK wE wK (show p < eP E by omega) p zfu 0 c (by omega) (by unfold zfu; omega)
    simp (disch := first | omega | simp only [qI2, qL2, qC2, qF2]) only [gX12_pairs_9, ↓mH hS, ↓mL hS, hP, nI_leI, if_neg hb, r]
    rw [ih fu (p + 1) _ (by omega) (by omega), Nat.add_assoc]
    rfl
theorem P_pairs : zP_pairs zInv := by
  intro S M hM
  refine zp (f := gX11_pairs S 0) (g := gX12_pairs S 306) ?_ M hM
  intro A M hw hc
  obtain ⟨t, E, K, le, im, st, no, tp, fl⟩ := A
  have hc2 : cIx S M t E K le im st no tp fl := hc
  have hw2 : aWx E K im st no tp fl := hw
  obtain ⟨⟨hS, hR, ht, h03, h04⟩, hV, hK, him, hst, hno, htp, hfl⟩ := hc2
  obtain ⟨wE, wK, wim, wst, wno, wtp, wfl⟩ := hw2
  have hT6 := wE.1
  have hP12 := wE.2.1
  have hW5 := wE.2.2.2.1
  have T0 := pTs_of hS hR t (Or.inr ht)
  have N0 := pSs_of hS hR 107 (by decide)
  have gT : ∀ (ρ : Type) (M' : zM) (f : Nat → Option ρ), M'.2.2 = M.2.2 → zgR S M' 0 11 14 3 f = f t := fun ρ M' f h => zgR_of ((hS 0 (by decide)).trans rfl) h03 M' f h
  have D := cD hS hR
  have c1 : gX6_changers S 185 t 107 M = some (nI (0 + prC (prS E K) (eP E))) := c_ch5 T0 N0 hV hK wE wK (eP E) zfu 0 0 (by omega) (by unfold zfu; omega)
  refine ⟨nI (0 + prC (prS E K) (eP E)), ?_, ?_⟩
  · simp (disch := first | omega | simp only [qI2, qL2, qC2, qF2]) only [gX11_pairs, ↓D, ↓gT, ↓bind_of c1]
  · skip
    intro M' hm
    have hm2 : mIx S M' E K im st no tp fl := hm
    obtain ⟨mS', mE, mK, mim, mst, mno, mtp, mfl, mmd⟩ := id hm2
    refine ⟨_, ?_, th0 M' 0⟩
    have m1 : gX12_pairs_9 S zfu 306 0 0 (zsI M' 306 0 0) = some (nI (0 + prM (prS E K) (eP E)), zsI M' 306 0 0) := m_p9 (M := zsI M' 306 0 0) mS' (pME_cg (fun a b k1 k2 => zsI_ne (by omega)) mE) (pMk_cg hP12 (fun a b q => zsI_ne (by unfold mS at q; omega)) mK) wE wK (eP E) zfu 0 0 (by omega) (by unfold zfu; omega)
    rw [pr_eq]
    simp (disch := first | omega | simp only [qI2, qL2, qC2, qF2]) only [gX12_pairs, ↓mH mS', m1]
