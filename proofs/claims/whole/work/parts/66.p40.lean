/-! pure part 40: rests, rest -/
theorem apH_c : ∀ x, x < 24 → ∀ m, m < 24 → (if 0 ≤ (nI x - nI m) then (nI x - nI m) else 0 - (nI x - nI m)) = nI (apN x m) := by decide +kernel
theorem apH_m : ∀ x, x < 24 → ∀ m, m < 24 → (if nI m ≤ nI x then nI x - nI m else nI m - nI x) = nI (apN x m) := by decide +kernel
def gS (E : zEn) (K : zKa) (a b mv an : Nat) : Int32 := if mv = 1 then (if an = 0 then 2 else 1) else if an = 0 then nI (eMn E a) - nI (apN (eHr E a) (eHr E b)) / 3 else nI (eMn E a) + kKn K a / 20
theorem c_gain {S : List (Nat × Nat)} {M : zM} {t a b mv an : Nat} {E : zEn} {K : zKa} {le : Int32} (hS : zShp S) (hR : pRf M.2.2) (h03 : M.2.2 0 3 = some t) (hT : pTs S M.2.2 t) (hV : pTv M.1 t E) (hK : pSv M.1 107 E K le) (wE : wfE E) (ha : a < eT E) (hb : b < eT E) (h1 : mv ≤ 1) (h2 : an ≤ 1) : gX11_gain S 0 (nI a) (nI b) (nI mv) (nI an) M = some (gS E K a b mv an) := by
  have hT6 := wE.1
  have D := cD hS hR
  have N := cN hS hR
  have gT : ∀ (ρ : Type) (M' : zM) (f : Nat → Option ρ), M'.2.2 = M.2.2 → zgR S M' 0 11 14 3 f = f t := fun ρ M' f h => zgR_of ((hS 0 (by decide)).trans rfl) h03 M' f h
  have F := tG hT
  have u1 := (hV.2.1 a ha).2.2
  have u2 := (hV.2.1 a ha).2.1
  have u3 := (hV.2.1 b hb).2.1
  have u4 : M.1 111 a = kKn K a := (hK.2.2.1 a (by omega)).1
  have ah := apH_c (eHr E a) (Nat.lt_succ_of_le (wE.2.2.2.2.2.2.2.1 a ha)) (eHr E b) (Nat.lt_succ_of_le (wE.2.2.2.2.2.2.2.1 b hb))
  unfold gS
  have n10 : ¬ nI 1 = 0 := by decide
  have n00 : nI 0 = 0 := rfl
  rcases (show mv = 0 ∨ mv = 1 by omega) with rfl | rfl
  · rcases (show an = 0 ∨ an = 1 by omega) with rfl | rfl
    · simp (disch := first | omega | simp only [qI2, qL2, qC2, qF2]) only [gX11_gain, ↓gT, ↓F, u1, ↓if_pos n00, u2, u3, ah]
      rfl
    · simp (disch := first | omega | simp only [qI2, qL2, qC2, qF2]) only [gX11_gain, gX11_gain_54, ↓gT, ↓F, u1, ↓if_pos n00, ↓if_neg n10, ↓D, ↓N, u4]
      rfl
  · rcases (show an = 0 ∨ an = 1 by omega) with rfl | rfl
    · simp (disch := first | omega | simp only [qI2, qL2, qC2, qF2]) only [gX11_gain, gX11_gain_54, ↓gT, ↓F, u1, ↓if_pos n00, ↓if_neg n10]
      rfl
    · simp (disch := first | omega | simp only [qI2, qL2, qC2, qF2]) only [gX11_gain, gX11_gain_54, ↓gT, ↓F, u1, ↓if_neg n10]
      rfl
theorem m_hasOf {S : List (Nat × Nat)} {M : zM} {a b mv an : Nat} {E : zEn} {K : zKa} (hS : pMs S M.2.2) (hE : pME M.1 E) (hK : pMk M.1 0 E K) (wE : wfE E) (ha : a < eT E) (hb : b < eT E) (h1 : mv ≤ 1) (h2 : an ≤ 1) : gX12_hasOf S 306 (nI a) (nI b) (nI mv) (nI an) M = some (gS E K a b mv an) := by
  have hT6 := wE.1
  have u1 := (hE.2.1 a ha).2.2
  have u2 := (hE.2.1 a ha).2.1
  have u3 := (hE.2.1 b hb).2.1
  have u4 : M.1 332 a = kKn K a := by have := (hK.2.1 a (by omega)).1; rw [show 6 * 0 + a = a by omega] at this; exact this
  have ah := apH_m (eHr E a) (Nat.lt_succ_of_le (wE.2.2.2.2.2.2.2.1 a ha)) (eHr E b) (Nat.lt_succ_of_le (wE.2.2.2.2.2.2.2.1 b hb))
  have ap : gX12_apart S (nI (eHr E a)) (nI (eHr E b)) M = some (nI (apN (eHr E a) (eHr E b))) := by
    unfold gX12_apart
    rw [← ah]
    split <;> rfl
  unfold gS
  have n01 : ¬ nI 0 = (1 : Int32) := by decide
  have n11 : nI 1 = (1 : Int32) := rfl
  have n10 : ¬ nI 1 = 0 := by decide
  have n00 : nI 0 = 0 := rfl
  rcases (show mv = 0 ∨ mv = 1 by omega) with rfl | rfl
  · rcases (show an = 0 ∨ an = 1 by omega) with rfl | rfl
    · simp (disch := first | omega | simp only [qI2, qL2, qC2, qF2]) only [gX12_hasOf, ↓if_neg n01, ↓if_pos n00, ↓mH hS, ↓mG hS, u1, u2, u3, ↓bind_of ap]
      rfl
    · simp (disch := first | omega | simp only [qI2, qL2, qC2, qF2]) only [gX12_hasOf, ↓if_neg n01, ↓if_neg n10, ↓mH hS, ↓mG hS, u1, u4]
      rfl
  · rcases (show an = 0 ∨ an = 1 by omega) with rfl | rfl
    · simp (disch := first | omega | simp only [qI2, qL2, qC2, qF2]) only [gX12_hasOf, ↓if_pos n11, ↓if_pos n00]
      rfl
    · simp (disch := first | omega | simp only [qI2, qL2, qC2, qF2]) only [gX12_hasOf, ↓if_pos n11, ↓if_neg n10]
      rfl
def reS (E : zEn) (K : zKa) (o p m : Nat) : Bool := if gS E K o p (m / 2) (m % 2) < gS E K o p (1 - m / 2) (m % 2) then false else if gS E K p o (m % 2) (m / 2) < gS E K p o (1 - m % 2) (m / 2) then false else true
theorem mv4 : ∀ m, m < 4 → (nI m >>> ((1 : Int32) &&& 31)) = nI (m / 2) ∧ (nI m &&& (1 : Int32)) = nI (m % 2) ∧ (1 : Int32) - nI (m / 2) = nI (1 - m / 2) ∧ (1 : Int32) - nI (m % 2) = nI (1 - m % 2) ∧ nI m / (2 : Int32) = nI (m / 2) ∧ (nI m - nI (m / 2) * (2 : Int32)) = nI (m % 2) := by decide +kernel
theorem c_isRest {S : List (Nat × Nat)} {M : zM} {t o p m : Nat} {E : zEn} {K : zKa} {le : Int32} (hS : zShp S) (hR : pRf M.2.2) (h03 : M.2.2 0 3 = some t) (hT : pTs S M.2.2 t) (hV : pTv M.1 t E) (hK : pSv M.1 107 E K le) (wE : wfE E) (ho : o < eT E) (hp : p < eT E) (hm : m < 4) : gX11_isRest S 0 (nI o) (nI p) (nI m) M = some (bI (reS E K o p m)) := by
  have D := cD hS hR
  obtain ⟨m1, m2, m3, m4, m5, m6⟩ := mv4 m hm
  have g1 := c_gain (mv := m / 2) (an := m % 2) hS hR h03 hT hV hK wE ho hp (by omega) (by omega)
  have g2 := c_gain (mv := 1 - m / 2) (an := m % 2) hS hR h03 hT hV hK wE ho hp (by omega) (by omega)
  have g3 := c_gain (mv := m % 2) (an := m / 2) hS hR h03 hT hV hK wE hp ho (by omega) (by omega)
  have g4 := c_gain (mv := 1 - m % 2) (an := m / 2) hS hR h03 hT hV hK wE hp ho (by omega) (by omega)
  unfold reS
  simp only [gX11_isRest, m1, m2, m3, m4]
  simp (disch := first | omega | simp only [qI2, qL2, qC2, qF2]) only [↓D, ↓bind_of g1, ↓bind_of g2, ↓bind_of g3, ↓bind_of g4]
  split
  · rfl
  split <;> rfl
theorem m_isRest {S : List (Nat × Nat)} {M : zM} {o p m : Nat} {E : zEn} {K : zKa} (hS : pMs S M.2.2) (hE : pME M.1 E) (hK : pMk M.1 0 E K) (wE : wfE E) (ho : o < eT E) (hp : p < eT E) (hm : m < 4) : gX12_isRest S 306 (nI o) (nI p) (nI m) M = some (bI (reS E K o p m)) := by
  obtain ⟨m1, m2, m3, m4, m5, m6⟩ := mv4 m hm
  have g1 := m_hasOf (mv := m / 2) (an := m % 2) hS hE hK wE ho hp (by omega) (by omega)
  have g2 := m_hasOf (mv := 1 - m / 2) (an := m % 2) hS hE hK wE ho hp (by omega) (by omega)
  have g3 := m_hasOf (mv := m % 2) (an := m / 2) hS hE hK wE hp ho (by omega) (by omega)
  have g4 := m_hasOf (mv := 1 - m % 2) (an := m / 2) hS hE hK wE hp ho (by omega) (by omega)
  unfold reS
  simp only [gX12_isRest, m5, m6, m3, m4]
  simp (disch := first | omega | simp only [qI2, qL2, qC2, qF2]) only [↓mH hS, ↓bind_of g1, ↓bind_of g2, ↓bind_of g3, ↓bind_of g4]
  split
  · rfl
  split <;> rfl
def rcS (E : zEn) (K : zKa) (o p : Nat) : Nat → Nat → Nat → Nat
  | 0, _, n => n
  | k + 1, m, n => rcS E K o p k (m + 1) (if reS E K o p m then n + 1 else n)
def rkS (E : zEn) (K : zKa) (o p q : Nat) : Nat → Nat → Nat → Int32
  | 0, _, _ => -2
  | k + 1, m, n => if reS E K o p m then (if n = q then 10 * nI (m / 2) + nI (m % 2) else rkS E K o p q k (m + 1) (n + 1)) else rkS E K o p q k (m + 1) n
theorem c_rs34 {S : List (Nat × Nat)} {M : zM} {t o p : Nat} {E : zEn} {K : zKa} {le : Int32} (hS : zShp S) (hR : pRf M.2.2) (h03 : M.2.2 0 3 = some t) (hT : pTs S M.2.2 t) (hV : pTv M.1 t E) (hK : pSv M.1 107 E K le) (wE : wfE E) (ho : o < eT E) (hp : p < eT E) : ∀ (k fu m n : Nat), m + k = 4 → k < fu → gX11_rests_34 S fu 0 (nI o) (nI p) (nI n) (nI m) M = some (nI (rcS E K o p k m n)) := by
  have D := cD hS hR
  intro k
  induction k with
  | zero =>
    intro fu m n hk hf
    obtain ⟨fu, rfl⟩ : ∃ f, fu = f + 1 := ⟨fu - 1, by omega⟩
    have hb : 4 ≤ m := by omega
    simp (disch := first | omega | simp only [qI2, qL2, qC2, qF2]) only [gX11_rests_34, li4, nI_leI, ↓if_pos hb]
    rfl
  | succ k ih =>
    intro fu m n hk hf
    obtain ⟨fu, rfl⟩ : ∃ f, fu = f + 1 := ⟨fu - 1, by omega⟩
    have hb : ¬ 4 ≤ m := by omega
    have r := c_isRest hS hR h03 hT hV hK wE ho hp (show m < 4 by omega)
    show _ = some (nI (rcS E K o p k (m + 1) (if reS E K o p m then n + 1 else n)))
    cases hc : reS E K o p m with
    | true =>
      rw [hc] at r
      simp (disch := first | omega | simp only [qI2, qL2, qC2, qF2]) only [gX11_rests_34, li4, nI_leI, if_neg hb, ↓D, ↓bind_of r, ↓if_neg bIt, nI_1]
      exact ih fu (m + 1) (n + 1) (by omega) (by omega)
    | false =>
      rw [hc] at r
      simp (disch := first | omega | simp only [qI2, qL2, qC2, qF2]) only [gX11_rests_34, li4, nI_leI, if_neg hb, ↓D, ↓bind_of r, bIf, if_true, nI_1]
      exact ih fu (m + 1) n (by omega) (by omega)
theorem c_rk39 {S : List (Nat × Nat)} {M : zM} {t o p q : Nat} {E : zEn} {K : zKa} {le : Int32} (hS : zShp S) (hR : pRf M.2.2) (h03 : M.2.2 0 3 = some t) (hT : pTs S M.2.2 t) (hV : pTv M.1 t E) (hK : pSv M.1 107 E K le) (wE : wfE E) (ho : o < eT E) (hp : p < eT E) (hq : q < 2 ^ 31) : ∀ (k fu m n : Nat), m + k = 4 → n ≤ q → k < fu → gX11_rest_39 S fu 0 (nI o) (nI p) (nI (q - n)) (nI m) M = some (rkS E K o p q k m n) := by
  have D := cD hS hR
  intro k
  induction k with
  | zero =>
    intro fu m n hk hn hf
    obtain ⟨fu, rfl⟩ : ∃ f, fu = f + 1 := ⟨fu - 1, by omega⟩
    have hb : 4 ≤ m := by omega
    simp (disch := first | omega | simp only [qI2, qL2, qC2, qF2]) only [gX11_rest_39, li4, nI_leI, ↓if_pos hb]
    rfl
  | succ k ih =>
    intro fu m n hk hn hf
    obtain ⟨fu, rfl⟩ : ∃ f, fu = f + 1 := ⟨fu - 1, by omega⟩
    have hb : ¬ 4 ≤ m := by omega
    have r := c_isRest hS hR h03 hT hV hK wE ho hp (show m < 4 by omega)
    obtain ⟨m1, m2, m3, m4, m5, m6⟩ := mv4 m (by omega)
    show _ = some (if reS E K o p m then (if n = q then 10 * nI (m / 2) + nI (m % 2) else rkS E K o p q k (m + 1) (n + 1)) else rkS E K o p q k (m + 1) n)
    cases hc : reS E K o p m with
    | true =>
      rw [hc] at r
      rw [if_pos rfl]
      by_cases hnq : n = q
      · have z : nI (q - n) = 0 := by rw [hnq, Nat.sub_self]; rfl
        rw [if_pos hnq]
        simp (disch := first | omega | simp only [qI2, qL2, qC2, qF2]) only [gX11_rest_39, li4, nI_leI, if_neg hb, ↓D, ↓bind_of r, ↓if_neg bIt, ↓if_pos z, m1, m2]
      · have z : ¬ nI (q - n) = 0 := nI_ne0 (by omega) (by omega)
        rw [if_neg hnq]
        have z2 : nI (q - n) + (-1) = nI (q - (n + 1)) := by rw [show q - n = (q - (n + 1)) + 1 by omega, pk_m1]
        simp (disch := first | omega | simp only [qI2, qL2, qC2, qF2]) only [gX11_rest_39, li4, nI_leI, if_neg hb, ↓D, ↓bind_of r, ↓if_neg bIt, ↓if_neg z, z2, nI_1]
        exact ih fu (m + 1) (n + 1) (by omega) (by omega) (by omega)
    | false =>
      rw [hc] at r
      rw [if_neg Bool.false_ne_true]
      simp (disch := first | omega | simp only [qI2, qL2, qC2, qF2]) only [gX11_rest_39, li4, nI_leI, if_neg hb, ↓D, ↓bind_of r, bIf, if_true, nI_1]
      exact ih fu (m + 1) n (by omega) hn (by omega)
theorem m_rc6 {S : List (Nat × Nat)} {M : zM} {o p : Nat} {E : zEn} {K : zKa} (hS : pMs S M.2.2) (hE : pME M.1 E) (hK : pMk M.1 0 E K) (wE : wfE E) (ho : o < eT E) (hp : p < eT E) : ∀ (k fu m n : Nat), m + k = 4 → n ≤ m → k < fu → gX12_restOf_6 S fu 306 (nI o) (nI p) (-1) (nI n) (nI m) M = some (nI (rcS E K o p k m n)) := by
  intro k
  induction k with
  | zero =>
    intro fu m n hk hn hf
    obtain ⟨fu, rfl⟩ : ∃ f, fu = f + 1 := ⟨fu - 1, by omega⟩
    have hb : 4 ≤ m := by omega
    simp (disch := first | omega | simp only [qI2, qL2, qC2, qF2]) only [gX12_restOf_6, li4, nI_leI, ↓if_pos hb, if_true]
    rfl
  | succ k ih =>
    intro fu m n hk hn hf
    obtain ⟨fu, rfl⟩ : ∃ f, fu = f + 1 := ⟨fu - 1, by omega⟩
    have hb : ¬ 4 ≤ m := by omega
    have r := m_isRest hS hE hK wE ho hp (show m < 4 by omega)
    have z : ¬ nI n = -1 := nI_m1ne (by omega)
    show _ = some (nI (rcS E K o p k (m + 1) (if reS E K o p m then n + 1 else n)))
    cases hc : reS E K o p m with
    | true =>
      rw [hc] at r
      simp (disch := first | omega | simp only [qI2, qL2, qC2, qF2]) only [gX12_restOf_6, li4, nI_leI, if_neg hb, ↓mH hS, ↓bind_of r, ↓if_neg bIt, ↓if_neg z, nI_1]
      exact ih fu (m + 1) (n + 1) (by omega) (by omega) (by omega)
    | false =>
      rw [hc] at r
      simp (disch := first | omega | simp only [qI2, qL2, qC2, qF2]) only [gX12_restOf_6, li4, nI_leI, if_neg hb, ↓mH hS, ↓bind_of r, bIf, if_true, nI_1]
      exact ih fu (m + 1) n (by omega) (by omega) (by omega)
theorem m_rk6 {S : List (Nat × Nat)} {M : zM} {o p q : Nat} {E : zEn} {K : zKa} (hS : pMs S M.2.2) (hE : pME M.1 E) (hK : pMk M.1 0 E K) (wE : wfE E) (ho : o < eT E) (hp : p < eT E) (hq : q < 2 ^ 31) : ∀ (k fu m n : Nat), m + k = 4 → n ≤ m → k < fu → gX12_restOf_6 S fu 306 (nI o) (nI p) (nI q) (nI n) (nI m) M = some (rkS E K o p q k m n) := by
  have zq : ¬ nI q = -1 := nI_m1ne hq
  intro k
  induction k with
  | zero =>
    intro fu m n hk hn hf
    obtain ⟨fu, rfl⟩ : ∃ f, fu = f + 1 := ⟨fu - 1, by omega⟩
    have hb : 4 ≤ m := by omega
    simp (disch := first | omega | simp only [qI2, qL2, qC2, qF2]) only [gX12_restOf_6, li4, nI_leI, ↓if_pos hb, ↓if_neg zq]
    rfl
  | succ k ih =>
    intro fu m n hk hn hf
    obtain ⟨fu, rfl⟩ : ∃ f, fu = f + 1 := ⟨fu - 1, by omega⟩
    have hb : ¬ 4 ≤ m := by omega
    have r := m_isRest hS hE hK wE ho hp (show m < 4 by omega)
    obtain ⟨m1, m2, m3, m4, m5, m6⟩ := mv4 m (by omega)
    show _ = some (if reS E K o p m then (if n = q then 10 * nI (m / 2) + nI (m % 2) else rkS E K o p q k (m + 1) (n + 1)) else rkS E K o p q k (m + 1) n)
    cases hc : reS E K o p m with
    | true =>
      rw [hc] at r
      rw [if_pos rfl]
      by_cases hnq : n = q
      · rw [if_pos hnq]
        have z : nI n = nI q := by rw [hnq]
        simp (disch := first | omega | simp only [qI2, qL2, qC2, qF2]) only [gX12_restOf_6, li4, nI_leI, if_neg hb, ↓mH hS, ↓bind_of r, ↓if_neg bIt, ↓if_pos z, m5, m6]
      · rw [if_neg hnq]
        have z : ¬ nI n = nI q := fun h => hnq ((nI_eq (by omega) hq).mp h)
        simp (disch := first | omega | simp only [qI2, qL2, qC2, qF2]) only [gX12_restOf_6, li4, nI_leI, if_neg hb, ↓mH hS, ↓bind_of r, ↓if_neg bIt, ↓if_neg z, nI_1]
        exact ih fu (m + 1) (n + 1) (by omega) (by omega) (by omega)
    | false =>
      rw [hc] at r
      rw [if_neg Bool.false_ne_true]
      simp (disch := first | omega | simp only [qI2, qL2, qC2, qF2]) only [gX12_restOf_6, li4, nI_leI, if_neg hb, ↓mH hS, ↓bind_of r, bIf, if_true, nI_1]
      exact ih fu (m + 1) n (by omega) (by omega) (by omega)
def twS (E : zEn) (a1 a2 : Int32) : Bool := if a1 = a2 then false else inR (eT E) a1 && inR (eT E) a2
theorem m_areTwo {S : List (Nat × Nat)} {M : zM} {E : zEn} {a1 a2 : Int32} (hS : pMs S M.2.2) (hE : pME M.1 E) : gX12_areTwo S 306 a1 a2 M = some (bI (twS E a1 a2)) := by
  have p1 := e_isTrade (x := a1) hS hE.1.1
  have p2 := e_isTrade (x := a2) hS hE.1.1
  unfold twS
  by_cases q : a1 = a2
  · rw [if_pos q]
    cases h1 : inR (eT E) a1 with
    | false =>
      rw [h1] at p1
      simp (disch := first | omega | simp only [qI2, qL2, qC2, qF2]) only [gX12_areTwo, ↓mH hS, ↓bind_of p1, bIf, if_true]
    | true =>
      rw [h1] at p1
      rw [← q, h1] at p2
      have p1' := p1
      rw [q] at p1'
      simp (disch := first | omega | simp only [qI2, qL2, qC2, qF2]) only [gX12_areTwo, ↓mH hS, ↓bind_of p1, ↓bind_of p1', if_neg bIt, ↓if_pos q]
      rfl
  · rw [if_neg q]
    cases h1 : inR (eT E) a1 with
    | false =>
      rw [h1] at p1
      simp (disch := first | omega | simp only [qI2, qL2, qC2, qF2]) only [gX12_areTwo, ↓mH hS, ↓bind_of p1, bIf, if_true, Bool.false_and]
    | true =>
      rw [h1] at p1
      cases h2 : inR (eT E) a2 with
      | false =>
        rw [h2] at p2
        simp (disch := first | omega | simp only [qI2, qL2, qC2, qF2]) only [gX12_areTwo, ↓mH hS, ↓bind_of p1, ↓bind_of p2, if_neg bIt, bIf, if_true, Bool.and_false]
      | true =>
        rw [h2] at p2
        simp (disch := first | omega | simp only [qI2, qL2, qC2, qF2]) only [gX12_areTwo, ↓mH hS, ↓bind_of p1, ↓bind_of p2, if_neg bIt, ↓if_neg q, Bool.and_self]
        rfl
theorem twS_ex {E : zEn} {a1 a2 : Int32} (hT : eT E ≤ 6) (h : twS E a1 a2 = true) : ¬ a1 = a2 ∧ inR (eT E) a1 = true ∧ inR (eT E) a2 = true ∧ ∃ o p, o < eT E ∧ p < eT E ∧ a1 = nI o ∧ a2 = nI p := by
  unfold twS at h
  by_cases q : a1 = a2
  · rw [if_pos q] at h; cases h
  · rw [if_neg q, Bool.and_eq_true] at h
    obtain ⟨o, ho, e1⟩ := inR_ex (by omega) h.1
    obtain ⟨p, hp, e2⟩ := inR_ex (by omega) h.2
    exact ⟨q, h.1, h.2, o, p, ho, hp, e1, e2⟩
theorem P_rests : zP_rests zInv := by
  intro S M hM a1 a2
  refine zp (f := gX11_rests S 0 a1 a2) (g := gX12_rests S 306 a1 a2) ?_ M hM
  intro A M hw hc
  obtain ⟨t, E, K, le, im, st, no, tp, fl⟩ := A
  have hc2 : cIx S M t E K le im st no tp fl := hc
  have hw2 : aWx E K im st no tp fl := hw
  obtain ⟨⟨hS, hR, ht, h03, h04⟩, hV, hK, him, hst, hno, htp, hfl⟩ := hc2
  obtain ⟨wE, wK, wim, wst, wno, wtp, wfl⟩ := hw2
  have hT6 := wE.1
  have hP12 := wE.2.1
  have hW5 := wE.2.2.2.1
  have T0 := pTs_of hS hR t (Or.inr ht)
  have N0 := pSs_of hS hR 107 (by decide)
  have gT : ∀ (ρ : Type) (M' : zM) (f : Nat → Option ρ), M'.2.2 = M.2.2 → zgR S M' 0 11 14 3 f = f t := fun ρ M' f h => zgR_of ((hS 0 (by decide)).trans rfl) h03 M' f h
  have hrc : ∀ (ρ : Type) (o : Option ρ), zrc S t 10 18 o = o := fun ρ o => zrc_ok T0.1
  have p1 := e_hasTrade (M := M) (x := a1) T0.1 hV.1.1
  have p2 := e_hasTrade (M := M) (x := a2) T0.1 hV.1.1
  have mt : ∀ M' : zM, mIx S M' E K im st no tp fl → gX12_areTwo S 306 a1 a2 (zsI M' 306 0 0) = some (bI (twS E a1 a2)) := fun M' hm => m_areTwo (M := zsI M' 306 0 0) hm.1 (pME_cg (fun a b k1 k2 => zsI_ne (by omega)) hm.2.1)
  cases h : twS E a1 a2 with
  | false =>
    rw [h] at mt
    refine ⟨-1, ?_, ?_⟩
    · by_cases q : a1 = a2
      · simp only [gX11_rests, ↓if_pos q]
      · unfold twS at h
        rw [if_neg q] at h
        cases h1 : inR (eT E) a1 with
        | false =>
          rw [h1] at p1
          simp (disch := first | omega | simp only [qI2, qL2, qC2, qF2]) only [gX11_rests, ↓if_neg q, ↓gT, ↓hrc, ↓bind_of p1, bIf, if_true]
        | true =>
          rw [h1] at p1
          rw [h1, Bool.true_and] at h
          rw [h] at p2
          simp (disch := first | omega | simp only [qI2, qL2, qC2, qF2]) only [gX11_rests, ↓if_neg q, ↓gT, ↓hrc, ↓bind_of p1, ↓bind_of p2, if_neg bIt, bIf, if_true]
    · skip
      intro M' hm
      have hm2 : mIx S M' E K im st no tp fl := hm
      obtain ⟨mS', mE, mK, mim, mst, mno, mtp, mfl, mmd⟩ := id hm2
      refine ⟨_, ?_, th0 M' 0⟩
      simp (disch := first | omega | simp only [qI2, qL2, qC2, qF2]) only [gX12_rests, ↓mH mS', ↓bind_of (mt M' hm2), bIf, if_true]
  | true =>
    rw [h] at mt
    obtain ⟨q, h1, h2, o, p, ho, hp, rfl, rfl⟩ := twS_ex hT6 h
    rw [h1] at p1
    rw [h2] at p2
    have r : gX11_rests_34 S zfu 0 (nI o) (nI p) 0 0 M = _ := c_rs34 hS hR h03 T0 hV hK wE ho hp 4 zfu 0 0 (by omega) (by unfold zfu; omega)
    refine ⟨nI (rcS E K o p 4 0 0), ?_, ?_⟩
    · simp (disch := first | omega | simp only [qI2, qL2, qC2, qF2]) only [gX11_rests, ↓if_neg q, ↓gT, ↓hrc, ↓bind_of p1, ↓bind_of p2, if_neg bIt, r]
    · skip
      intro M' hm
      have hm2 : mIx S M' E K im st no tp fl := hm
      obtain ⟨mS', mE, mK, mim, mst, mno, mtp, mfl, mmd⟩ := id hm2
      refine ⟨_, ?_, th0 M' 0⟩
      have r2 : gX12_restOf S 306 (nI o) (nI p) (-1) (zsI M' 306 0 0) = some (nI (rcS E K o p 4 0 0)) := m_rc6 (M := zsI M' 306 0 0) mS' (pME_cg (fun a b k1 k2 => zsI_ne (by omega)) mE) (pMk_cg hP12 (fun a b q => zsI_ne (by unfold mS at q; omega)) mK) wE ho hp 4 zfu 0 0 (by omega) (by omega) (by unfold zfu; omega)
      simp (disch := first | omega | simp only [qI2, qL2, qC2, qF2]) only [gX12_rests, ↓mH mS', ↓bind_of (mt M' hm2), if_neg bIt, ↓bind_of r2]
theorem P_rest : zP_rest zInv := by
  intro S M hM a1 a2 a3
  refine zp (f := gX11_rest S 0 a1 a2 a3) (g := gX12_rest S 306 a1 a2 a3) ?_ M hM
  intro A M hw hc
  obtain ⟨t, E, K, le, im, st, no, tp, fl⟩ := A
  have hc2 : cIx S M t E K le im st no tp fl := hc
  have hw2 : aWx E K im st no tp fl := hw
  obtain ⟨⟨hS, hR, ht, h03, h04⟩, hV, hK, him, hst, hno, htp, hfl⟩ := hc2
  obtain ⟨wE, wK, wim, wst, wno, wtp, wfl⟩ := hw2
  have hT6 := wE.1
  have hP12 := wE.2.1
  have hW5 := wE.2.2.2.1
  have T0 := pTs_of hS hR t (Or.inr ht)
  have N0 := pSs_of hS hR 107 (by decide)
  have gT : ∀ (ρ : Type) (M' : zM) (f : Nat → Option ρ), M'.2.2 = M.2.2 → zgR S M' 0 11 14 3 f = f t := fun ρ M' f h => zgR_of ((hS 0 (by decide)).trans rfl) h03 M' f h
  have hrc : ∀ (ρ : Type) (o : Option ρ), zrc S t 10 18 o = o := fun ρ o => zrc_ok T0.1
  have p1 := e_hasTrade (M := M) (x := a1) T0.1 hV.1.1
  have p2 := e_hasTrade (M := M) (x := a2) T0.1 hV.1.1
  have mt : ∀ M' : zM, mIx S M' E K im st no tp fl → gX12_areTwo S 306 a1 a2 (zsI M' 306 0 0) = some (bI (twS E a1 a2)) := fun M' hm => m_areTwo (M := zsI M' 306 0 0) hm.1 (pME_cg (fun a b k1 k2 => zsI_ne (by omega)) hm.2.1)
  cases h : twS E a1 a2 with
  | false =>
    rw [h] at mt
    refine ⟨-1, ?_, ?_⟩
    · by_cases q : a1 = a2
      · simp only [gX11_rest, ↓if_pos q]
      · unfold twS at h
        rw [if_neg q] at h
        cases h1 : inR (eT E) a1 with
        | false =>
          rw [h1] at p1
          simp (disch := first | omega | simp only [qI2, qL2, qC2, qF2]) only [gX11_rest, ↓if_neg q, ↓gT, ↓hrc, ↓bind_of p1, bIf, if_true]
        | true =>
          rw [h1] at p1
          rw [h1, Bool.true_and] at h
          rw [h] at p2
          simp (disch := first | omega | simp only [qI2, qL2, qC2, qF2]) only [gX11_rest, ↓if_neg q, ↓gT, ↓hrc, ↓bind_of p1, ↓bind_of p2, if_neg bIt, bIf, if_true]
    · skip
      intro M' hm
      have hm2 : mIx S M' E K im st no tp fl := hm
      obtain ⟨mS', mE, mK, mim, mst, mno, mtp, mfl, mmd⟩ := id hm2
      refine ⟨_, ?_, th0 M' 0⟩
      simp (disch := first | omega | simp only [qI2, qL2, qC2, qF2]) only [gX12_rest, ↓mH mS', ↓bind_of (mt M' hm2), bIf, if_true]
  | true =>
    rw [h] at mt
    obtain ⟨q, h1, h2, o, p, ho, hp, rfl, rfl⟩ := twS_ex hT6 h
    rw [h1] at p1
    rw [h2] at p2
    by_cases c0 : a3 < 0
    · have c0' : ¬ 0 ≤ a3 := Int32.not_le.mpr c0
      refine ⟨-1, ?_, ?_⟩
      · simp (disch := first | omega | simp only [qI2, qL2, qC2, qF2]) only [gX11_rest, ↓if_neg q, ↓gT, ↓hrc, ↓bind_of p1, ↓bind_of p2, if_neg bIt, ↓if_neg c0']
      · skip
        intro M' hm
        have hm2 : mIx S M' E K im st no tp fl := hm
        obtain ⟨mS', mE, mK, mim, mst, mno, mtp, mfl, mmd⟩ := id hm2
        refine ⟨_, ?_, th0 M' 0⟩
        simp (disch := first | omega | simp only [qI2, qL2, qC2, qF2]) only [gX12_rest, ↓mH mS', ↓bind_of (mt M' hm2), if_neg bIt, ↓if_pos c0]
    · have c0' : 0 ≤ a3 := Int32.not_lt.mp c0
      obtain ⟨x, hx, rfl⟩ := nI_of c0
      have r : gX11_rest_39 S zfu 0 (nI o) (nI p) (nI (x - 0)) 0 M = _ := c_rk39 (q := x) hS hR h03 T0 hV hK wE ho hp hx 4 zfu 0 0 (by omega) (by omega) (by unfold zfu; omega)
      rw [Nat.sub_zero] at r
      refine ⟨rkS E K o p x 4 0 0, ?_, ?_⟩
      · simp (disch := first | omega | simp only [qI2, qL2, qC2, qF2]) only [gX11_rest, ↓if_neg q, ↓gT, ↓hrc, ↓bind_of p1, ↓bind_of p2, if_neg bIt, ↓if_pos c0', r]
      · skip
        intro M' hm
        have hm2 : mIx S M' E K im st no tp fl := hm
        obtain ⟨mS', mE, mK, mim, mst, mno, mtp, mfl, mmd⟩ := id hm2
        refine ⟨_, ?_, th0 M' 0⟩
        have r2 : gX12_restOf S 306 (nI o) (nI p) (nI x) (zsI M' 306 0 0) = some (rkS E K o p x 4 0 0) := m_rk6 (q := x) (M := zsI M' 306 0 0) mS' (pME_cg (fun a b k1 k2 => zsI_ne (by omega)) mE) (pMk_cg hP12 (fun a b q => zsI_ne (by unfold mS at q; omega)) mK) wE ho hp hx 4 zfu 0 0 (by omega) (by omega) (by unfold zfu; omega)
        simp (disch := first | omega | simp only [qI2, qL2, qC2, qF2]) only [gX12_rest, ↓mH mS', ↓bind_of (mt M' hm2), if_neg bIt, ↓if_neg c0, ↓bind_of r2]
