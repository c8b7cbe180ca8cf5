/-! pure part 38: power, even, rare -/
theorem sR_0 {g : Nat → Nat} : ∀ k i, (∀ j, i ≤ j → j < i + k → g j = 0) → sR g k i = 0
  | 0, _, _ => rfl
  | k + 1, i, h => by
    show g i + sR g k (i + 1) = 0
    rw [h i (Nat.le_refl _) (by omega), sR_0 k (i + 1) (fun j h1 h2 => h j (by omega) (by omega))]
theorem sR_ap {g : Nat → Nat} : ∀ k d i, (∀ j, i + k ≤ j → j < i + k + d → g j = 0) → sR g (k + d) i = sR g k i
  | 0, d, i, h => by
    rw [Nat.zero_add]
    exact sR_0 d i (fun j h1 h2 => h j (by omega) (by omega))
  | k + 1, d, i, h => by
    rw [show k + 1 + d = (k + d) + 1 by omega]
    show g i + sR g (k + d) (i + 1) = g i + sR g k (i + 1)
    rw [sR_ap k d (i + 1) (fun j h1 h2 => h j (by omega) (by omega))]
theorem sR_le {g : Nat → Nat} {c : Nat} (h : ∀ j, g j ≤ c) : ∀ k i, sR g k i ≤ k * c
  | 0, _ => Nat.zero_le _
  | k + 1, i => by
    have h1 := sR_le h k (i + 1)
    have h2 := h i
    show g i + sR g k (i + 1) ≤ (k + 1) * c
    rw [Nat.add_mul]
    omega
theorem sR_ge {g : Nat → Nat} : ∀ k i j, i ≤ j → j < i + k → g j ≤ sR g k i
  | 0, i, j, h1, h2 => by omega
  | k + 1, i, j, h1, h2 => by
    show g j ≤ g i + sR g k (i + 1)
    by_cases h : j = i
    · rw [h]; omega
    · have := sR_ge (g := g) k (i + 1) j (by omega) (by omega)
      omega
def gB (W : Nat → Nat) (m : Nat) : Nat → Nat := fun i => if m.testBit i then W i else 0
theorem gB_le {W : Nat → Nat} {m c : Nat} (h : ∀ i, W i ≤ c) (j : Nat) : gB W m j ≤ c := by
  unfold gB
  split
  · exact h j
  · exact Nat.zero_le _
theorem tb_hi {m T j : Nat} (hm : m < 2 ^ T) (h : T ≤ j) : m.testBit j = false := Nat.testBit_lt_two_pow (Nat.lt_of_lt_of_le hm (Nat.pow_le_pow_right (by decide) h))
theorem gB_6 {W : Nat → Nat} {m T : Nat} (hT : T ≤ 6) (hm : m < 2 ^ T) : sR (gB W m) 6 0 = sR (gB W m) T 0 := by
  rw [show (6 : Nat) = T + (6 - T) by omega]
  refine sR_ap T (6 - T) 0 (fun j h1 h2 => ?_)
  unfold gB
  rw [tb_hi hm (by omega)]
  rfl
theorem shl1 : ∀ T, T < 7 → (1 : Int32) <<< (nI T &&& 31) = nI (2 ^ T) := by decide +kernel
theorem m64 {m T : Nat} (hT : T ≤ 6) (hm : m < 2 ^ T) : m < 64 := Nat.lt_of_lt_of_le hm (Nat.pow_le_pow_right (n := 2) (j := 6) (by decide) hT)
def wgt (E : zEn) (K : zKa) (i : Nat) : Nat := plc E K (nI i)
theorem wgt_le {E : zEn} {K : zKa} (hP : eP E ≤ 12) (i : Nat) : wgt E K i ≤ 12 := Nat.le_trans (cnt_le _ _ _ _) hP
theorem c_weigh2 {S : List (Nat × Nat)} {R : Nat → Nat → Option Nat} {I : Nat → Nat → Int32} {t : Nat} {E : zEn} {K : zKa} {le : Int32} (hS : zShp S) (hR : pRf R) (hT : pTs S R t) (ht : t = 43 ∨ t = 75) (hV : pTv I t E) (hK : pSv I 107 E K le) (wE : wfE E) : ∀ (k fu i : Nat) (M : zM), M.2.2 = R → (∀ a b, ¬ a = 191 → M.1 a b = I a b) → i + k = eT E → k < fu →
    ∃ M', gX6_weigh_2 S fu 185 t 107 (nI i) M = some M' ∧ M'.2.2 = R ∧ (∀ a b, ¬ a = 191 → M'.1 a b = I a b) ∧ (∀ j, ¬ (i ≤ j ∧ j < eT E) → M'.1 191 j = M.1 191 j) ∧ (∀ j, i ≤ j → j < eT E → M'.1 191 j = nI (wgt E K j)) := by
  have hT6 := wE.1
  have hP12 := wE.2.1
  have D := cD hS hR
  have EE := cE hS hR
  intro k
  induction k with
  | zero =>
    intro fu i M hMR hI hk hf
    obtain ⟨fu, rfl⟩ : ∃ f, fu = f + 1 := ⟨fu - 1, by omega⟩
    have hb : eT E ≤ i := by omega
    have g1 : M.1 t 1 = nI (eT E) := by rw [hI t 1 (by omega)]; exact hV.1.1
    refine ⟨M, ?_, hMR, hI, fun _ _ => rfl, fun j h1 h2 => by omega⟩
    simp (disch := first | omega | simp only [qI2, hMR]) only [gX6_weigh_2, ↓tG hT, g1, nI_leI, ↓if_pos hb]
  | succ k ih =>
    intro fu i M hMR hI hk hf
    obtain ⟨fu, rfl⟩ : ∃ f, fu = f + 1 := ⟨fu - 1, by omega⟩
    have hb : ¬ eT E ≤ i := by omega
    have g1 : M.1 t 1 = nI (eT E) := by rw [hI t 1 (by omega)]; exact hV.1.1
    have pl := c_plc (M := M) (p := 107) (x := nI i) (hMR ▸ pSs_of hS hR 107 (by decide)) (pSv_cg (fun a b k1 k2 => hI a b (by omega)) hK) hP12
    obtain ⟨M', e1, e2, e3, e4, e5⟩ := ih fu (i + 1) (zsI M 191 i (nI (wgt E K i))) hMR (fun a b h => by rw [zsI_ne (by omega)]; exact hI a b h) (by omega) (by omega)
    have hrc : ∀ (o : Option zM), zrc S 107 7 15 o = o := fun o => zrc_ok ((hS 107 (by decide)).trans rfl)
    refine ⟨M', ?_, e2, e3, fun j h => by rw [e4 j (by omega), zsI_ne (by omega)], fun j h1 h2 => ?_⟩
    · simp (disch := first | omega | simp only [qI2, hMR]) only [gX6_weigh_2, ↓tG hT, g1, nI_leI, if_neg hb, ↓D, ↓hrc, ↓bind_of pl, ↓EE, nI_1]
      exact e1
    · by_cases hj : j = i
      · subst hj
        rw [e4 _ (by omega), zsI_at]
      · exact e5 j (by omega) h2
theorem c_wO4 {S : List (Nat × Nat)} {M : zM} {T m : Nat} {W : Nat → Nat} (hS : zShp S) (hR : pRf M.2.2) (hT : T ≤ 6) (hm : m < 2 ^ T) (hW : ∀ i, i < T → M.1 191 i = nI (W i)) : ∀ (k fu i c : Nat), i + k = 6 → k < fu →
    gX6_weightOf_4 S fu 185 (nI m) (nI c) (nI i) M = some (nI (c + sR (gB W m) k i)) := by
  have D := cD hS hR
  have EE := cE hS hR
  have hm64 := m64 hT hm
  intro k
  induction k with
  | zero =>
    intro fu i c hk hf
    obtain ⟨fu, rfl⟩ : ∃ f, fu = f + 1 := ⟨fu - 1, by omega⟩
    have hb : 6 ≤ i := by omega
    simp (disch := first | omega | simp only [qI2, qL2, qC2, qF2]) only [gX6_weightOf_4, li6, nI_leI, ↓if_pos hb]
    rfl
  | succ k ih =>
    intro fu i c hk hf
    obtain ⟨fu, rfl⟩ : ∃ f, fu = f + 1 := ⟨fu - 1, by omega⟩
    have hb : ¬ 6 ≤ i := by omega
    have hbit := bitA i (by omega) m hm64
    show _ = some (nI (c + ((if m.testBit i then W i else 0) + sR (gB W m) k (i + 1))))
    cases hc : m.testBit i with
    | true =>
      rw [hc] at hbit
      have hi : i < T := by
        by_cases q : i < T
        · exact q
        · rw [tb_hi hm (by omega)] at hc; cases hc
      have h1 := hW i hi
      have hbit' : (nI m >>> (nI i &&& 31)) &&& 1 = 1 := hbit
      simp (disch := first | omega | simp only [qI2, qL2, qC2, qF2]) only [gX6_weightOf_4, li6, nI_leI, if_neg hb, ↓if_pos hbit', ↓D, ↓EE, h1, nI_add, nI_1]
      rw [ih fu (i + 1) _ (by omega) (by omega), Nat.add_assoc]
      rfl
    | false =>
      rw [hc] at hbit
      have hbit' : ¬ (nI m >>> (nI i &&& 31)) &&& 1 = 1 := by rw [hbit]; decide
      have h0 : nI c + 0 = nI c := Int32.add_zero _
      simp (disch := first | omega | simp only [qI2, qL2, qC2, qF2]) only [gX6_weightOf_4, li6, nI_leI, if_neg hb, ↓if_neg hbit', h0, nI_1]
      rw [ih fu (i + 1) _ (by omega) (by omega), if_neg Bool.false_ne_true, Nat.zero_add]
theorem c_wO {S : List (Nat × Nat)} {M : zM} {T m : Nat} {W : Nat → Nat} (hS : zShp S) (hR : pRf M.2.2) (hT : T ≤ 6) (hm : m < 2 ^ T) (hW : ∀ i, i < T → M.1 191 i = nI (W i)) : gX6_weightOf S 185 (nI m) M = some (nI (sR (gB W m) T 0)) := by
  have h : gX6_weightOf S 185 (nI m) M = some (nI (0 + sR (gB W m) 6 0)) := c_wO4 hS hR hT hm hW 6 zfu 0 0 (by omega) (by unfold zfu; omega)
  rw [h, gB_6 hT hm, Nat.zero_add]
theorem m_pI4 {S : List (Nat × Nat)} {M : zM} {m : Nat} {E : zEn} {K : zKa} (hS : pMs S M.2.2) (hE : pME M.1 E) (hK : pMk M.1 0 E K) (wE : wfE E) (hm : m < 64) : ∀ (k fu i c : Nat), i + k = eT E → k < fu →
    gX12_placesIn_4 S fu 306 (nI m) (nI c) (nI i) M = some (nI (c + sR (gB (wgt E K) m) k i)) := by
  have hT6 := wE.1
  have hT := hE.1.1
  intro k
  induction k with
  | zero =>
    intro fu i c hk hf
    obtain ⟨fu, rfl⟩ : ∃ f, fu = f + 1 := ⟨fu - 1, by omega⟩
    have hb : eT E ≤ i := by omega
    simp (disch := first | omega | simp only [qI2, qL2, qC2, qF2]) only [gX12_placesIn_4, ↓mH hS, ↓mL hS, hT, nI_leI, ↓if_pos hb]
    rfl
  | succ k ih =>
    intro fu i c hk hf
    obtain ⟨fu, rfl⟩ : ∃ f, fu = f + 1 := ⟨fu - 1, by omega⟩
    have hb : ¬ eT E ≤ i := by omega
    have hbit := bitA i (by omega) m hm
    have pl := m_plc hS hE hK wE.2.1 (nI i)
    show _ = some (nI (c + ((if m.testBit i then wgt E K i else 0) + sR (gB (wgt E K) m) k (i + 1))))
    cases hc : m.testBit i with
    | true =>
      rw [hc] at hbit
      have hbit' : (nI m >>> (nI i &&& 31)) &&& 1 = 1 := hbit
      simp (disch := first | omega | simp only [qI2, qL2, qC2, qF2]) only [gX12_placesIn_4, ↓mH hS, ↓mL hS, hT, nI_leI, if_neg hb, ↓if_pos hbit', ↓bind_of pl, nI_add, nI_1]
      rw [ih fu (i + 1) _ (by omega) (by omega), Nat.add_assoc]
      rfl
    | false =>
      rw [hc] at hbit
      have hbit' : ¬ (nI m >>> (nI i &&& 31)) &&& 1 = 1 := by rw [hbit]; decide
      have h0 : nI c + 0 = nI c := Int32.add_zero _
      simp (disch := first | omega | simp only [qI2, qL2, qC2, qF2]) only [gX12_placesIn_4, ↓mH hS, ↓mL hS, hT, nI_leI, if_neg hb, ↓if_neg hbit', h0, nI_1]
      rw [ih fu (i + 1) _ (by omega) (by omega), if_neg Bool.false_ne_true, Nat.zero_add]
theorem m_pI {S : List (Nat × Nat)} {M : zM} {m : Nat} {E : zEn} {K : zKa} (hS : pMs S M.2.2) (hE : pME M.1 E) (hK : pMk M.1 0 E K) (wE : wfE E) (hm : m < 64) : gX12_placesIn S 306 (nI m) M = some (nI (sR (gB (wgt E K) m) (eT E) 0)) := by
  have h : gX12_placesIn S 306 (nI m) M = some (nI (0 + sR (gB (wgt E K) m) (eT E) 0)) := m_pI4 hS hE hK wE hm (eT E) zfu 0 0 (by omega) (by have := wE.1; unfold zfu; omega)
  rw [h, Nat.zero_add]
def pwS (W : Nat → Nat) (T P tr : Nat) : Nat → Nat → Nat → Nat
  | 0, _, c => c
  | k + 1, m, c => pwS W T P tr k (m + 1) (if m.testBit tr then (if 2 * sR (gB W m) T 0 ≤ P then c else if P < 2 * (sR (gB W m) T 0 - W tr) then c else c + 1) else c)
theorem c_dec6 {S : List (Nat × Nat)} {M : zM} {T P tr : Nat} {W : Nat → Nat} (hS : zShp S) (hR : pRf M.2.2) (hT : T ≤ 6) (hP : P ≤ 12) (htr : tr < T) (hW : ∀ i, i < T → M.1 191 i = nI (W i)) (hW12 : ∀ i, W i ≤ 12) : ∀ (k fu m c : Nat), m + k = 2 ^ T → k < fu →
    gX6_decides_6 S fu 185 (nI tr) (nI T) (nI P) (nI c) (nI m) M = some (nI (pwS W T P tr k m c)) := by
  have D := cD hS hR
  have EE := cE hS hR
  have h64 : 2 ^ T ≤ 64 := Nat.pow_le_pow_right (n := 2) (j := 6) (by decide) hT
  have hsh := shl1 T (by omega)
  intro k
  induction k with
  | zero =>
    intro fu m c hk hf
    obtain ⟨fu, rfl⟩ : ∃ f, fu = f + 1 := ⟨fu - 1, by omega⟩
    have hb : 2 ^ T ≤ m := by omega
    simp (disch := first | omega | simp only [qI2, qL2, qC2, qF2]) only [gX6_decides_6, hsh, nI_leI, ↓if_pos hb]
    rfl
  | succ k ih =>
    intro fu m c hk hf
    obtain ⟨fu, rfl⟩ : ∃ f, fu = f + 1 := ⟨fu - 1, by omega⟩
    have hb : ¬ 2 ^ T ≤ m := by omega
    have hm : m < 2 ^ T := by omega
    have hbit := bitA tr (by omega) m (by omega)
    have wO := c_wO hS hR hT hm hW
    have hB := sR_le (gB_le hW12 (m := m)) T 0
    have hB72 : sR (gB W m) T 0 ≤ 72 := Nat.le_trans hB (Nat.mul_le_mul_right 12 hT)
    generalize hBm : sR (gB W m) T 0 = B at *
    have n10 : ¬ (1 : Int32) = 0 := by decide
    show _ = some (nI (pwS W T P tr k (m + 1) (if m.testBit tr then (if 2 * sR (gB W m) T 0 ≤ P then c else if P < 2 * (sR (gB W m) T 0 - W tr) then c else c + 1) else c)))
    rw [hBm]
    cases hc : m.testBit tr with
    | true =>
      rw [hc] at hbit
      have hbit' : (nI m >>> (nI tr &&& 31)) &&& 1 = 1 := hbit
      have hge : W tr ≤ B := by
        rw [← hBm]
        have := sR_ge (g := gB W m) T 0 tr (Nat.zero_le _) (by omega)
        unfold gB at this ⊢
        rw [hc] at this
        exact this
      have h1 := hW tr htr
      rw [if_pos rfl]
      by_cases q1 : 2 * B ≤ P
      · simp (disch := first | omega | simp only [qI2, qL2, qC2, qF2]) only [gX6_decides_6, hsh, nI_leI, if_neg hb, ↓D, ↓bind_of wO, ↓if_pos hbit', gX6_decides_37, ↓if_neg n10, li2, pk_mul, if_pos q1, nI_1]
        exact ih fu (m + 1) c (by omega) (by omega)
      · rw [if_neg q1]
        by_cases q2 : P < 2 * (B - W tr)
        · simp (disch := first | omega | simp only [qI2, qL2, qC2, qF2]) only [gX6_decides_6, hsh, nI_leI, if_neg hb, ↓D, ↓bind_of wO, ↓if_pos hbit', gX6_decides_37, ↓if_neg n10, li2, pk_mul, if_neg q1, ↓EE, h1, pk_sub hge, nI_ltI, if_pos q2, nI_1]
          exact ih fu (m + 1) c (by omega) (by omega)
        · simp (disch := first | omega | simp only [qI2, qL2, qC2, qF2]) only [gX6_decides_6, hsh, nI_leI, if_neg hb, ↓D, ↓bind_of wO, ↓if_pos hbit', gX6_decides_37, ↓if_neg n10, li2, pk_mul, if_neg q1, ↓EE, h1, pk_sub hge, nI_ltI, if_neg q2, nI_1]
          exact ih fu (m + 1) (c + 1) (by omega) (by omega)
    | false =>
      rw [hc] at hbit
      have hbit' : ¬ (nI m >>> (nI tr &&& 31)) &&& 1 = 1 := by rw [hbit]; decide
      rw [if_neg Bool.false_ne_true]
      simp (disch := first | omega | simp only [qI2, qL2, qC2, qF2]) only [gX6_decides_6, hsh, nI_leI, if_neg hb, ↓D, ↓bind_of wO, ↓if_neg hbit', gX6_decides_37, if_true, nI_1]
      exact ih fu (m + 1) c (by omega) (by omega)
theorem m_pw26 {S : List (Nat × Nat)} {M : zM} {tr : Nat} {E : zEn} {K : zKa} (hS : pMs S M.2.2) (hE : pME M.1 E) (hK : pMk M.1 0 E K) (wE : wfE E) (htr : tr < eT E) : ∀ (k fu m c : Nat), m + k = 2 ^ eT E → k < fu →
    gX12_power_26 S fu 306 (nI tr) (nI c) (nI (wgt E K tr)) (nI m) M = some (nI (pwS (wgt E K) (eT E) (eP E) tr k m c), M) := by
  have hT := wE.1
  have hP := wE.2.1
  have h64 : 2 ^ eT E ≤ 64 := Nat.pow_le_pow_right (n := 2) (j := 6) (by decide) hT
  have hsh := shl1 (eT E) (by omega)
  have g0 := hE.1.1
  have g1 := hE.1.2.1
  intro k
  induction k with
  | zero =>
    intro fu m c hk hf
    obtain ⟨fu, rfl⟩ : ∃ f, fu = f + 1 := ⟨fu - 1, by omega⟩
    have hb : 2 ^ eT E ≤ m := by omega
    simp (disch := first | omega | simp only [qI2, qL2, qC2, qF2]) only [gX12_power_26, ↓mH hS, ↓mL hS, g0, hsh, nI_leI, ↓if_pos hb]
    rfl
  | succ k ih =>
    intro fu m c hk hf
    obtain ⟨fu, rfl⟩ : ∃ f, fu = f + 1 := ⟨fu - 1, by omega⟩
    have hb : ¬ 2 ^ eT E ≤ m := by omega
    have hm : m < 2 ^ eT E := by omega
    have hbit := bitA tr (by omega) m (by omega)
    have wO := m_pI hS hE hK wE (show m < 64 by omega)
    have hB := sR_le (gB_le (wgt_le (K := K) hP) (m := m)) (eT E) 0
    have hB72 : sR (gB (wgt E K) m) (eT E) 0 ≤ 72 := Nat.le_trans hB (Nat.mul_le_mul_right 12 hT)
    have hge0 := sR_ge (g := gB (wgt E K) m) (eT E) 0 tr (Nat.zero_le _) (by omega)
    have h0 : nI c + 0 = nI c := Int32.add_zero _
    show _ = some (nI (pwS (wgt E K) (eT E) (eP E) tr k (m + 1) (if m.testBit tr then (if 2 * sR (gB (wgt E K) m) (eT E) 0 ≤ eP E then c else if eP E < 2 * (sR (gB (wgt E K) m) (eT E) 0 - wgt E K tr) then c else c + 1) else c)), M)
    generalize hBm : sR (gB (wgt E K) m) (eT E) 0 = B at *
    cases hc : m.testBit tr with
    | true =>
      rw [hc] at hbit
      have hbit' : ¬ (nI m >>> (nI tr &&& 31)) &&& 1 = 0 := by rw [hbit]; decide
      have hge : wgt E K tr ≤ B := by
        unfold gB at hge0
        rw [hc] at hge0
        exact hge0
      rw [if_pos rfl]
      by_cases q1 : 2 * B ≤ eP E
      · simp (disch := first | omega | simp only [qI2, qL2, qC2, qF2]) only [gX12_power_26, ↓mH hS, ↓mL hS, g0, g1, hsh, nI_leI, if_neg hb, ↓if_neg hbit', ↓bind_of wO, li2, pk_mul, if_pos q1, nI_1, h0]
        exact ih fu (m + 1) c (by omega) (by omega)
      · rw [if_neg q1]
        by_cases q2 : eP E < 2 * (B - wgt E K tr)
        · simp (disch := first | omega | simp only [qI2, qL2, qC2, qF2]) only [gX12_power_26, ↓mH hS, ↓mL hS, g0, g1, hsh, nI_leI, if_neg hb, ↓if_neg hbit', ↓bind_of wO, li2, pk_mul, if_neg q1, pk_sub hge, nI_ltI, if_pos q2, nI_1, h0]
          exact ih fu (m + 1) c (by omega) (by omega)
        · simp (disch := first | omega | simp only [qI2, qL2, qC2, qF2]) only [gX12_power_26, ↓mH hS, ↓mL hS, g0, g1, hsh, nI_leI, if_neg hb, ↓if_neg hbit', ↓bind_of wO, li2, pk_mul, if_neg q1, pk_sub hge, nI_ltI, if_neg q2, nI_1]
          exact ih fu (m + 1) (c + 1) (by omega) (by omega)
    | false =>
      rw [hc] at hbit
      have hbit' : (nI m >>> (nI tr &&& 31)) &&& 1 = 0 := by rw [hbit]; decide
      rw [if_neg Bool.false_ne_true]
      simp (disch := first | omega | simp only [qI2, qL2, qC2, qF2]) only [gX12_power_26, ↓mH hS, ↓mL hS, g0, hsh, nI_leI, if_neg hb, ↓if_pos hbit', nI_1]
      exact ih fu (m + 1) c (by omega) (by omega)
theorem P_power : zP_power zInv := by
  intro S M hM a1
  refine zq (f := gX11_power S 0 a1) (g := gX12_power S 306 a1) ?_ M hM
  intro A M hw hc
  obtain ⟨t, E, K, le, im, st, no, tp, fl⟩ := A
  have hc2 : cIx S M t E K le im st no tp fl := hc
  have hw2 : aWx E K im st no tp fl := hw
  obtain ⟨⟨hS, hR, ht, h03, h04⟩, hV, hK, him, hst, hno, htp, hfl⟩ := hc2
  obtain ⟨wE, wK, wim, wst, wno, wtp, wfl⟩ := hw2
  have hT6 := wE.1
  have hP12 := wE.2.1
  have hW5 := wE.2.2.2.1
  have T0 := pTs_of hS hR t (Or.inr ht)
  have N0 := pSs_of hS hR 107 (by decide)
  have gT : ∀ (ρ : Type) (M' : zM) (f : Nat → Option ρ), M'.2.2 = M.2.2 → zgR S M' 0 11 14 3 f = f t := fun ρ M' f h => zgR_of ((hS 0 (by decide)).trans rfl) h03 M' f h
  have D := cD hS hR
  have hrc : ∀ (ρ : Type) (o : Option ρ), zrc S t 10 18 o = o := fun ρ o => zrc_ok T0.1
  have hp := e_hasTrade (M := M) (x := a1) T0.1 hV.1.1
  have mp : ∀ M' : zM, mIx S M' E K im st no tp fl → gX12_isTrade S 306 a1 (zsI M' 306 0 0) = some (bI (inR (eT E) a1)) := fun M' hm => e_isTrade (M := zsI M' 306 0 0) hm.1 ((zsI_ne (by omega)).trans hm.2.1.1.1)
  cases h : inR (eT E) a1 with
  | false =>
    rw [h] at hp mp
    refine ⟨-1, M, ?_, cFr.refl' hR, ?_⟩
    · simp (disch := first | omega | simp only [qI2, qL2, qC2, qF2]) only [gX11_power, ↓gT, ↓hrc, ↓bind_of hp, bIf, if_true]
    · skip
      intro M' hm
      have hm2 : mIx S M' E K im st no tp fl := hm
      obtain ⟨mS', mE, mK, mim, mst, mno, mtp, mfl, mmd⟩ := id hm2
      refine ⟨_, ?_, th0 M' 0⟩
      simp (disch := first | omega | simp only [qI2, qL2, qC2, qF2]) only [gX12_power, ↓mH mS', ↓bind_of (mp M' hm), bIf, if_true]
  | true =>
    rw [h] at hp mp
    obtain ⟨j, hj, rfl⟩ := inR_ex (by omega) h
    obtain ⟨M6, e1, e2, e3, e4, e5⟩ := c_weigh2 hS hR T0 ht hV hK wE (eT E) zfu 0 M rfl (fun _ _ _ => rfl) (by omega) (by unfold zfu; omega)
    have e1' : gX6_weigh S 185 t 107 M = some M6 := e1
    have R6 : pRf M6.2.2 := e2 ▸ hR
    have D6 := cD hS R6
    have N6 := cN hS R6
    have h64 : 2 ^ eT E ≤ 64 := Nat.pow_le_pow_right (n := 2) (j := 6) (by decide) hT6
    have dd : gX6_decides S 185 (nI j) (nI (eT E)) (nI (eP E)) M6 = some (nI (pwS (wgt E K) (eT E) (eP E) j (2 ^ eT E) 0 0)) := c_dec6 hS R6 hT6 hP12 hj (fun i hi => e5 i (Nat.zero_le _) hi) (wgt_le hP12) (2 ^ eT E) zfu 0 0 (by omega) (by unfold zfu; omega)
    have g1 : M6.1 t 1 = nI (eT E) := by rw [e3 t 1 (by omega)]; exact hV.1.1
    have g2 : M6.1 107 10 = nI (eP E) := by rw [e3 107 10 (by omega)]; exact hK.1.2.2.2.2.2.2.2.2.2.2
    have hgi : ∀ (j : Nat) (f : Int32 → Option (Int32 × zM)), zgI S M6 t 10 18 j f = f (M6.1 t j) := fun j f => zgI_ok T0.1
    refine ⟨nI (pwS (wgt E K) (eT E) (eP E) j (2 ^ eT E) 0 0), M6, ?_, ⟨fun a b k => e3 a b (by unfold cQ at k; omega), R6, by rw [e2], by rw [e2]⟩, ?_⟩
    · simp (disch := first | omega | simp only [qI2, e2]) only [gX11_power, ↓gT, ↓hrc, ↓bind_of hp, if_neg bIt, ↓D, ↓bind_of e1', ↓D6, ↓hgi, ↓N6, g1, g2, ↓bind_of dd]
    · skip
      intro M' hm
      have hm2 : mIx S M' E K im st no tp fl := hm
      obtain ⟨mS', mE, mK, mim, mst, mno, mtp, mfl, mmd⟩ := id hm2
      refine ⟨_, ?_, th0 M' 0⟩
      have mE1 : pME (zsI M' 306 0 0).1 E := pME_cg (fun a b k1 k2 => zsI_ne (by omega)) mE
      have mK1 : pMk (zsI M' 306 0 0).1 0 E K := pMk_cg hP12 (fun a b q => zsI_ne (by unfold mS at q; omega)) mK
      have pl : gX12_placesOf S 306 (nI j) (zsI M' 306 0 0) = some (nI (wgt E K j)) := m_plc (M := zsI M' 306 0 0) mS' mE1 mK1 hP12 (nI j)
      have r : gX12_power_26 S zfu 306 (nI j) 0 (nI (wgt E K j)) 0 (zsI M' 306 0 0) = _ := m_pw26 (M := zsI M' 306 0 0) mS' mE1 mK1 wE hj (2 ^ eT E) zfu 0 0 (by omega) (by unfold zfu; omega)
      simp (disch := first | omega | simp only [qI2, qL2, qC2, qF2]) only [gX12_power, ↓mH mS', ↓bind_of (mp M' hm2), if_neg bIt, ↓bind_of pl, r]
