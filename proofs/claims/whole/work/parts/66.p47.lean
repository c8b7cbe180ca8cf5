/-! pure part 47: ask -/
theorem dysS_wf {E : zEn} {mo : zMo} (wE : wfE E) (hm : moOk E mo) : ∀ n K B, wfK E K B → wfK E (dysS E mo n K) (B + n)
  | 0, _, _, h => h
  | n + 1, K, B, h => by
    have := dysS_wf wE hm n (dayS E mo K) (B + 1) (dayS_wf wE hm h)
    rw [show B + (n + 1) = B + 1 + n by omega]
    exact this
def lvN (E : zEn) (tr h d : Nat) : Nat := (lbS E tr h d).toNatClampNeg
theorem lv_ok {E : zEn} {tr h d : Nat} (wE : wfE E) (hh : h ≤ 24) : lbS E tr h d = nI (lvN E tr h d) ∧ lvN E tr h d ≤ 24 := by
  obtain ⟨j, hj, e⟩ := (dysS_wf wE (moH_ok (tr := tr) wE hh) d (K0 E) 0 (wfK_K0 wE)).2.2.2.2.2.2
  have e' : lbS E tr h d = nI j := e
  unfold lvN
  rw [e', nI_clamp (by omega)]
  exact ⟨rfl, hj⟩
def cnV (P : Nat → Bool) (lv : Nat → Nat) (v : Nat) : Nat → Nat
  | 0 => 0
  | i + 1 => cnV P lv v i + (if P i && decide (lv i = v) then 1 else 0)
def wC (P : Nat → Bool) (lv : Nat → Nat) : Nat → Nat
  | 0 => 0
  | i + 1 => if P i then (if wC P lv i < cnV P lv (lv i) (i + 1) then cnV P lv (lv i) (i + 1) else wC P lv i) else wC P lv i
def wM (P : Nat → Bool) (lv : Nat → Nat) : Nat → Nat
  | 0 => 0
  | i + 1 => if P i then (if wM P lv i < cnV P lv (lv i) 24 then cnV P lv (lv i) 24 else wM P lv i) else wM P lv i
theorem cnV_le {P : Nat → Bool} {lv : Nat → Nat} {v : Nat} : ∀ i, cnV P lv v i ≤ i
  | 0 => Nat.le_refl 0
  | i + 1 => by
    have := cnV_le (P := P) (lv := lv) (v := v) i
    show cnV P lv v i + (if P i && decide (lv i = v) then 1 else 0) ≤ i + 1
    split <;> omega
theorem cnV_mono {P : Nat → Bool} {lv : Nat → Nat} {v : Nat} : ∀ k i, cnV P lv v i ≤ cnV P lv v (i + k)
  | 0, _ => Nat.le_refl _
  | k + 1, i => Nat.le_trans (cnV_mono k i) (Nat.le_add_right _ _)
theorem cnV_wC {P : Nat → Bool} {lv : Nat → Nat} {v : Nat} : ∀ i, cnV P lv v i ≤ wC P lv i
  | 0 => Nat.le_refl 0
  | i + 1 => by
    have ih := cnV_wC (P := P) (lv := lv) (v := v) i
    by_cases h : P i = true ∧ lv i = v
    · obtain ⟨h1, h2⟩ := h
      subst h2
      show _ ≤ (if P i then _ else _)
      rw [if_pos h1]
      split <;> omega
    · have e : cnV P lv v (i + 1) = cnV P lv v i := by
        show cnV P lv v i + (if P i && decide (lv i = v) then 1 else 0) = _
        rw [if_neg (by rw [Bool.and_eq_true, decide_eq_true_eq]; exact h), Nat.add_zero]
      rw [e]
      refine Nat.le_trans ih ?_
      show _ ≤ (if P i then _ else _)
      split
      · split <;> omega
      · exact Nat.le_refl _
theorem wM_wC {P : Nat → Bool} {lv : Nat → Nat} : ∀ i, wM P lv i ≤ wC P lv 24
  | 0 => Nat.zero_le _
  | i + 1 => by
    have ih := wM_wC (P := P) (lv := lv) i
    have := cnV_wC (P := P) (lv := lv) (v := lv i) 24
    show (if P i then _ else _) ≤ _
    split
    · split
      · exact this
      · exact ih
    · exact ih
theorem wC_wM {P : Nat → Bool} {lv : Nat → Nat} : ∀ i, i ≤ 24 → wC P lv i ≤ wM P lv i
  | 0, _ => Nat.le_refl 0
  | i + 1, h => by
    have ih := wC_wM (P := P) (lv := lv) i (by omega)
    have hm := cnV_mono (P := P) (lv := lv) (v := lv i) (24 - (i + 1)) (i + 1)
    rw [show i + 1 + (24 - (i + 1)) = 24 by omega] at hm
    show (if P i then (if wC P lv i < cnV P lv (lv i) (i + 1) then cnV P lv (lv i) (i + 1) else wC P lv i) else wC P lv i) ≤ (if P i then (if wM P lv i < cnV P lv (lv i) 24 then cnV P lv (lv i) 24 else wM P lv i) else wM P lv i)
    split
    · split <;> split <;> omega
    · exact ih
theorem wC_eq {P : Nat → Bool} {lv : Nat → Nat} : wC P lv 24 = wM P lv 24 := Nat.le_antisymm (wC_wM 24 (Nat.le_refl _)) (wM_wC 24)
theorem wC_24 {P : Nat → Bool} {lv : Nat → Nat} : ∀ i, wC P lv i ≤ i
  | 0 => Nat.le_refl 0
  | i + 1 => by
    have ih := wC_24 (P := P) (lv := lv) i
    have := cnV_le (P := P) (lv := lv) (v := lv i) (i + 1)
    show (if P i then (if wC P lv i < cnV P lv (lv i) (i + 1) then cnV P lv (lv i) (i + 1) else wC P lv i) else wC P lv i) ≤ i + 1
    split
    · split <;> omega
    · omega
theorem maxI {x y : Nat} (hx : x < 2 ^ 31) (hy : y < 2 ^ 31) : (if nI x < nI y then nI y else nI x) = nI (if x < y then y else x) := by
  by_cases q : x < y
  · rw [if_pos q, if_pos (nI_lt q hy)]
  · rw [if_neg q, if_neg (nI_nlt (by omega) hx)]
theorem c_lastB {S : List (Nat × Nat)} {M : zM} {h d : Nat} (hS : zShp S) (hR : pRf M.2.2) (hh : h < 24) (h1 : 1 ≤ d) (h2 : d ≤ 60) : gX2_lastBehind S 169 (nI d) (nI h) M = some (M.1 179 (60 * h + d - 1)) := by
  have D := cD hS hR
  have O := cO hS hR
  have hx : nI h * (60 : Int32) + nI d - (1 : Int32) = nI (60 * h + d - 1) := by
    rw [show (60 : Int32) = nI 60 from rfl, pk_mul, nI_add, Nat.mul_comm h 60]
    exact pk_sub (b := 1) (by omega)
  simp only [gX2_lastBehind, hx]
  simp (disch := first | omega | simp only [qI2, qL2, qC2, qF2]) only [↓D, ↓O]
theorem c_wo13 {S : List (Nat × Nat)} {R : Nat → Nat → Option Nat} {I : Nat → Nat → Int32} {d : Nat} {P : Nat → Bool} {lv : Nat → Nat} (hS : zShp S) (hR : pRf R) (h1 : 1 ≤ d) (h2 : d ≤ 60) (hL : ∀ g, g < 24 → I 179 (60 * g + d - 1) = nI (lv g) ∧ lv g ≤ 24) : ∀ (k fu i : Nat) (M : zM), M.2.2 = R → (∀ a b, ¬ a = 181 → M.1 a b = I a b) → (∀ v, v ≤ 24 → M.1 181 v = nI (cnV P lv v i)) → i + k = 24 → k < fu →
    ∃ M', gX2_worstOf_13 S fu 169 (nI d) (nI (bs P 24)) (nI (wC P lv i)) (nI i) M = some (nI (wC P lv 24), M') ∧ M'.2.2 = R ∧ (∀ a b, ¬ a = 181 → M'.1 a b = I a b) := by
  intro k
  induction k with
  | zero =>
    intro fu i M hMR hI hc hk hf
    obtain ⟨fu, rfl⟩ : ∃ f, fu = f + 1 := ⟨fu - 1, by omega⟩
    have hb : 24 ≤ i := by omega
    have e : i = 24 := by omega
    refine ⟨M, ?_, hMR, hI⟩
    subst e
    simp (disch := first | omega | simp only [qI2, qL2, qC2, qF2]) only [gX2_worstOf_13, li24, nI_leI, ↓if_pos hb]
  | succ k ih =>
    intro fu i M hMR hI hc hk hf
    obtain ⟨fu, rfl⟩ : ∃ f, fu = f + 1 := ⟨fu - 1, by omega⟩
    have hb : ¬ 24 ≤ i := by omega
    have hRM : pRf M.2.2 := hMR ▸ hR
    have D := cD hS hRM
    have O := cO hS hRM
    have hbit := bsb (p := P) (show i < 24 by omega)
    obtain ⟨l1, l2⟩ := hL i (by omega)
    have wle := wC_24 (P := P) (lv := lv) i
    have cle := cnV_le (P := P) (lv := lv) (v := lv i) (i + 1)
    cases hp : P i with
    | false =>
      rw [hp] at hbit
      have hbit' : ¬ (nI (bs P 24) >>> (nI i &&& 31)) &&& 1 = 1 := by rw [hbit]; decide
      have e : wC P lv (i + 1) = wC P lv i := by
        show (if P i then _ else _) = _
        rw [hp]; rfl
      obtain ⟨M', b1, b2, b3⟩ := ih fu (i + 1) M hMR hI (fun v hv => by
        rw [hc v hv]
        congr 1
        show _ = cnV P lv v i + (if P i && decide (lv i = v) then 1 else 0)
        rw [hp]; rfl) (by omega) (by omega)
      rw [e] at b1
      refine ⟨M', ?_, b2, b3⟩
      simp (disch := first | omega | simp only [qI2, qL2, qC2, qF2]) only [gX2_worstOf_13, li24, nI_leI, if_neg hb, ↓if_neg hbit', nI_1]
      exact b1
    | true =>
      rw [hp] at hbit
      have hbit' : (nI (bs P 24) >>> (nI i &&& 31)) &&& 1 = 1 := hbit
      have lb := c_lastB (M := M) (h := i) (d := d) hS hRM (by omega) h1 h2
      rw [hI 179 _ (by decide), l1] at lb
      have c1 := hc (lv i) l2
      have cs : cnV P lv (lv i) (i + 1) = cnV P lv (lv i) i + 1 := by
        show cnV P lv (lv i) i + (if P i && decide (lv i = lv i) then 1 else 0) = _
        rw [hp, decide_eq_true (p := lv i = lv i) rfl]; rfl
      have e : wC P lv (i + 1) = (if wC P lv i < cnV P lv (lv i) (i + 1) then cnV P lv (lv i) (i + 1) else wC P lv i) := by
        show (if P i then _ else _) = _
        rw [hp]; rfl
      obtain ⟨M', b1, b2, b3⟩ := ih fu (i + 1) (zsI M 181 (lv i) (nI (cnV P lv (lv i) (i + 1)))) hMR (fun a b q => by rw [zsI_ne (by omega)]; exact hI a b q) (fun v hv => by
        by_cases q : v = lv i
        · rw [q, zsI_at]
        · rw [zsI_ne (by omega), hc v hv]
          congr 1
          show _ = cnV P lv v i + (if P i && decide (lv i = v) then 1 else 0)
          rw [decide_eq_false (fun h => q h.symm), Bool.and_false]; rfl) (by omega) (by omega)
      rw [e] at b1
      refine ⟨M', ?_, b2, b3⟩
      have hm := maxI (x := wC P lv i) (y := cnV P lv (lv i) (i + 1)) (by omega) (by omega)
      have hadd : nI (cnV P lv (lv i) i) + 1 = nI (cnV P lv (lv i) (i + 1)) := by rw [nI_1, cs]
      simp (disch := first | omega | simp only [qI2, qL2, qC2, qF2]) only [gX2_worstOf_13, li24, nI_leI, if_neg hb, ↓if_pos hbit', ↓D, ↓bind_of lb, ↓O, c1, hadd, zsI_at, hm]
      rw [nI_1]
      exact b1
def wsF (E : zEn) (no : zNot) (tr d : Nat) : Nat := wC (hrP E no tr) (fun h => lvN E tr h d) 24
theorem wsF_le {E : zEn} {no : zNot} {tr d : Nat} : wsF E no tr d ≤ 24 := wC_24 24
theorem c_worstOf {S : List (Nat × Nat)} {M : zM} {tr d : Nat} {E : zEn} {no : zNot} (hS : zShp S) (hR : pRf M.2.2) (wE : wfE E) (h1 : 1 ≤ d) (h2 : d ≤ 60) (hL : ∀ g, g < 24 → M.1 179 (60 * g + d - 1) = lbS E tr g d) :
    ∃ M', gX2_worstOf S 169 (nI d) (nI (hrS E no tr)) M = some (nI (wsF E no tr d), M') ∧ M'.2.2 = M.2.2 ∧ (∀ a b, ¬ a = 181 → M'.1 a b = M.1 a b) := by
  have D := cD hS hR
  have O := cO hS hR
  obtain ⟨M', e1, e2, e3⟩ := c_wo13 (I := M.1) (P := hrP E no tr) (lv := fun h => lvN E tr h d) hS hR h1 h2 (fun g hg => by
    have := lv_ok (E := E) (tr := tr) (h := g) (d := d) wE (by omega)
    exact ⟨(hL g hg).trans this.1, this.2⟩) 24 zfu 0 (zfl M 181 0 0 25) rfl (fun a b q => zfl_ne (by omega)) (fun v hv => by rw [zfl_at (by omega)]; rfl) (by omega) (by unfold zfu; omega)
  refine ⟨M', ?_, e2, e3⟩
  simp (disch := first | omega | simp only [qI2, qL2, qC2, qF2]) only [gX2_worstOf, ↓D, ↓O]
  exact e1
def bqS (w : Nat → Nat) : Nat → Nat → Nat → Nat
  | 0, _, b => b
  | k + 1, d, b => bqS w k (d + 1) (if w d < w b then d else b)
theorem c_sq17 {S : List (Nat × Nat)} {R : Nat → Nat → Option Nat} {I : Nat → Nat → Int32} {tr : Nat} {E : zEn} {no : zNot} (hS : zShp S) (hR : pRf R) (wE : wfE E) (hL : ∀ g e, g < 24 → 1 ≤ e → e ≤ 60 → I 179 (60 * g + e - 1) = lbS E tr g e) : ∀ (k fu d b : Nat) (M : zM), M.2.2 = R → (∀ a b, ¬ (a = 181 ∨ (a = 169 ∧ 8 ≤ b)) → M.1 a b = I a b) → M.1 169 8 = nI b → M.1 169 9 = nI (wsF E no tr b) → 1 ≤ d → d + k = 61 → k < fu →
    ∃ M', gX2_seekQuestion_17 S fu 169 (nI (hrS E no tr)) (nI d) M = some M' ∧ M'.2.2 = R ∧ (∀ a b, ¬ (a = 181 ∨ (a = 169 ∧ 8 ≤ b)) → M'.1 a b = I a b) ∧ M'.1 169 8 = nI (bqS (wsF E no tr) k d b) ∧ M'.1 169 9 = nI (wsF E no tr (bqS (wsF E no tr) k d b)) := by
  intro k
  induction k with
  | zero =>
    intro fu d b M hMR hI h8 h9 hd hk hf
    obtain ⟨fu, rfl⟩ : ∃ f, fu = f + 1 := ⟨fu - 1, by omega⟩
    have hb : 60 < d := by omega
    refine ⟨M, ?_, hMR, hI, h8, h9⟩
    simp (disch := first | omega | simp only [qI2, qL2, qC2, qF2]) only [gX2_seekQuestion_17, li60, nI_ltI, ↓if_pos hb]
  | succ k ih =>
    intro fu d b M hMR hI h8 h9 hd hk hf
    obtain ⟨fu, rfl⟩ : ∃ f, fu = f + 1 := ⟨fu - 1, by omega⟩
    have hb : ¬ 60 < d := by omega
    have hRM : pRf M.2.2 := hMR ▸ hR
    have D := cD hS hRM
    obtain ⟨M2, a1, a2, a3⟩ := c_worstOf (M := M) (tr := tr) (d := d) (E := E) (no := no) hS hRM wE hd (by omega) (fun g hg => by rw [hI 179 _ (by omega)]; exact hL g d hg hd (by omega))
    have hR2 : pRf M2.2.2 := a2 ▸ hRM
    have D2 := cD hS hR2
    have g8 : M2.1 169 8 = nI b := by rw [a3 169 8 (by decide)]; exact h8
    have g9 : M2.1 169 9 = nI (wsF E no tr b) := by rw [a3 169 9 (by decide)]; exact h9
    have l1 := wsF_le (E := E) (no := no) (tr := tr) (d := d)
    have l2 := wsF_le (E := E) (no := no) (tr := tr) (d := b)
    have e : bqS (wsF E no tr) (k + 1) d b = bqS (wsF E no tr) k (d + 1) (if wsF E no tr d < wsF E no tr b then d else b) := rfl
    rw [e]
    by_cases q : wsF E no tr b ≤ wsF E no tr d
    · rw [if_neg (by omega)]
      obtain ⟨M', b1, b2, b3, b4, b5⟩ := ih fu (d + 1) b M2 (a2.trans hMR) (fun a b q => by rw [a3 a b (by omega)]; exact hI a b q) g8 g9 (by omega) (by omega) (by omega)
      refine ⟨M', ?_, b2, b3, b4, b5⟩
      simp (disch := first | omega | simp only [qI2, qL2, qC2, qF2]) only [gX2_seekQuestion_17, li60, nI_ltI, if_neg hb, ↓D, ↓zb2_of a1, ↓D2, g9, nI_leI, if_pos q, nI_1]
      exact b1
    · rw [if_pos (by omega)]
      obtain ⟨M', b1, b2, b3, b4, b5⟩ := ih fu (d + 1) d (zsI (zsI M2 169 8 (nI d)) 169 9 (nI (wsF E no tr d))) (a2.trans hMR) (fun a b q => by rw [zsI_ne (by omega), zsI_ne (by omega), a3 a b (by omega)]; exact hI a b q) (by rw [zsI_ne (by omega), zsI_at]) (zsI_at _ _ _ _) (by omega) (by omega) (by omega)
      refine ⟨M', ?_, b2, b3, b4, b5⟩
      simp (disch := first | omega | simp only [qI2, qL2, qC2, qF2]) only [gX2_seekQuestion_17, li60, nI_ltI, if_neg hb, ↓D, ↓zb2_of a1, ↓D2, g9, nI_leI, if_neg q, nI_1]
      exact b1
theorem m_wa18 {S : List (Nat × Nat)} {M : zM} {t x : Nat} {P : Nat → Bool} {lv : Nat → Nat} {w : Nat} {k5 : Nat → Int32 → Int32 → Int32 → Int32 → zM → Option Int32} (hS : pMs S M.2.2) (h1 : 1 ≤ t) (h2 : t ≤ 60) (hL : ∀ g, g < 24 → M.1 347 (61 * g + t) = nI (lv g) ∧ lv g ≤ 24) (hx : x < 24) (hw : w < 2 ^ 31) : ∀ (k fu i : Nat), i + k = 24 → k < fu →
    gX12_worstAt_18 S k5 fu 306 (nI (bs P 24)) (nI t) (nI w) (nI x) (nI (cnV P lv (lv x) i)) (nI i) M = k5 306 (nI (bs P 24)) (nI t) (nI (if P x then (if w < cnV P lv (lv x) 24 then cnV P lv (lv x) 24 else w) else w)) (nI (x + 1)) M := by
  intro k
  induction k with
  | zero =>
    intro fu i hk hf
    obtain ⟨fu, rfl⟩ : ∃ f, fu = f + 1 := ⟨fu - 1, by omega⟩
    have hb : 24 ≤ i := by omega
    have e : i = 24 := by omega
    subst e
    have hbit := bsb (p := P) hx
    have cle := cnV_le (P := P) (lv := lv) (v := lv x) 24
    cases hp : P x with
    | false =>
      rw [hp] at hbit
      have hbit' : ¬ (nI (bs P 24) >>> (nI x &&& 31)) &&& 1 = 1 := by rw [hbit]; decide
      simp (disch := first | omega | simp only [qI2, qL2, qC2, qF2]) only [gX12_worstAt_18, li24, nI_leI, ↓if_pos hb, ↓if_neg hbit', nI_1]
      rfl
    | true =>
      rw [hp] at hbit
      have hbit' : (nI (bs P 24) >>> (nI x &&& 31)) &&& 1 = 1 := hbit
      have hm := maxI (x := w) (y := cnV P lv (lv x) 24) hw (by omega)
      simp (disch := first | omega | simp only [qI2, qL2, qC2, qF2]) only [gX12_worstAt_18, li24, nI_leI, ↓if_pos hb, ↓if_pos hbit', hm, nI_1]
      rfl
  | succ k ih =>
    intro fu i hk hf
    obtain ⟨fu, rfl⟩ : ∃ f, fu = f + 1 := ⟨fu - 1, by omega⟩
    have hb : ¬ 24 ≤ i := by omega
    have hbit := bsb (p := P) (show i < 24 by omega)
    obtain ⟨l1, l2⟩ := hL i (by omega)
    obtain ⟨l3, l4⟩ := hL x hx
    have r := ih fu (i + 1) (by omega) (by omega)
    have h0 : nI (cnV P lv (lv x) i) + 0 = nI (cnV P lv (lv x) i) := Int32.add_zero _
    have cs : cnV P lv (lv x) (i + 1) = cnV P lv (lv x) i + (if P i && decide (lv i = lv x) then 1 else 0) := rfl
    cases hp : P i with
    | false =>
      rw [hp] at hbit cs
      have hbit' : ¬ (nI (bs P 24) >>> (nI i &&& 31)) &&& 1 = 1 := by rw [hbit]; decide
      have cs' : cnV P lv (lv x) (i + 1) = cnV P lv (lv x) i := cs
      rw [cs'] at r
      simp (disch := first | omega | simp only [qI2, qL2, qC2, qF2]) only [gX12_worstAt_18, li24, nI_leI, if_neg hb, ↓if_neg hbit', h0, nI_1]
      exact r
    | true =>
      rw [hp] at hbit cs
      have hbit' : (nI (bs P 24) >>> (nI i &&& 31)) &&& 1 = 1 := hbit
      by_cases q : lv i = lv x
      · have cs' : cnV P lv (lv x) (i + 1) = cnV P lv (lv x) i + 1 := by rw [cs, decide_eq_true q]; rfl
        rw [cs'] at r
        have q' : nI (lv i) = nI (lv x) := by rw [q]
        simp (disch := first | omega | simp only [qI2, qL2, qC2, qF2]) only [gX12_worstAt_18, li24, li61, nI_leI, if_neg hb, ↓if_pos hbit', ↓mH hS, pk_mul, nI_add, mG hS, l1, l3, q, if_true, nI_1]
        exact r
      · have cs' : cnV P lv (lv x) (i + 1) = cnV P lv (lv x) i := by rw [cs, decide_eq_false q, Bool.and_false]; rfl
        rw [cs'] at r
        have q' : ¬ nI (lv i) = nI (lv x) := fun e => q ((nI_eq (by omega) (by omega)).mp e)
        simp (disch := first | omega | simp only [qI2, qL2, qC2, qF2]) only [gX12_worstAt_18, li24, li61, nI_leI, if_neg hb, ↓if_pos hbit', ↓mH hS, pk_mul, nI_add, mG hS, l1, l3, if_neg q', h0, nI_1]
        exact r
theorem m_wa5 {S : List (Nat × Nat)} {M : zM} {t : Nat} {P : Nat → Bool} {lv : Nat → Nat} (hS : pMs S M.2.2) (h1 : 1 ≤ t) (h2 : t ≤ 60) (hL : ∀ g, g < 24 → M.1 347 (61 * g + t) = nI (lv g) ∧ lv g ≤ 24) : ∀ (k fu x : Nat), x + k = 24 → k < fu → wM P lv x ≤ 24 →
    gX12_worstAt_5 S fu 306 (nI (bs P 24)) (nI t) (nI (wM P lv x)) (nI x) M = some (nI (wM P lv 24)) := by
  intro k
  induction k with
  | zero =>
    intro fu x hk hf hw
    obtain ⟨fu, rfl⟩ : ∃ f, fu = f + 1 := ⟨fu - 1, by omega⟩
    have hb : 24 ≤ x := by omega
    have e : x = 24 := by omega
    subst e
    simp (disch := first | omega | simp only [qI2, qL2, qC2, qF2]) only [gX12_worstAt_5, li24, nI_leI, ↓if_pos hb]
  | succ k ih =>
    intro fu x hk hf hw
    obtain ⟨fu, rfl⟩ : ∃ f, fu = f + 1 := ⟨fu - 1, by omega⟩
    have hb : ¬ 24 ≤ x := by omega
    have r : gX12_worstAt_18 S (gX12_worstAt_5 S fu) zfu 306 (nI (bs P 24)) (nI t) (nI (wM P lv x)) (nI x) 0 0 M = _ := m_wa18 (P := P) (w := wM P lv x) (k5 := gX12_worstAt_5 S fu) hS h1 h2 hL (show x < 24 by omega) (by omega) 24 zfu 0 (by omega) (by unfold zfu; omega)
    simp (disch := first | omega | simp only [qI2, qL2, qC2, qF2]) only [gX12_worstAt_5, li24, nI_leI, if_neg hb, r]
    have cle := cnV_le (P := P) (lv := lv) (v := lv x) 24
    exact ih fu (x + 1) (by omega) (by omega) (by
      show (if P x then (if wM P lv x < cnV P lv (lv x) 24 then cnV P lv (lv x) 24 else wM P lv x) else wM P lv x) ≤ 24
      split
      · split <;> omega
      · exact hw)
theorem m_worstAt {S : List (Nat × Nat)} {M : zM} {t tr : Nat} {E : zEn} {no : zNot} (hS : pMs S M.2.2) (wE : wfE E) (h1 : 1 ≤ t) (h2 : t ≤ 60) (hL : ∀ g, g < 24 → M.1 347 (61 * g + t) = lbS E tr g t) : gX12_worstAt S 306 (nI (hrS E no tr)) (nI t) M = some (nI (wsF E no tr t)) := by
  unfold wsF
  rw [wC_eq]
  exact m_wa5 (P := hrP E no tr) (lv := fun h => lvN E tr h t) hS h1 h2 (fun g hg => by
    have := lv_ok (E := E) (tr := tr) (h := g) (d := t) wE (by omega)
    exact ⟨(hL g hg).trans this.1, this.2⟩) 24 zfu 0 (by omega) (by unfold zfu; omega) (by show 0 ≤ 24; omega)
