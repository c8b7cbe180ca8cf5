/-! pure part 57: best, what is asked; the model's side -/
abbrev zBe : Type := Option (Nat × (Nat → Nat))
def bV (b : zBe) : Int32 := match b with | none => -1 | some q => nI q.1
def btr (x : Nat) (b : zBe) : Bool := match b with | none => true | some q => decide (q.1 < x)
theorem bV_lt {x : Nat} {b : zBe} (hx : x < 2 ^ 31) (hb : ∀ q, b = some q → q.1 ≤ 5) : bV b < nI x ↔ btr x b = true := by
  cases b with
  | none =>
    refine ⟨fun _ => rfl, fun _ => ?_⟩
    show (-1 : Int32) < nI x
    rw [Int32.lt_iff_toInt_lt, nI_toInt hx, show (-1 : Int32).toInt = -1 from by decide]
    omega
  | some q =>
    have := hb q rfl
    show nI q.1 < nI x ↔ decide (q.1 < x) = true
    rw [nI_ltI (by omega) hx, decide_eq_true_iff]
def apK (K : zKa) (t : Nat) : zKa := (K.1, some t, kBy K, kKn K, kOp K, kLs K, kWt K)
theorem wfK_apK {E : zEn} {K : zKa} {B t : Nat} (h : wfK E K B) (ht : t < eT E) : wfK E (apK K t) B := by
  obtain ⟨a, b, c, d, e, f, g⟩ := h
  exact ⟨a, b, c, fun j hj => (by cases hj; exact ht), e, f, g⟩
def dnS (E : zEn) (K : zKa) : Nat := eW E - left E K
def layL (rk : zKa → (Nat → Nat) → zBe → zBe) (E : zEn) (K : zKa) (f : Nat → Nat) (d : Nat) : Nat → Nat → zBe → zBe
  | 0, _, b => b
  | k + 1, t, b => layL rk E K f d k (t + 1) (rk (dayS E (moN E) (apK K t)) (uqN f d t) b)
def layS (E : zEn) : Nat → zKa → (Nat → Nat) → Nat → zBe → zBe
  | 0, K, f, _, b => if btr (dnS E K) b then some (dnS E K, f) else b
  | m + 1, K, f, d, b => layL (fun K' f' b' => layS E m K' f' (d + 1) b') E K f d (eT E) 0 b
def mLq (d a b : Nat) : Prop := (a = 338 ∧ d ≤ b) ∨ a = 339 ∨ (a = 306 ∧ (b = 32 ∨ b = 55)) ∨ (324 ≤ a ∧ a ≤ 331 ∧ 23 + d < b ∧ b < 30) ∨ ((a = 332 ∨ a = 333) ∧ 6 * (24 + d) ≤ b ∧ b < 180) ∨ (a = 334 ∧ 12 * (24 + d) ≤ b ∧ b < 360) ∨ (a = 335 ∧ 5 * (24 + d) ≤ b ∧ b < 150)
def mBe (M : zM) (n : Nat) (b : zBe) : Prop := M.1 306 55 = bV b ∧ ∀ q, b = some q → q.1 ≤ 5 ∧ ∀ j, j < n → M.1 339 j = nI (q.2 j)
theorem mOk_cg {S : List (Nat × Nat)} {R : Nat → Nat → Option Nat} {I I' : Nat → Nat → Int32} {E : zEn} {mo : zMo} (h : ∀ a b, (308 ≤ a ∧ a ≤ 321) ∨ (a = 306 ∧ 47 ≤ b ∧ b ≤ 50) → I' a b = I a b) (hm : mOk S R I E mo) : mOk S R I' E mo := by
  obtain ⟨a, b, c, d, e⟩ := hm
  exact ⟨a, pME_cg (fun x y k1 k2 => h x y (Or.inl ⟨k1, k2⟩)) b, pMo_cg (fun y k1 k2 => h 306 y (Or.inr ⟨rfl, k1, k2⟩)) c, d, e⟩
theorem m_l31 {S : List (Nat × Nat)} {R : Nat → Nat → Option Nat} {n : Nat} {rk : Nat → Int32 → Int32 → zM → Option zM} (hS : pMs S R) (hn : n ≤ 6) : ∀ (k fu i : Nat) (M : zM), M.2.2 = R → i + k = n → k < fu →
    ∃ M', gX12_lays_31 S rk fu 306 (nI n) (nI i) M = some M' ∧ M'.2.2 = R ∧ (∀ a b, ¬ a = 339 → M'.1 a b = M.1 a b) ∧ (∀ j, j < i → M'.1 339 j = M.1 339 j) ∧ ∀ j, i ≤ j → j < n → M'.1 339 j = M.1 338 j := by
  intro k
  induction k with
  | zero =>
    intro fu i M hMR hk hfu
    obtain ⟨fu, rfl⟩ : ∃ f, fu = f + 1 := ⟨fu - 1, by omega⟩
    have hc : n ≤ i := by omega
    refine ⟨M, ?_, hMR, fun _ _ _ => rfl, fun _ _ => rfl, fun j h1 h2 => by omega⟩
    simp (disch := first | omega | simp only [qI2, hMR]) only [gX12_lays_31, nI_leI, ↓if_pos hc]
  | succ k ih =>
    intro fu i M hMR hk hfu
    obtain ⟨fu, rfl⟩ : ∃ f, fu = f + 1 := ⟨fu - 1, by omega⟩
    have hc : ¬ n ≤ i := by omega
    obtain ⟨M', e1, e2, e3, e4, e5⟩ := ih fu (i + 1) (zsI M 339 i (M.1 338 i)) hMR (by omega) (by omega)
    refine ⟨M', ?_, e2, fun a b q => by rw [e3 a b q, zsI_ne (by omega)], fun j hj => by rw [e4 j (by omega), zsI_ne (by omega)], fun j h1 h2 => ?_⟩
    · rw [← e1]
      simp (disch := first | omega | simp only [qI2, hMR]) only [gX12_lays_31, nI_leI, if_neg hc, ↓mH hS, ↓mG hS, nI_1]
    · by_cases q : j = i
      · rw [q, e4 i (by omega), zsI_at]
      · rw [e5 j (by omega) h2, zsI_ne (by omega)]
theorem li23' : (23 : Int32) = nI 23 := rfl
theorem m_lays {S : List (Nat × Nat)} {E : zEn} {n : Nat} (hn : n ≤ 6) : ∀ (m fu d B : Nat) (K : zKa) (f : Nat → Nat) (b : zBe) (M : zM), d + m = n → m < fu → mOk S M.2.2 M.1 E (moN E) → pMk M.1 (23 + d) E K → wfK E K B → B + m < 2 ^ 30 → (∀ j, j < d → M.1 338 j = nI (f j)) → mBe M n b →
    ∃ M', gX12_lays S fu 306 (nI d) (nI n) M = some M' ∧ fr (mLq d) M M' ∧ mBe M' n (layS E m K f d b) := by
  intro m
  induction m with
  | zero =>
    intro fu d B K f b M hd hfu hm hK wK hB hrow hb
    obtain ⟨fu, rfl⟩ : ∃ f, fu = f + 1 := ⟨fu - 1, by omega⟩
    have e : d = n := by omega
    subst e
    obtain ⟨hS, hE, hmo, wE, hmok⟩ := hm
    have hW5 := wE.2.2.2.1
    have li : (23 : Int32) + nI d = nI (23 + d) := by rw [li23', nI_add]
    have dn := e_doneMany (S := S) (s := 23 + d) hS hE hK wE (fun w hw => Nat.lt_of_le_of_lt (wK.2.2.1 w hw) (by decide)) (by omega) M rfl rfl
    have dn' : gX12_doneMany S 306 ((23 : Int32) + nI d) M = some (nI (dnS E K)) := by rw [li]; exact dn
    have hdn : dnS E K ≤ 5 := by unfold dnS; omega
    have hlt := bV_lt (x := dnS E K) (b := b) (by omega) (fun q h => (hb.2 q h).1)
    rw [← hb.1] at hlt
    show ∃ M', gX12_laysB S (gX12_lays S fu) 306 (nI d) (nI d) M = some M' ∧ fr (mLq d) M M' ∧ mBe M' d (if btr (dnS E K) b then some (dnS E K, f) else b)
    cases o : btr (dnS E K) b with
    | true =>
      have h1 := hlt.2 o
      obtain ⟨M', e1, e2, e3, e4, e5⟩ := m_l31 (S := S) (R := M.2.2) (n := d) (rk := gX12_lays S fu) hS hn d zfu 0 (zsI M 306 55 (nI (dnS E K))) rfl (by omega) (by unfold zfu; omega)
      refine ⟨M', ?_, ⟨e2, fun a b q => ?_⟩, ?_⟩
      · simp (disch := first | omega | simp only [qI2, qL2, qC2, qF2]) only [gX12_laysB, if_true, ↓mH hS, ↓bind_of dn', if_pos h1]
        exact e1
      · unfold mLq at q
        rw [e3 a b (by omega), zsI_ne (by omega)]
      · refine ⟨?_, fun q hq => ?_⟩
        · rw [e3 306 55 (by omega), zsI_at]
          rfl
        · cases hq
          refine ⟨hdn, fun j hj => ?_⟩
          rw [e5 j (Nat.zero_le _) hj, zsI_ne (by omega)]
          exact hrow j hj
    | false =>
      have h1 : ¬ M.1 306 55 < nI (dnS E K) := fun h => by rw [hlt.1 h] at o; cases o
      refine ⟨M, ?_, fr.refl, hb⟩
      simp (disch := first | omega | simp only [qI2, qL2, qC2, qF2]) only [gX12_laysB, if_true, ↓mH hS, ↓bind_of dn', if_neg h1]
  | succ m ih =>
    intro fu d B K f b M hd hfu hm hK wK hB hrow hb
    obtain ⟨fu, rfl⟩ : ∃ f, fu = f + 1 := ⟨fu - 1, by omega⟩
    obtain ⟨hS, hE, hmo, wE, hmok⟩ := id hm
    have hT6 := wE.1
    have hP12 := wE.2.1
    have hne : ¬ d = n := by omega
    have li : (23 : Int32) + nI d = nI (23 + d) := by rw [li23', nI_add]
    have li2 : (23 : Int32) + nI d + 1 = nI (23 + d + 1) := by rw [li, nI_1]
    have loop : ∀ (k fu2 t : Nat) (b : zBe) (M1 : zM), fr (mLq d) M M1 → mBe M1 n b → t + k = eT E → k < fu2 → ∃ M', gX12_lays_60 S (gX12_lays S fu) fu2 306 (nI d) (nI n) (nI t) M1 = some M' ∧ fr (mLq d) M M' ∧ mBe M' n (layL (fun K' f' b' => layS E m K' f' (d + 1) b') E K f d k t b) := by
      intro k
      induction k with
      | zero =>
        intro fu2 t b M1 hf hb hk hfu2
        obtain ⟨fu2, rfl⟩ : ∃ f, fu2 = f + 1 := ⟨fu2 - 1, by omega⟩
        have hc : eT E ≤ t := by omega
        have hS1 : pMs S M1.2.2 := hf.1 ▸ hS
        have hT : M1.1 308 0 = nI (eT E) := (hf.2 308 0 (by unfold mLq; omega)).trans hE.1.1
        refine ⟨M1, ?_, hf, hb⟩
        simp (disch := first | omega | simp only [qI2, qL2, qC2, qF2]) only [gX12_lays_60, ↓mH hS1, ↓mL hS1, hT, nI_leI, ↓if_pos hc]
      | succ k ihk =>
        intro fu2 t b M1 hf hb hk hfu2
        obtain ⟨fu2, rfl⟩ : ∃ f, fu2 = f + 1 := ⟨fu2 - 1, by omega⟩
        have hc : ¬ eT E ≤ t := by omega
        have hS1 : pMs S M1.2.2 := hf.1 ▸ hS
        have hT : M1.1 308 0 = nI (eT E) := (hf.2 308 0 (by unfold mLq; omega)).trans hE.1.1
        have hK1 : pMk (zsI M1 338 d (nI t)).1 (23 + d) E K := pMk_cg hP12 (fun a b q => by unfold mS at q; rw [zsI_ne (by omega)]; exact hf.2 a b (by unfold mLq; omega)) hK
        obtain ⟨M5, a1, a2, a3⟩ := m_copies (S := S) (M := zsI M1 338 d (nI t)) (to := 23 + d + 1) (as := 23 + d) hS1 (by omega) (by omega) (by omega) hP12 hK1
        have a1' : gX12_copies S 306 ((23 : Int32) + nI d + 1) ((23 : Int32) + nI d) (zsI M1 338 d (nI t)) = some M5 := by rw [li2, li]; exact a1
        have hS5 : pMs S M5.2.2 := a3.1 ▸ hS1
        have hm7 : mOk S (zsI M5 327 (23 + d + 1) (nI t)).2.2 (zsI M5 327 (23 + d + 1) (nI t)).1 E (moN E) := by
          have r : (zsI M5 327 (23 + d + 1) (nI t)).2.2 = M.2.2 := a3.1.trans hf.1
          rw [r]
          exact mOk_cg (fun a b q => by
            rw [zsI_ne (by omega), a3.2 a b (by unfold mS; omega), zsI_ne (by omega)]
            exact hf.2 a b (by unfold mLq; omega)) hm
        have hK7 : pMk (zsI M5 327 (23 + d + 1) (nI t)).1 (23 + d + 1) E (apK K t) := by
          obtain ⟨⟨v0, v1, v2, v3, v4, v5, v6, v7⟩, vk, vl, vw⟩ := a2
          exact ⟨⟨by rw [zsI_ne (by omega)]; exact v0, by rw [zsI_ne (by omega)]; exact v1, by rw [zsI_ne (by omega)]; exact v2, zsI_at _ _ _ _, by rw [zsI_ne (by omega)]; exact v4, by rw [zsI_ne (by omega)]; exact v5, by rw [zsI_ne (by omega)]; exact v6, by rw [zsI_ne (by omega)]; exact v7⟩, fun i hi => ⟨by rw [zsI_ne (by omega)]; exact (vk i hi).1, by rw [zsI_ne (by omega)]; exact (vk i hi).2⟩, fun i hi => by rw [zsI_ne (by omega)]; exact vl i hi, fun i hi => by rw [zsI_ne (by omega)]; exact vw i hi⟩
        obtain ⟨M8, b1, b2, b3, b4, b5⟩ := m_day (S := S) (M := zsI M5 327 (23 + d + 1) (nI t)) (s := 23 + d + 1) (B := B) hm7 (by omega) hK7 (wfK_apK wK (by omega)) (by omega)
        have b1' : gX12_passes S 306 ((23 : Int32) + nI d + 1) 0 (zsI M5 327 (23 + d + 1) (nI t)) = some M8 := by rw [li2]; exact b1
        have hf8 : ∀ a b, ¬ ((a = 338 ∧ b = d) ∨ mW (23 + d + 1) a b) → M8.1 a b = M1.1 a b := fun a b q => by
          rw [b4.2 a b (fun h => q (Or.inr h)), zsI_ne (by
            by_cases h1 : a = 327
            · by_cases h2 : b = 23 + d + 1
              · exact absurd (Or.inr (by unfold mW mS; omega)) q
              · exact Or.inr h2
            · exact Or.inl h1), a3.2 a b (fun h => q (Or.inr (Or.inr h))), zsI_ne (by
            by_cases h1 : a = 338
            · by_cases h2 : b = d
              · exact absurd (Or.inl ⟨h1, h2⟩) q
              · exact Or.inr h2
            · exact Or.inl h1)]
        have hb8 : mBe M8 n b := ⟨(hf8 306 55 (by unfold mW mS; omega)).trans hb.1, fun q hq => ⟨(hb.2 q hq).1, fun j hj => (hf8 339 j (by unfold mW mS; omega)).trans ((hb.2 q hq).2 j hj)⟩⟩
        have hrow8 : ∀ j, j < d + 1 → M8.1 338 j = nI (uqN f d t j) := fun j hj => by
          by_cases e : j = d
          · subst e
            rw [b4.2 338 j (by unfold mW mS; omega), zsI_ne (by omega), a3.2 338 j (by unfold mS; omega), zsI_at]
            unfold uqN
            rw [if_pos rfl]
          · rw [hf8 338 j (by unfold mW mS; omega), hf.2 338 j (by unfold mLq; omega), hrow j (by omega)]
            unfold uqN
            rw [if_neg e]
        obtain ⟨M9, c1, c2, c3⟩ := ih fu (d + 1) (B + 1) (dayS E (moN E) (apK K t)) (uqN f d t) b M8 (by omega) (by omega) b5 b2 b3 (by omega) hrow8 hb8
        have hf9 : fr (mLq d) M M9 := by
          refine ⟨c2.1.trans (b4.1.trans (a3.1.trans hf.1)), fun a b q => ?_⟩
          rw [c2.2 a b (by unfold mLq at q ⊢; omega), hf8 a b (by unfold mLq at q; unfold mW mS; omega)]
          exact hf.2 a b q
        obtain ⟨M', d1, d2, d3⟩ := ihk fu2 (t + 1) _ M9 hf9 c3 (by omega) (by omega)
        refine ⟨M', ?_, d2, d3⟩
        rw [← d1]
        simp (disch := first | omega | simp only [qI2, qL2, qC2, qF2]) only [gX12_lays_60, ↓mH hS1, ↓mL hS1, hT, nI_leI, if_neg hc, ↓mG hS1, ↓bind_of a1', ↓mH hS5]
        rw [li2]
        simp (disch := first | omega | simp only [qI2, qL2, qC2, qF2]) only [↓mG hS5, ↓mH hS5]
        rw [← li2]
        simp (disch := first | omega | simp only [qI2, qL2, qC2, qF2]) only [↓bind_of b1', nI_1]
        rw [← nI_1 d]
        have c1' : gX12_lays S fu 306 (nI d + 1) (nI n) M8 = some M9 := by rw [nI_1]; exact c1
        simp (disch := first | omega | simp only [qI2, qL2, qC2, qF2]) only [↓bind_of c1']
    obtain ⟨M', e1, e2, e3⟩ := loop (eT E) zfu 0 b M fr.refl hb (by omega) (by unfold zfu; omega)
    refine ⟨M', ?_, e2, e3⟩
    rw [← e1]
    show gX12_laysB S (gX12_lays S fu) 306 (nI d) (nI n) M = _
    simp (disch := first | omega | simp only [qI2, qL2, qC2, qF2]) only [gX12_laysB, nI_eq, if_neg hne]
    rfl
