/-! pure part 50: fair, the class's side -/
def pGe (I : Nat → Nat → Int32) (row : Nat) (G : zGe) (P : Nat) : Prop := ∀ j, j < P → I row j = oI (G j) ∧ ∀ v, G j = some v → v < 6
theorem pGn {I : Nat → Nat → Int32} {row P j : Nat} {G : zGe} (h : pGe I row G P) (hj : j < P) : I row j = -1 ↔ G j = none := by
  obtain ⟨h1, h2⟩ := h j hj
  rw [h1]
  exact oI_none (fun t ht => by have := h2 t ht; omega)
theorem pGe_cg {I J : Nat → Nat → Int32} {row P : Nat} {G : zGe} (e : ∀ j, J row j = I row j) (h : pGe I row G P) : pGe J row G P := fun j hj => ⟨(e j).trans (h j hj).1, (h j hj).2⟩
theorem pGe_set {M : zM} {row P x v : Nat} {G : zGe} (hv : v < 6) (h : pGe M.1 row G P) : pGe (zsI M row x (nI v)).1 row (fun y => if y = x then some v else G y) P := by
  intro j hj
  by_cases q : j = x
  · subst q
    dsimp only
    rw [if_pos rfl, zsI_at]
    exact ⟨rfl, fun u hu => by cases hu; exact hv⟩
  · dsimp only
    rw [if_neg q, zsI_ne (by omega)]
    exact h j hj
theorem c_fl {S : List (Nat × Nat)} {M : zM} {G : zGe} {P : Nat} (hS : zShp S) (hR : pRf M.2.2) (hP : P ≤ 12) (hG : pGe M.1 187 G P) : ∀ (k fu i : Nat), i + k = P → k < fu → gX6_firstLeft_2 S fu 185 (nI P) (nI i) M = some (oI (lfG G k i)) := by
  have D := cD hS hR
  have EE := cE hS hR
  intro k
  induction k with
  | zero =>
    intro fu i hk hf
    obtain ⟨fu, rfl⟩ : ∃ f, fu = f + 1 := ⟨fu - 1, by omega⟩
    have hb : P ≤ i := by omega
    simp (disch := first | omega | simp only [qI2, qL2, qC2, qF2]) only [gX6_firstLeft_2, nI_leI, ↓if_pos hb]
    rfl
  | succ k ih =>
    intro fu i hk hf
    obtain ⟨fu, rfl⟩ : ∃ f, fu = f + 1 := ⟨fu - 1, by omega⟩
    have hb : ¬ P ≤ i := by omega
    have g := pGn hG (j := i) (by omega)
    cases q : G i with
    | none =>
      have g' : M.1 187 i = -1 := g.2 q
      simp (disch := first | omega | simp only [qI2, qL2, qC2, qF2]) only [gX6_firstLeft_2, nI_leI, if_neg hb, ↓D, ↓EE, ↓if_pos g']
      unfold lfG
      rw [q]
      rfl
    | some v =>
      have g' : ¬ M.1 187 i = -1 := fun h => by rw [g.1 h] at q; cases q
      simp (disch := first | omega | simp only [qI2, qL2, qC2, qF2]) only [gX6_firstLeft_2, nI_leI, if_neg hb, ↓D, ↓EE, ↓if_neg g', nI_1]
      have e : lfG G (k + 1) i = lfG G k (i + 1) := by rw [lfG, q]
      rw [ih fu (i + 1) (by omega) (by omega), e]
def wst1 (G : zGe) (d : Nat → Nat) (x : Nat) (b : Option Nat) : Option Nat := match G x with | some _ => b | none => match b with | none => some x | some y => if d x < d y then some x else b
theorem c_wish16 {S : List (Nat × Nat)} {M : zM} {t h : Nat} {E : zEn} {K : zKa} {le : Int32} {B : Nat} {G : zGe} {k2 : Nat → Nat → Nat → Int32 → zM → Option zM} (hS : zShp S) (hR : pRf M.2.2) (hT : pTs S M.2.2 t) (hV : pTv M.1 t E) (hK : pSv M.1 107 E K le) (wE : wfE E) (wK : wfK E K B) (hG : pGe M.1 187 G (eP E)) (hh : h < eP E) : ∀ (k fu x : Nat) (b : Option Nat), x + k = eP E → k < fu → (∀ y, b = some y → y < eP E) →
    gX6_wish_16 S k2 fu 185 t 107 (nI h) (oI b) (nI x) M = k2 185 t 107 (nI (h + 1)) (zsI M 189 h (oI (wishF G (dP E K h) k x b))) := by
  have hP12 := wE.2.1
  have hP := hK.1.2.2.2.2.2.2.2.2.2.2
  have D := cD hS hR
  have N := cN hS hR
  have EE := cE hS hR
  have ml : mnS E K h < 10 := Nat.lt_succ_of_le (wE.2.2.2.2.2.2.2.2.1 _ (wK.1 h hh))
  intro k
  induction k with
  | zero =>
    intro fu x b hk hf hb
    obtain ⟨fu, rfl⟩ : ∃ f, fu = f + 1 := ⟨fu - 1, by omega⟩
    have hc : eP E ≤ x := by omega
    simp (disch := first | omega | simp only [qI2, qL2, qC2, qF2]) only [gX6_wish_16, ↓N, hP, nI_leI, ↓if_pos hc, ↓D, ↓EE, nI_1]
    rfl
  | succ k ih =>
    intro fu x b hk hf hb
    obtain ⟨fu, rfl⟩ : ∃ f, fu = f + 1 := ⟨fu - 1, by omega⟩
    have hc : ¬ eP E ≤ x := by omega
    have g := pGn hG (j := x) (by omega)
    have n10 : ¬ (1 : Int32) = 0 := by decide
    have a1 := c_apart (h := h) (x := x) hT (pSs_of hS hR 107 (by decide)) hV hK wE wK hh (by omega)
    show _ = k2 185 t 107 (nI (h + 1)) (zsI M 189 h (oI (wishF G (dP E K h) k (x + 1) (wst1 G (dP E K h) x b))))
    have hb2 : ∀ y, wst1 G (dP E K h) x b = some y → y < eP E := by
      intro y hy
      unfold wst1 at hy
      split at hy
      · exact hb y hy
      · split at hy
        · cases hy; omega
        · split at hy
          · cases hy; omega
          · exact hb y hy
    rw [← ih fu (x + 1) _ (by omega) (by omega) hb2]
    cases b with
    | none =>
      have o1 : oI none = (-1 : Int32) := rfl
      cases q : G x with
      | none =>
        have g' : M.1 187 x = -1 := g.2 q
        have e : wst1 G (dP E K h) x none = some x := by unfold wst1; rw [q]
        rw [e, oIs]
        simp (disch := first | omega | simp only [qI2, qL2, qC2, qF2]) only [gX6_wish_16, ↓N, hP, nI_leI, if_neg hc, ↓if_pos o1, gX6_wish_55, ↓if_neg n10, ↓D, ↓EE, ↓if_pos g', nI_1]
      | some v =>
        have g' : ¬ M.1 187 x = -1 := fun h => by rw [g.1 h] at q; cases q
        have e : wst1 G (dP E K h) x none = none := by unfold wst1; rw [q]
        rw [e]
        simp (disch := first | omega | simp only [qI2, qL2, qC2, qF2]) only [gX6_wish_16, ↓N, hP, nI_leI, if_neg hc, ↓if_pos o1, gX6_wish_55, ↓if_neg n10, ↓D, ↓EE, ↓if_neg g', nI_1]
    | some y =>
      have hy := hb y rfl
      have o1 : ¬ nI y = (-1 : Int32) := nI_m1ne (by omega)
      have a2 := c_apart (h := h) (x := y) hT (pSs_of hS hR 107 (by decide)) hV hK wE wK hh (by omega)
      have l1 := apN_lt (x := x) (m := mnS E K h) (by omega) ml
      have l2 := apN_lt (x := y) (m := mnS E K h) (by omega) ml
      rw [oIs]
      by_cases r : apN y (mnS E K h) ≤ apN x (mnS E K h)
      · have r' : ¬ dP E K h x < dP E K h y := by unfold dP; omega
        have e : wst1 G (dP E K h) x (some y) = some y := by
          unfold wst1
          split
          · rfl
          · dsimp only; rw [if_neg r']
        rw [e, oIs]
        simp (disch := first | omega | simp only [qI2, qL2, qC2, qF2]) only [gX6_wish_16, ↓N, hP, nI_leI, if_neg hc, ↓if_neg o1, ↓bind_of a1, ↓bind_of a2, ↓if_pos r, gX6_wish_55, if_true, nI_1]
      · have r' : dP E K h x < dP E K h y := by unfold dP; omega
        cases q : G x with
        | none =>
          have g' : M.1 187 x = -1 := g.2 q
          have e : wst1 G (dP E K h) x (some y) = some x := by unfold wst1; rw [q]; dsimp only; rw [if_pos r']
          rw [e, oIs]
          simp (disch := first | omega | simp only [qI2, qL2, qC2, qF2]) only [gX6_wish_16, ↓N, hP, nI_leI, if_neg hc, ↓if_neg o1, ↓bind_of a1, ↓bind_of a2, if_neg r, gX6_wish_55, ↓if_neg n10, ↓D, ↓EE, ↓if_pos g', nI_1]
        | some v =>
          have g' : ¬ M.1 187 x = -1 := fun h => by rw [g.1 h] at q; cases q
          have e : wst1 G (dP E K h) x (some y) = some y := by unfold wst1; rw [q]
          rw [e, oIs]
          simp (disch := first | omega | simp only [qI2, qL2, qC2, qF2]) only [gX6_wish_16, ↓N, hP, nI_leI, if_neg hc, ↓if_neg o1, ↓bind_of a1, ↓bind_of a2, if_neg r, gX6_wish_55, ↓if_neg n10, ↓D, ↓EE, ↓if_neg g', nI_1]
theorem c_wish2 {S : List (Nat × Nat)} {R : Nat → Nat → Option Nat} {I : Nat → Nat → Int32} {t : Nat} {E : zEn} {K : zKa} {le : Int32} {B : Nat} {G : zGe} (hS : zShp S) (hR : pRf R) (hT : pTs S R t) (ht : t = 43 ∨ t = 75) (hV : pTv I t E) (hK : pSv I 107 E K le) (wE : wfE E) (wK : wfK E K B) (hG : pGe I 187 G (eP E)) : ∀ (k fu h : Nat) (M : zM), M.2.2 = R → (∀ a b, ¬ a = 189 → M.1 a b = I a b) → h + k = eP E → k < fu →
    ∃ M', gX6_wish_2 S fu 185 t 107 (nI h) M = some M' ∧ M'.2.2 = R ∧ (∀ a b, ¬ a = 189 → M'.1 a b = I a b) ∧ (∀ j, ¬ (h ≤ j ∧ j < eP E) → M'.1 189 j = M.1 189 j) ∧ (∀ j, h ≤ j → j < eP E → M'.1 189 j = oI (wishF G (dP E K j) (eP E) 0 none)) := by
  have hP12 := wE.2.1
  intro k
  induction k with
  | zero =>
    intro fu h M hMR hI hk hf
    obtain ⟨fu, rfl⟩ : ∃ f, fu = f + 1 := ⟨fu - 1, by omega⟩
    have hc : eP E ≤ h := by omega
    have hP : M.1 107 10 = nI (eP E) := (hI 107 10 (by omega)).trans hK.1.2.2.2.2.2.2.2.2.2.2
    have N := cN hS hR
    refine ⟨M, ?_, hMR, hI, fun _ _ => rfl, fun j h1 h2 => by omega⟩
    simp (disch := first | omega | simp only [qI2, hMR]) only [gX6_wish_2, ↓N, hP, nI_leI, ↓if_pos hc]
  | succ k ih =>
    intro fu h M hMR hI hk hf
    obtain ⟨fu, rfl⟩ : ∃ f, fu = f + 1 := ⟨fu - 1, by omega⟩
    have hc : ¬ eP E ≤ h := by omega
    have hP : M.1 107 10 = nI (eP E) := (hI 107 10 (by omega)).trans hK.1.2.2.2.2.2.2.2.2.2.2
    have N := cN hS hR
    have hV' : pTv M.1 t E := pTv_cg (fun a b k1 k2 => hI a b (by omega)) hV
    have hK' : pSv M.1 107 E K le := pSv_cg (fun a b k1 k2 => hI a b (by omega)) hK
    have r : gX6_wish_16 S (gX6_wish_2 S fu) zfu 185 t 107 (nI h) (-1) 0 M = gX6_wish_2 S fu 185 t 107 (nI (h + 1)) (zsI M 189 h (oI (wishF G (dP E K h) (eP E) 0 none))) := c_wish16 (h := h) hS (hMR ▸ hR) (hMR ▸ hT) hV' hK' wE wK (pGe_cg (fun j => hI 187 j (by omega)) hG) (by omega) (eP E) zfu 0 none (by omega) (by unfold zfu; omega) (fun y hy => by cases hy)
    obtain ⟨M', e1, e2, e3, e4, e5⟩ := ih fu (h + 1) (zsI M 189 h (oI (wishF G (dP E K h) (eP E) 0 none))) hMR (fun a b q => by rw [zsI_ne (by omega)]; exact hI a b q) (by omega) (by omega)
    refine ⟨M', ?_, e2, e3, fun j q => by rw [e4 j (by omega), zsI_ne (by omega)], fun j h1 h2 => ?_⟩
    · simp (disch := first | omega | simp only [qI2, hMR]) only [gX6_wish_2, ↓N, hP, nI_leI, if_neg hc, r]
      exact e1
    · by_cases hj : j = h
      · subst hj
        rw [e4 _ (by omega), zsI_at]
      · exact e5 j (by omega) h2
