/-! pure part 54: plan, what is asked; the model's side -/
def uqN (f : Nat → Nat) (t v : Nat) : Nat → Nat := fun i => if i = t then v else f i
theorem uqN_12 {f : Nat → Nat} {t v : Nat} (hf : ∀ j, f j ≤ 12) (hv : v ≤ 12) : ∀ j, uqN f t v j ≤ 12 := by
  intro j
  unfold uqN
  split
  · exact hv
  · exact hf j
def suS (E : zEn) (K : zKa) (t w : Nat) : Bool := if lenS E K (moN E) t < eLo E w then false else if eHi E w < lenS E K (moN E) t then false else true
def gvT (E : zEn) (K : zKa) (f : Nat → Nat) (w : Nat) : Nat → Nat := fun t => if suS E K t w then f t else 0
theorem gvT_12 {E : zEn} {K : zKa} {f : Nat → Nat} (hf : ∀ j, f j ≤ 12) (w t : Nat) : gvT E K f w t ≤ 12 := by
  unfold gvT
  split
  · exact hf t
  · exact Nat.zero_le _
def allS (E : zEn) (K : zKa) (f : Nat → Nat) : Nat → Nat → Bool
  | 0, _ => true
  | k + 1, i => if kWt K i + sR (gvT E K f i) (eT E) 0 < eNd E i then false else allS E K f k (i + 1)
def gvL (rk : Nat → (Nat → Nat) → Option (Nat → Nat)) (t d : Nat) (f : Nat → Nat) : Nat → Option (Nat → Nat)
  | 0 => rk d (uqN f t 0)
  | n + 1 => match rk (d - (n + 1)) (uqN f t (n + 1)) with | some g => some g | none => gvL rk t d f n
def gvS (E : zEn) (K : zKa) : Nat → Nat → (Nat → Nat) → Option (Nat → Nat)
  | 0, d, f => if d = 0 then (if allS E K f (eW E) 0 then some f else none) else none
  | r + 1, d, f => gvL (gvS E K r) (eT E - (r + 1)) d f d
def gvR (o : Option (Nat → Nat)) (v : Int32) (row : Nat → Int32) (T t : Nat) (f : Nat → Nat) : Prop := (∀ g, o = some g → v = 1 ∧ ∀ j, j < T → row j = nI (g j)) ∧ (o = none → v = 0 ∧ ∀ j, j < t → row j = nI (f j))
def plS (g : Nat → Option (Nat → Nat)) : Nat → Nat → Option (Nat × (Nat → Nat))
  | 0, _ => none
  | k + 1, d => match g d with | some f => some (d, f) | none => plS g k (d + 1)
theorem plS_lt {g : Nat → Option (Nat → Nat)} : ∀ {k d : Nat} {q : Nat × (Nat → Nat)}, plS g k d = some q → q.1 < d + k
  | 0, _, _, h => by cases h
  | k + 1, d, q, h => by
    unfold plS at h
    split at h
    · cases h
      exact Nat.lt_add_of_pos_right (Nat.succ_pos k)
    · have := plS_lt h
      omega
theorem m_da28 {S : List (Nat × Nat)} {M : zM} {E : zEn} {K : zKa} {f : Nat → Nat} {w : Nat} {k2 : Nat → Int32 → zM → Option Int32} (hS : pMs S M.2.2) (hE : pME M.1 E) (wE : wfE E) (hf : ∀ j, f j ≤ 12) (hl : ∀ t, t < eT E → M.1 336 t = lenS E K (moN E) t) (hg : ∀ t, t < eT E → M.1 337 t = nI (f t)) (hw : w < eW E) : ∀ (k fu t s : Nat) (x : Int32), t + k = eT E → k < fu → x.toInt = (eNd E w : Int) - s → s ≤ 9 + 12 * t →
    gX12_doesAll_28 S k2 fu 306 (nI w) x (nI t) M = if s + sR (gvT E K f w) k t < eNd E w then some 0 else k2 306 (nI (w + 1)) M := by
  have hT6 := wE.1
  have hW5 := wE.2.2.2.1
  have hT : M.1 308 0 = nI (eT E) := hE.1.1
  have hnd := (wE.2.2.2.2.2.2.2.2.2.2.2.1 w hw).2
  have glo : M.1 315 w = eLo E w := (hE.2.2.2.2.1 w hw).2.1
  have ghi : M.1 316 w = eHi E w := (hE.2.2.2.2.1 w hw).2.2.1
  intro k
  induction k with
  | zero =>
    intro fu t s x hk hfu hx hs
    obtain ⟨fu, rfl⟩ : ∃ f, fu = f + 1 := ⟨fu - 1, by omega⟩
    have hc : eT E ≤ t := by omega
    simp (disch := first | omega | simp only [qI2, qL2, qC2, qF2]) only [gX12_doesAll_28, ↓mH hS, ↓mL hS, hT, nI_leI, ↓if_pos hc, nI_1]
    have hx0 : x ≤ 0 ↔ ¬ s < eNd E w := by
      rw [Int32.le_iff_toInt_le, hx, show (0 : Int32).toInt = 0 from by decide]
      omega
    show _ = if s + 0 < eNd E w then some 0 else k2 306 (nI (w + 1)) M
    by_cases h : s < eNd E w
    · rw [if_neg (fun h2 => (hx0.1 h2) h), if_pos (by omega)]
    · rw [if_pos (hx0.2 h), if_neg (by omega)]
  | succ k ih =>
    intro fu t s x hk hfu hx hs
    obtain ⟨fu, rfl⟩ : ∃ f, fu = f + 1 := ⟨fu - 1, by omega⟩
    have hc : ¬ eT E ≤ t := by omega
    have g1 := hl t (by omega)
    have g2 := hg t (by omega)
    have c12 := gvT_12 (E := E) (K := K) hf w t
    have z : x - 0 = x := Int32.sub_zero x
    rw [show s + sR (gvT E K f w) (k + 1) t = s + gvT E K f w t + sR (gvT E K f w) k (t + 1) from (Nat.add_assoc _ _ _).symm]
    have hx' : (x - nI (gvT E K f w t)).toInt = (eNd E w : Int) - (s + gvT E K f w t : Nat) := by
      rw [Int32.toInt_sub, hx, nI_toInt (by omega)]
      have : ((eNd E w : Int) - s - (gvT E K f w t : Int)).bmod (2 ^ 32) = (eNd E w : Int) - s - (gvT E K f w t : Int) := by
        apply Int.bmod_eq_of_le <;> omega
      rw [this]
      omega
    rw [← ih fu (t + 1) (s + gvT E K f w t) _ (by omega) (by omega) hx' (by omega)]
    by_cases r1 : lenS E K (moN E) t < eLo E w
    · have c0 : gvT E K f w t = 0 := by unfold gvT suS; rw [if_pos r1]; rfl
      rw [c0, nI_0]
      simp (disch := first | omega | simp only [qI2, qL2, qC2, qF2]) only [gX12_doesAll_28, ↓mH hS, ↓mL hS, ↓mG hS, hT, nI_leI, if_neg hc, g1, glo, ↓if_pos r1, nI_1]
    · by_cases r2 : eHi E w < lenS E K (moN E) t
      · have c0 : gvT E K f w t = 0 := by unfold gvT suS; rw [if_neg r1, if_pos r2]; rfl
        rw [c0, nI_0]
        simp (disch := first | omega | simp only [qI2, qL2, qC2, qF2]) only [gX12_doesAll_28, ↓mH hS, ↓mL hS, ↓mG hS, hT, nI_leI, if_neg hc, g1, glo, ↓if_neg r1, ghi, ↓if_pos r2, nI_1]
      · have c0 : gvT E K f w t = f t := by unfold gvT suS; rw [if_neg r1, if_neg r2]; rfl
        rw [c0]
        simp (disch := first | omega | simp only [qI2, qL2, qC2, qF2]) only [gX12_doesAll_28, ↓mH hS, ↓mL hS, ↓mG hS, hT, nI_leI, if_neg hc, g1, g2, glo, ↓if_neg r1, ghi, ↓if_neg r2, nI_1]
theorem m_da2 {S : List (Nat × Nat)} {M : zM} {E : zEn} {K : zKa} {f : Nat → Nat} (hS : pMs S M.2.2) (hE : pME M.1 E) (hK : pMk M.1 0 E K) (wE : wfE E) (hwt : ∀ w, w < 5 → kWt K w ≤ 9) (hf : ∀ j, f j ≤ 12) (hl : ∀ t, t < eT E → M.1 336 t = lenS E K (moN E) t) (hg : ∀ t, t < eT E → M.1 337 t = nI (f t)) : ∀ (k fu w : Nat), w + k = eW E → k < fu →
    gX12_doesAll_2 S fu 306 (nI w) M = some (bI (allS E K f k w)) := by
  have hT6 := wE.1
  have hW5 := wE.2.2.2.1
  have hW : M.1 308 3 = nI (eW E) := hE.1.2.2.2.1
  intro k
  induction k with
  | zero =>
    intro fu w hk hfu
    obtain ⟨fu, rfl⟩ : ∃ f, fu = f + 1 := ⟨fu - 1, by omega⟩
    have hc : eW E ≤ w := by omega
    simp (disch := first | omega | simp only [qI2, qL2, qC2, qF2]) only [gX12_doesAll_2, ↓mH hS, ↓mL hS, hW, nI_leI, ↓if_pos hc]
    rfl
  | succ k ih =>
    intro fu w hk hfu
    obtain ⟨fu, rfl⟩ : ∃ f, fu = f + 1 := ⟨fu - 1, by omega⟩
    have hc : ¬ eW E ≤ w := by omega
    have gnd : M.1 317 w = nI (eNd E w) := (hE.2.2.2.2.1 w (by omega)).2.2.2
    have gwt : M.1 335 w = nI (kWt K w) := by have := hK.2.2.2 w (by omega); rw [show 5 * 0 + w = w by omega] at this; exact this
    have hnd := (wE.2.2.2.2.2.2.2.2.2.2.2.1 w (by omega)).2
    have hw9 := hwt w (by omega)
    have r := m_da28 (S := S) (M := M) (E := E) (K := K) (f := f) (w := w) (k2 := gX12_doesAll_2 S fu) hS hE wE hf hl hg (by omega) (eT E) zfu 0 (kWt K w) (nI (eNd E w) - nI (kWt K w)) (by omega) (by unfold zfu; omega) (pk_sub_toInt (by omega) (by omega)) (by omega)
    have r' : gX12_doesAll_28 S (gX12_doesAll_2 S fu) zfu 306 (nI w) (nI (eNd E w) - nI (kWt K w)) 0 M = _ := r
    simp (disch := first | omega | simp only [qI2, qL2, qC2, qF2]) only [gX12_doesAll_2, ↓mH hS, ↓mL hS, ↓mG hS, hW, nI_leI, if_neg hc, gnd, gwt]
    rw [r']
    unfold allS
    by_cases h : kWt K w + sR (gvT E K f w) (eT E) 0 < eNd E w
    · rw [if_pos h, if_pos h]; rfl
    · rw [if_neg h, if_neg h]
      exact ih fu (w + 1) (by omega) (by omega)
theorem m_g29 {S : List (Nat × Nat)} {R : Nat → Nat → Option Nat} {I : Nat → Nat → Int32} {E : zEn} {K : zKa} {r t d : Nat} {rk : Nat → Int32 → Int32 → zM → Option (Int32 × zM)} (hS : pMs S R) (wE : wfE E) (ht : t < eT E) (hd : d ≤ 12) (hrk : ∀ (d' : Nat) (f' : Nat → Nat) (M : zM), d' ≤ 12 → (∀ j, f' j ≤ 12) → M.2.2 = R → (∀ a b, ¬ a = 337 → M.1 a b = I a b) → (∀ j, j < t + 1 → M.1 337 j = nI (f' j)) → ∃ (v : Int32) (M' : zM), rk 306 (nI (t + 1)) (nI d') M = some (v, M') ∧ M'.2.2 = R ∧ (∀ a b, ¬ a = 337 → M'.1 a b = I a b) ∧ gvR (gvS E K r d' f') v (M'.1 337) (eT E) (t + 1) f') : ∀ (n fu : Nat) (f : Nat → Nat) (M : zM), n ≤ d → n + 1 < fu → (∀ j, f j ≤ 12) → M.2.2 = R → (∀ a b, ¬ a = 337 → M.1 a b = I a b) → (∀ j, j < t → M.1 337 j = nI (f j)) →
    ∃ (v : Int32) (M' : zM), gX12_gives_29 S rk fu 306 (nI t) (nI d) (nI n) M = some (v, M') ∧ M'.2.2 = R ∧ (∀ a b, ¬ a = 337 → M'.1 a b = I a b) ∧ gvR (gvL (gvS E K r) t d f n) v (M'.1 337) (eT E) t f := by
  have hT6 := wE.1
  have n10 : ¬ (1 : Int32) = 0 := by decide
  intro n
  induction n with
  | zero =>
    intro fu f M hn hfu hf hMR hI hrow
    obtain ⟨fu, rfl⟩ : ∃ f, fu = f + 2 := ⟨fu - 2, by omega⟩
    have c0 : ¬ nI 0 < 0 := by decide
    have c1 : (nI 0 + (-1 : Int32)) < 0 := by decide
    have sb : nI d - nI 0 = nI d := pk_sub (Nat.zero_le d)
    obtain ⟨v, M', e1, e2, e3, e4, e5⟩ := hrk d (uqN f t 0) (zsI M 337 t (nI 0)) hd (uqN_12 hf (by omega)) hMR (fun a b q => by rw [zsI_ne (by omega)]; exact hI a b q) (fun j hj => by
      by_cases q : j = t
      · rw [q, zsI_at]; unfold uqN; rw [if_pos rfl]
      · rw [zsI_ne (by omega), hrow j (by omega)]; unfold uqN; rw [if_neg q])
    cases o : gvS E K r d (uqN f t 0) with
    | some g =>
      obtain ⟨hv, hg⟩ := e4 g o
      subst hv
      refine ⟨1, M', ?_, e2, e3, ⟨fun g2 h2 => ?_, fun h2 => ?_⟩⟩
      · simp (disch := first | omega | simp only [qI2, hMR]) only [gX12_gives_29, ↓if_neg c0, ↓mH hS, ↓mG hS, nI_1, sb, ↓zb2_of e1, ↓if_neg n10]
      · have h3 : gvS E K r d (uqN f t 0) = some g2 := h2
        rw [o] at h3
        cases h3
        exact ⟨rfl, hg⟩
      · have h3 : gvS E K r d (uqN f t 0) = none := h2
        rw [o] at h3
        cases h3
    | none =>
      obtain ⟨hv, hg⟩ := e5 o
      subst hv
      refine ⟨0, M', ?_, e2, e3, ⟨fun g2 h2 => ?_, fun h2 => ⟨rfl, fun j hj => ?_⟩⟩⟩
      · simp (disch := first | omega | simp only [qI2, hMR]) only [gX12_gives_29, ↓if_neg c0, ↓mH hS, ↓mG hS, nI_1, sb, ↓zb2_of e1, if_true, ↓if_pos c1]
      · have h3 : gvS E K r d (uqN f t 0) = some g2 := h2
        rw [o] at h3
        cases h3
      · rw [hg j (by omega)]
        unfold uqN
        rw [if_neg (by omega)]
  | succ n ih =>
    intro fu f M hn hfu hf hMR hI hrow
    obtain ⟨fu, rfl⟩ : ∃ f, fu = f + 1 := ⟨fu - 1, by omega⟩
    have c0 : ¬ nI (n + 1) < 0 := nI_pos (by omega)
    have sb : nI d - nI (n + 1) = nI (d - (n + 1)) := pk_sub hn
    obtain ⟨v, M', e1, e2, e3, e4, e5⟩ := hrk (d - (n + 1)) (uqN f t (n + 1)) (zsI M 337 t (nI (n + 1))) (by omega) (uqN_12 hf (by omega)) hMR (fun a b q => by rw [zsI_ne (by omega)]; exact hI a b q) (fun j hj => by
      by_cases q : j = t
      · rw [q, zsI_at]; unfold uqN; rw [if_pos rfl]
      · rw [zsI_ne (by omega), hrow j (by omega)]; unfold uqN; rw [if_neg q])
    have un : gvL (gvS E K r) t d f (n + 1) = match gvS E K r (d - (n + 1)) (uqN f t (n + 1)) with | some g => some g | none => gvL (gvS E K r) t d f n := rfl
    rw [un]
    cases o : gvS E K r (d - (n + 1)) (uqN f t (n + 1)) with
    | some g =>
      obtain ⟨hv, hg⟩ := e4 g o
      subst hv
      refine ⟨1, M', ?_, e2, e3, ⟨fun g2 h2 => ?_, fun h2 => ?_⟩⟩
      · simp (disch := first | omega | simp only [qI2, hMR]) only [gX12_gives_29, ↓if_neg c0, ↓mH hS, ↓mG hS, nI_1, sb, ↓zb2_of e1, ↓if_neg n10]
      · cases h2
        exact ⟨rfl, hg⟩
      · cases h2
    | none =>
      obtain ⟨hv, hg⟩ := e5 o
      subst hv
      obtain ⟨v2, M2, d1, d2, d3, d4⟩ := ih fu f M' (by omega) (by omega) hf e2 e3 (fun j hj => by
        rw [hg j (by omega)]
        unfold uqN
        rw [if_neg (by omega)])
      refine ⟨v2, M2, ?_, d2, d3, d4⟩
      rw [← d1]
      simp (disch := first | omega | simp only [qI2, hMR]) only [gX12_gives_29, ↓if_neg c0, ↓mH hS, ↓mG hS, nI_1, sb, ↓zb2_of e1, if_true, pk_m1]
theorem m_gives {S : List (Nat × Nat)} {R : Nat → Nat → Option Nat} {I : Nat → Nat → Int32} {E : zEn} {K : zKa} (hS : pMs S R) (hE : pME I E) (hK : pMk I 0 E K) (wE : wfE E) (hwt : ∀ w, w < 5 → kWt K w ≤ 9) (hl : ∀ t, t < eT E → I 336 t = lenS E K (moN E) t) : ∀ (r fuel t d : Nat) (f : Nat → Nat) (M : zM), t + r = eT E → r < fuel → d ≤ 12 → (∀ j, f j ≤ 12) → M.2.2 = R → (∀ a b, ¬ a = 337 → M.1 a b = I a b) → (∀ j, j < t → M.1 337 j = nI (f j)) →
    ∃ (v : Int32) (M' : zM), gX12_gives S fuel 306 (nI t) (nI d) M = some (v, M') ∧ M'.2.2 = R ∧ (∀ a b, ¬ a = 337 → M'.1 a b = I a b) ∧ gvR (gvS E K r d f) v (M'.1 337) (eT E) t f := by
  have hT6 := wE.1
  have hP12 := wE.2.1
  have hW5 := wE.2.2.2.1
  intro r
  induction r with
  | zero =>
    intro fuel t d f M hk hfu hd hf hMR hI hrow
    obtain ⟨fu, rfl⟩ : ∃ f, fuel = f + 1 := ⟨fuel - 1, by omega⟩
    have e : t = eT E := by omega
    subst e
    have hT : M.1 308 0 = nI (eT E) := (hI 308 0 (by omega)).trans hE.1.1
    show ∃ (v : Int32) (M' : zM), gX12_givesB S (gX12_gives S fu) 306 (nI (eT E)) (nI d) M = some (v, M') ∧ _
    by_cases h0 : d = 0
    · subst h0
      have da := m_da2 (S := S) (M := M) (E := E) (K := K) (f := f) (hMR ▸ hS) (pME_cg (fun a b k1 k2 => hI a b (by omega)) hE) (pMk_cg hP12 (fun a b q => hI a b (by unfold mS at q; omega)) hK) wE hwt hf (fun t ht => (hI 336 t (by omega)).trans (hl t ht)) hrow (eW E) zfu 0 (by omega) (by unfold zfu; omega)
      have da' : gX12_doesAll S 306 M = some (bI (allS E K f (eW E) 0)) := da
      cases o : allS E K f (eW E) 0 with
      | true =>
        rw [o] at da'
        refine ⟨1, M, ?_, hMR, hI, ⟨fun g hg => ⟨rfl, ?_⟩, fun h => ?_⟩⟩
        · simp (disch := first | omega | simp only [qI2, hMR]) only [gX12_givesB, ↓mH hS, ↓mL hS, hT, if_true, nI_0, ↓bind_of da', if_neg bIt]
        · have h3 : (if allS E K f (eW E) 0 then some f else none) = some g := hg
          rw [o, if_pos rfl] at h3
          cases h3
          exact hrow
        · have h3 : (if allS E K f (eW E) 0 then some f else none) = none := h
          rw [o, if_pos rfl] at h3
          cases h3
      | false =>
        rw [o] at da'
        refine ⟨0, M, ?_, hMR, hI, ⟨fun g hg => ?_, fun h => ⟨rfl, hrow⟩⟩⟩
        · simp (disch := first | omega | simp only [qI2, hMR]) only [gX12_givesB, ↓mH hS, ↓mL hS, hT, if_true, nI_0, ↓bind_of da', bIf]
        · have h3 : (if allS E K f (eW E) 0 then some f else none) = some g := hg
          rw [o, if_neg Bool.false_ne_true] at h3
          cases h3
    · have d0 : ¬ nI d = 0 := fun h => h0 ((nI_0e (by omega)).1 h)
      have o : gvS E K 0 d f = none := if_neg h0
      refine ⟨0, M, ?_, hMR, hI, ⟨fun g hg => ?_, fun h => ⟨rfl, hrow⟩⟩⟩
      · simp (disch := first | omega | simp only [qI2, hMR]) only [gX12_givesB, ↓mH hS, ↓mL hS, hT, if_true, if_neg d0]
      · rw [o] at hg
        cases hg
  | succ r ih =>
    intro fuel t d f M hk hfu hd hf hMR hI hrow
    obtain ⟨fu, rfl⟩ : ∃ f, fuel = f + 1 := ⟨fuel - 1, by omega⟩
    have hne : ¬ t = eT E := by omega
    have hT : M.1 308 0 = nI (eT E) := (hI 308 0 (by omega)).trans hE.1.1
    have un : gvS E K (r + 1) d f = gvL (gvS E K r) t d f d := by
      show gvL (gvS E K r) (eT E - (r + 1)) d f d = _
      rw [show eT E - (r + 1) = t by omega]
    rw [un]
    obtain ⟨v, M', e1, e2⟩ := m_g29 (rk := gX12_gives S fu) (S := S) (R := R) (I := I) (E := E) (K := K) (r := r) (t := t) (d := d) hS wE (by omega) hd (fun d' f' M2 k1 k2 k3 k4 k5 => ih fu (t + 1) d' f' M2 (by omega) (by omega) k1 k2 k3 k4 k5) d zfu f M (Nat.le_refl _) (by unfold zfu; omega) hf hMR hI hrow
    refine ⟨v, M', ?_, e2⟩
    rw [← e1]
    show gX12_givesB S (gX12_gives S fu) 306 (nI t) (nI d) M = _
    simp (disch := first | omega | simp only [qI2, hMR]) only [gX12_givesB, ↓mH hS, ↓mL hS, hT, nI_eq, if_neg hne]
def plR (o : Option (Nat × (Nat → Nat))) (v : Int32) (row : Nat → Int32) (T : Nat) : Prop := (∀ q, o = some q → v = nI q.1 ∧ ∀ j, j < T → row j = nI (q.2 j)) ∧ (o = none → v = -2)
def pl0 (E : zEn) (K : zKa) : Nat → Option (Nat → Nat) := fun d => gvS E K (eT E) d (fun _ => 0)
theorem m_p32 {S : List (Nat × Nat)} {R : Nat → Nat → Option Nat} {I : Nat → Nat → Int32} {E : zEn} {K : zKa} (hS : pMs S R) (hE : pME I E) (hK : pMk I 0 E K) (wE : wfE E) (hwt : ∀ w, w < 5 → kWt K w ≤ 9) (hl : ∀ t, t < eT E → I 336 t = lenS E K (moN E) t) : ∀ (k fu d : Nat) (M : zM), d + k = 13 → k < fu → M.2.2 = R → (∀ a b, ¬ a = 337 → M.1 a b = I a b) →
    ∃ (v : Int32) (M' : zM), gX12_planned_32 S fu 306 (nI d) M = some (v, M') ∧ M'.2.2 = R ∧ (∀ a b, ¬ a = 337 → M'.1 a b = I a b) ∧ plR (plS (pl0 E K) k d) v (M'.1 337) (eT E) := by
  have hT6 := wE.1
  have n10 : ¬ (1 : Int32) = 0 := by decide
  intro k
  induction k with
  | zero =>
    intro fu d M hk hfu hMR hI
    obtain ⟨fu, rfl⟩ : ∃ f, fu = f + 1 := ⟨fu - 1, by omega⟩
    have hc : 12 < d := by omega
    refine ⟨-2, M, ?_, hMR, hI, ⟨fun q h => (by cases h), fun _ => rfl⟩⟩
    simp (disch := first | omega | simp only [qI2, hMR]) only [gX12_planned_32, li12, nI_ltI, ↓if_pos hc]
  | succ k ih =>
    intro fu d M hk hfu hMR hI
    obtain ⟨fu, rfl⟩ : ∃ f, fu = f + 1 := ⟨fu - 1, by omega⟩
    have hc : ¬ 12 < d := by omega
    obtain ⟨v, M', e1, e2, e3, e4, e5⟩ := m_gives hS hE hK wE hwt hl (eT E) 12 0 d (fun _ => 0) M (by omega) (by omega) (by omega) (fun _ => Nat.zero_le _) hMR hI (fun j hj => by omega)
    have e1' : gX12_gives S 12 306 0 (nI d) M = some (v, M') := e1
    have un : plS (pl0 E K) (k + 1) d = match gvS E K (eT E) d (fun _ => 0) with | some f => some (d, f) | none => plS (pl0 E K) k (d + 1) := rfl
    rw [un]
    cases o : gvS E K (eT E) d (fun _ => 0) with
    | some g =>
      obtain ⟨hv, hg⟩ := e4 g o
      subst hv
      refine ⟨nI d, M', ?_, e2, e3, ⟨fun q h => (by cases h; exact ⟨rfl, hg⟩), fun h => (by cases h)⟩⟩
      simp (disch := first | omega | simp only [qI2, hMR]) only [gX12_planned_32, li12, nI_ltI, ↓if_neg hc, ↓mH hS]
      rw [e1']
      rfl
    | none =>
      obtain ⟨hv, hg⟩ := e5 o
      subst hv
      obtain ⟨v2, M2, d1, d2, d3, d4⟩ := ih fu (d + 1) M' (by omega) (by omega) e2 e3
      refine ⟨v2, M2, ?_, d2, d3, d4⟩
      rw [← d1]
      simp (disch := first | omega | simp only [qI2, hMR]) only [gX12_planned_32, li12, nI_ltI, ↓if_neg hc, ↓mH hS]
      rw [e1']
      show gX12_planned_32 S fu 306 (nI d + 1) M' = _
      rw [nI_1]
def qPl (a b : Nat) : Prop := a = 336 ∨ (a = 306 ∧ b = 32)
theorem m_p2 {S : List (Nat × Nat)} {R : Nat → Nat → Option Nat} {I : Nat → Nat → Int32} {E : zEn} {K : zKa} (hS : pMs S R) (hE : pME I E) (hmo : pMo I E (moN E)) (hK : pMk I 0 E K) (wE : wfE E) (hwt : ∀ w, w < 5 → kWt K w ≤ 9) : ∀ (k fu t : Nat) (M : zM), t + k = eT E → k < fu → M.2.2 = R → (∀ a b, ¬ qPl a b → M.1 a b = I a b) →
    ∃ M', gX12_planned_2 S fu 306 (nI t) M = gX12_planned_32 S zfu 306 0 M' ∧ M'.2.2 = R ∧ (∀ a b, ¬ qPl a b → M'.1 a b = I a b) ∧ (∀ j, j < t → M'.1 336 j = M.1 336 j) ∧ ∀ j, t ≤ j → j < eT E → M'.1 336 j = lenS E K (moN E) j := by
  have hT6 := wE.1
  have hP12 := wE.2.1
  intro k
  induction k with
  | zero =>
    intro fu t M hk hfu hMR hI
    obtain ⟨fu, rfl⟩ : ∃ f, fu = f + 1 := ⟨fu - 1, by omega⟩
    have hc : eT E ≤ t := by omega
    have hT : M.1 308 0 = nI (eT E) := (hI 308 0 (by unfold qPl; omega)).trans hE.1.1
    refine ⟨M, ?_, hMR, hI, fun _ _ => rfl, fun j h1 h2 => by omega⟩
    simp (disch := first | omega | simp only [qI2, hMR]) only [gX12_planned_2, ↓mH hS, ↓mL hS, hT, nI_leI, ↓if_pos hc]
  | succ k ih =>
    intro fu t M hk hfu hMR hI
    obtain ⟨fu, rfl⟩ : ∃ f, fu = f + 1 := ⟨fu - 1, by omega⟩
    have hc : ¬ eT E ≤ t := by omega
    have hT : M.1 308 0 = nI (eT E) := (hI 308 0 (by unfold qPl; omega)).trans hE.1.1
    obtain ⟨M1, a1, a2⟩ := e_lengthOf (S := S) (M := M) (E := E) (K := K) (mo := moN E) (s := 0) (t := t) (hMR ▸ hS) (pME_cg (fun a b k1 k2 => hI a b (by unfold qPl; omega)) hE) (pMo_cg (fun b k1 k2 => hI 306 b (by unfold qPl; omega)) hmo) (pMk_cg hP12 (fun a b q => hI a b (by unfold mS at q; unfold qPl; omega)) hK) wE (fun w hw => Nat.lt_of_le_of_lt (hwt w hw) (by decide)) (by decide) (by omega)
    have a1' : gX12_lengthOf S 306 0 (nI t) M = some (lenS E K (moN E) t, M1) := a1
    obtain ⟨M2, e1, e2, e3, e4, e5⟩ := ih fu (t + 1) (zsI M1 336 t (lenS E K (moN E) t)) (by omega) (by omega) (a2.1.trans hMR) (fun a b q => by
      unfold qPl at q
      rw [zsI_ne (by omega), a2.2 a b (by unfold mW0; omega)]
      exact hI a b (by unfold qPl; omega))
    refine ⟨M2, ?_, e2, e3, fun j hj => ?_, fun j h1 h2 => ?_⟩
    · rw [← e1]
      simp (disch := first | omega | simp only [qI2, hMR]) only [gX12_planned_2, ↓mH hS, ↓mL hS, hT, nI_leI, if_neg hc, ↓zb2_of a1']
      have mS1 : pMs S M1.2.2 := by rw [a2.1, hMR]; exact hS
      simp (disch := first | omega | simp only [qI2, qL2, qC2, qF2]) only [↓mG mS1, nI_1]
    · rw [e4 j (by omega), zsI_ne (by omega), a2.2 336 j (by unfold mW0; omega)]
    · by_cases q : j = t
      · subst q
        rw [e4 j (by omega), zsI_at]
      · exact e5 j (by omega) h2
