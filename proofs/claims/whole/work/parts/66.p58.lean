/-! pure part 58: best, the class's side -/
def hp1 (E : zEn) (K : zKa) (more w : Nat) : Bool := if eNd E w ≤ kWt K w then true else if eHi E w < eLo E w then false else decide (eNd E w ≤ kWt K w + more)
def hpS (E : zEn) (K : zKa) (more : Nat) : Nat := sR (fun w => b01 (hp1 E K more w)) (eW E) 0
theorem hp_0 {E : zEn} {K : zKa} : ∀ k i, sR (fun w => b01 (hp1 E K 0 w)) k i + lfN (kWt K) (eNd E) k i = k
  | 0, _ => rfl
  | k + 1, i => by
    have h := hp_0 (E := E) (K := K) k (i + 1)
    show b01 (hp1 E K 0 i) + sR (fun w => b01 (hp1 E K 0 w)) k (i + 1) + ((if kWt K i < eNd E i then 1 else 0) + lfN (kWt K) (eNd E) k (i + 1)) = k + 1
    have : b01 (hp1 E K 0 i) + (if kWt K i < eNd E i then 1 else 0) = 1 := by
      unfold hp1
      by_cases h1 : eNd E i ≤ kWt K i
      · rw [if_pos h1, if_neg (by omega)]; rfl
      · have h3 : kWt K i < eNd E i := by omega
        rw [if_neg h1, if_pos h3]
        by_cases h2 : eHi E i < eLo E i
        · rw [if_pos h2]; rfl
        · rw [if_neg h2, decide_eq_false (by omega)]; rfl
    omega
theorem hpS_0 {E : zEn} {K : zKa} : hpS E K 0 = dnS E K := by
  have := hp_0 (E := E) (K := K) (eW E) 0
  unfold hpS dnS left
  omega
theorem day_wt {E : zEn} {K : zKa} {t : Nat} : kWt (dayS E (moN E) (apK K t)) = wtS E K (lenS E (midK (some t, kNx K, kNu K, kMi K) (apK K t)) (moN E) t) := rfl
theorem wtS_b {E : zEn} {K : zKa} {len : Int32} (w : Nat) : kWt K w ≤ wtS E K len w ∧ wtS E K len w ≤ kWt K w + 1 ∧ (eHi E w < eLo E w → wtS E K len w = kWt K w) := by
  unfold wtS
  split
  · rename_i h
    refine ⟨by omega, by omega, fun h2 => ?_⟩
    exfalso
    obtain ⟨_, h3, h4, _⟩ := h
    rw [Int32.lt_iff_toInt_lt] at h2 h3 h4
    omega
  · exact ⟨Nat.le_refl _, Nat.le_succ _, fun _ => rfl⟩
theorem hpS_day {E : zEn} {K : zKa} {t m : Nat} : hpS E (dayS E (moN E) (apK K t)) m ≤ hpS E K (m + 1) := by
  refine sR_mono _ _ (fun w => ?_)
  obtain ⟨h1, h2, h3⟩ := wtS_b (E := E) (K := K) (len := lenS E (midK (some t, kNx K, kNu K, kMi K) (apK K t)) (moN E) t) w
  rw [← day_wt] at h1 h2 h3
  unfold hp1
  by_cases a : eNd E w ≤ kWt K w
  · rw [if_pos a, if_pos (by omega)]
    exact Nat.le_refl _
  · rw [if_neg a]
    by_cases c : eHi E w < eLo E w
    · rw [if_pos c, h3 c, if_neg a, if_pos c]
      exact Nat.le_refl _
    · rw [if_neg c, if_neg c]
      by_cases e : eNd E w ≤ kWt (dayS E (moN E) (apK K t)) w
      · rw [if_pos e, decide_eq_true (by omega)]
        exact Nat.le_refl _
      · rw [if_neg e]
        by_cases g : eNd E w ≤ kWt (dayS E (moN E) (apK K t)) w + m
        · rw [decide_eq_true g, decide_eq_true (by omega)]
          exact Nat.le_refl _
        · rw [decide_eq_false g]
          exact Nat.zero_le _
theorem btr_mono {x y : Nat} {b : zBe} (h : x ≤ y) (hb : btr y b = false) : btr x b = false := by
  cases b with
  | none => cases hb
  | some q =>
    have h1 : decide (q.1 < y) = false := hb
    show decide (q.1 < x) = false
    rw [decide_eq_false_iff_not] at h1 ⊢
    omega
theorem lay_prune {E : zEn} : ∀ (m : Nat) (K : zKa) (f : Nat → Nat) (d : Nat) (b : zBe), btr (hpS E K m) b = false → layS E m K f d b = b
  | 0, K, f, d, b, h => by
    rw [hpS_0] at h
    show (if btr (dnS E K) b then some (dnS E K, f) else b) = b
    rw [h]
    rfl
  | m + 1, K, f, d, b, h => by
    have loop : ∀ k t, layL (fun K' f' b' => layS E m K' f' (d + 1) b') E K f d k t b = b := by
      intro k
      induction k with
      | zero => intro t; rfl
      | succ k ih =>
        intro t
        show layL (fun K' f' b' => layS E m K' f' (d + 1) b') E K f d k (t + 1) (layS E m (dayS E (moN E) (apK K t)) (uqN f d t) (d + 1) b) = b
        rw [lay_prune m _ _ _ b (btr_mono hpS_day h)]
        exact ih (t + 1)
    exact loop (eT E) 0
theorem lay_some {E : zEn} (hT : 0 < eT E) : ∀ (m : Nat) (K : zKa) (f : Nat → Nat) (d : Nat) (b : zBe), ∃ q, layS E m K f d b = some q
  | 0, K, f, d, b => by
    show ∃ q, (if btr (dnS E K) b then some (dnS E K, f) else b) = some q
    cases b with
    | none => exact ⟨_, rfl⟩
    | some q =>
      by_cases h : btr (dnS E K) (some q) = true
      · rw [if_pos h]; exact ⟨_, rfl⟩
      · rw [if_neg h]; exact ⟨_, rfl⟩
  | m + 1, K, f, d, b => by
    have loop : ∀ k t b, 0 < k → ∃ q, layL (fun K' f' b' => layS E m K' f' (d + 1) b') E K f d k t b = some q := by
      intro k
      induction k with
      | zero => intro t b h; omega
      | succ k ih =>
        intro t b _
        show ∃ q, layL (fun K' f' b' => layS E m K' f' (d + 1) b') E K f d k (t + 1) (layS E m (dayS E (moN E) (apK K t)) (uqN f d t) (d + 1) b) = some q
        cases k with
        | zero => exact lay_some hT m _ _ _ _
        | succ k => exact ih (t + 1) _ (Nat.succ_pos k)
    exact loop (eT E) 0 b hT
theorem c_hopes5 {S : List (Nat × Nat)} {M : zM} {t p more : Nat} {E : zEn} {K : zKa} {le : Int32} (hS : zShp S) (hT : pTs S M.2.2 t) (hV : pTv M.1 t E) (hP : pSs S M.2.2 p) (hK : pSv M.1 p E K le) (wE : wfE E) (hwt : ∀ w, w < 5 → kWt K w ≤ 9) (h7 : M.2.2 192 7 = some t) (hm : more ≤ 6) : ∀ (k fu w c : Nat), w + k = eW E → k < fu →
    gX4_hopes_5 S fu 192 p (nI more) (nI c) (nI w) M = some (nI (c + sR (fun w => b01 (hp1 E K more w)) k w)) := by
  have hW5 := wE.2.2.2.1
  have F := tG hT
  have G := sG hP
  have g7 : ∀ (ρ : Type) (M' : zM) (f : Nat → Option ρ), M'.2.2 = M.2.2 → zgR S M' 192 4 9 7 f = f t := fun ρ M' f h => zgR_of ((hS 192 (by decide)).trans rfl) h7 M' f h
  have hW : M.1 t 10 = nI (eW E) := hV.1.2.2.2.1
  intro k
  induction k with
  | zero =>
    intro fu w c hk hfu
    obtain ⟨fu, rfl⟩ : ∃ f, fu = f + 1 := ⟨fu - 1, by omega⟩
    have hc : eW E ≤ w := by omega
    simp (disch := first | omega | simp only [qI2, qL2, qC2, qF2]) only [gX4_hopes_5, ↓g7, ↓F, hW, nI_leI, ↓if_pos hc]
    rfl
  | succ k ih =>
    intro fu w c hk hfu
    obtain ⟨fu, rfl⟩ : ∃ f, fu = f + 1 := ⟨fu - 1, by omega⟩
    have hc : ¬ eW E ≤ w := by omega
    have gwt : M.1 (p + 8) w = nI (kWt K w) := hK.2.2.2 w (by omega)
    have gnd := (hV.2.2.2.2.1 w (by omega)).2.2.2
    have glo := (hV.2.2.2.2.1 w (by omega)).2.1
    have ghi := (hV.2.2.2.2.1 w (by omega)).2.2.1
    have hnd := (wE.2.2.2.2.2.2.2.2.2.2.2.1 w (by omega)).2
    have hw9 := hwt w (by omega)
    have ti : (nI (eNd E w) - nI (kWt K w)).toInt = (eNd E w : Int) - kWt K w := pk_sub_toInt (by omega) (by omega)
    have i1 : nI (eNd E w) - nI (kWt K w) ≤ 0 ↔ eNd E w ≤ kWt K w := by
      rw [Int32.le_iff_toInt_le, ti, show (0 : Int32).toInt = 0 from by decide]
      omega
    have i2 : nI more < nI (eNd E w) - nI (kWt K w) ↔ ¬ eNd E w ≤ kWt K w + more := by
      rw [Int32.lt_iff_toInt_lt, ti, nI_toInt (by omega)]
      omega
    have z : nI c + (0 : Int32) = nI c := Int32.add_zero _
    have n10 : ¬ (1 : Int32) = 0 := by decide
    rw [show c + sR (fun w => b01 (hp1 E K more w)) (k + 1) w = c + b01 (hp1 E K more w) + sR (fun w => b01 (hp1 E K more w)) k (w + 1) from (Nat.add_assoc _ _ _).symm]
    rw [← ih fu (w + 1) (c + b01 (hp1 E K more w)) (by omega) (by omega)]
    by_cases a : eNd E w ≤ kWt K w
    · have a' := i1.2 a
      have e : b01 (hp1 E K more w) = 1 := by unfold hp1; rw [if_pos a]; rfl
      rw [e]
      by_cases q : eHi E w < eLo E w
      · simp (disch := first | omega | simp only [qI2, qL2, qC2, qF2]) only [gX4_hopes_5, ↓g7, ↓F, hW, nI_leI, if_neg hc, gnd, ↓G, gwt, glo, ghi, ↓if_pos q, gX4_hopes_79, ↓if_pos a', nI_1]
      · by_cases r : nI more < nI (eNd E w) - nI (kWt K w)
        · simp (disch := first | omega | simp only [qI2, qL2, qC2, qF2]) only [gX4_hopes_5, ↓g7, ↓F, hW, nI_leI, if_neg hc, gnd, ↓G, gwt, glo, ghi, ↓if_neg q, ↓if_pos r, gX4_hopes_79, ↓if_pos a', nI_1]
        · simp (disch := first | omega | simp only [qI2, qL2, qC2, qF2]) only [gX4_hopes_5, ↓g7, ↓F, hW, nI_leI, if_neg hc, gnd, ↓G, gwt, glo, ghi, ↓if_neg q, ↓if_neg r, gX4_hopes_79, ↓if_pos a', nI_1]
    · have a' : ¬ nI (eNd E w) - nI (kWt K w) ≤ 0 := fun h => a (i1.1 h)
      by_cases q : eHi E w < eLo E w
      · have e : b01 (hp1 E K more w) = 0 := by unfold hp1; rw [if_neg a, if_pos q]; rfl
        rw [e]
        simp (disch := first | omega | simp only [qI2, qL2, qC2, qF2]) only [gX4_hopes_5, ↓g7, ↓F, hW, nI_leI, if_neg hc, gnd, ↓G, gwt, glo, ghi, ↓if_pos q, gX4_hopes_79, ↓if_neg a', if_true, nI_1, z]
        rfl
      · by_cases r : eNd E w ≤ kWt K w + more
        · have r' : ¬ nI more < nI (eNd E w) - nI (kWt K w) := fun h => i2.1 h r
          have e : b01 (hp1 E K more w) = 1 := by unfold hp1; rw [if_neg a, if_neg q, decide_eq_true r]; rfl
          rw [e]
          simp (disch := first | omega | simp only [qI2, qL2, qC2, qF2]) only [gX4_hopes_5, ↓g7, ↓F, hW, nI_leI, if_neg hc, gnd, ↓G, gwt, glo, ghi, ↓if_neg q, ↓if_neg r', gX4_hopes_79, ↓if_neg a', ↓if_neg n10, nI_1]
        · have r' := i2.2 r
          have e : b01 (hp1 E K more w) = 0 := by unfold hp1; rw [if_neg a, if_neg q, decide_eq_false r]; rfl
          rw [e]
          simp (disch := first | omega | simp only [qI2, qL2, qC2, qF2]) only [gX4_hopes_5, ↓g7, ↓F, hW, nI_leI, if_neg hc, gnd, ↓G, gwt, glo, ghi, ↓if_neg q, ↓if_pos r', gX4_hopes_79, ↓if_neg a', if_true, nI_1, z]
          rfl
theorem st_ref {R : Nat → Nat → Option Nat} (hR : pRf R) {d : Nat} (hd : d ≤ 6) : R 201 d = some (243 + 9 * d) := by
  rcases (show d = 0 ∨ d = 1 ∨ d = 2 ∨ d = 3 ∨ d = 4 ∨ d = 5 ∨ d = 6 by omega) with rfl | rfl | rfl | rfl | rfl | rfl | rfl
  · exact pRg hR 201 0 243 (by decide)
  · exact pRg hR 201 1 252 (by decide)
  · exact pRg hR 201 2 261 (by decide)
  · exact pRg hR 201 3 270 (by decide)
  · exact pRg hR 201 4 279 (by decide)
  · exact pRg hR 201 5 288 (by decide)
  · exact pRg hR 201 6 297 (by decide)
theorem c_stB {S : List (Nat × Nat)} {M : zM} {d : Nat} (hS : zShp S) (hR : pRf M.2.2) (hd : d ≤ 7) : gX4_stateBehind S 192 (nI d) M = some (if d ≤ 6 then some (243 + 9 * d) else none) := by
  have D := cD hS hR
  have h201 : S[201]? = some (103, 7) := (hS 201 (by decide)).trans rfl
  have c0 : ¬ nI d < 0 := nI_pos (by omega)
  have al : ∀ (ρ : Type) (f : Int32 → Option ρ), zal S 103 201 f = f (nI 7) := fun ρ f => zal_ok h201
  by_cases h : d ≤ 6
  · have c1 : ¬ 7 ≤ d := by omega
    rw [if_pos h]
    simp (disch := first | omega | simp only [qI2, qL2, qC2, qF2]) only [gX4_stateBehind, ↓if_neg c0, ↓D, ↓al, nI_leI, ↓if_neg c1]
    unfold zaQ
    rw [zAn_ok h201, if_neg (nI_in (by omega) (by decide)), nI_clamp (by omega), st_ref hR h]
  · have c1 : 7 ≤ d := by omega
    rw [if_neg h]
    simp (disch := first | omega | simp only [qI2, qL2, qC2, qF2]) only [gX4_stateBehind, ↓if_neg c0, ↓D, ↓al, nI_leI, ↓if_pos c1]
def cSq (d a b : Nat) : Prop := (a = 200 ∧ d ≤ b) ∨ a = 198 ∨ (a = 192 ∧ b = 6) ∨ (252 + 9 * d ≤ a ∧ a ≤ 305)
def cBe (M : zM) (n : Nat) (b : zBe) : Prop := M.1 192 6 = bV b ∧ ∀ q, b = some q → q.1 ≤ 5 ∧ ∀ j, j < n → M.1 198 j = nI (q.2 j)
theorem c_seek {S : List (Nat × Nat)} {t : Nat} {E : zEn} {n : Nat} (hn : n ≤ 6) (ht : t = 43 ∨ t = 75) : ∀ (m fu d B : Nat) (K : zKa) (le : Int32) (f : Nat → Nat) (b : zBe) (M : zM), d + m = n → m < fu → cOk S M.2.2 M.1 t E (moN E) → M.2.2 192 7 = some t → M.1 192 5 = nI n → pSv M.1 (243 + 9 * d) E K le → wfK E K B → B + m < 2 ^ 30 → (∀ j, j < d → M.1 200 j = nI (f j)) → cBe M n b →
    ∃ M', gX4_seek S fu 192 (nI d) 134 M = some M' ∧ fr (cSq d) M M' ∧ cBe M' n (layS E m K f d b) := by
  intro m
  induction m with
  | zero =>
    intro fu d B K le f b M hd hfu hc h7 h5 hK wK hB hrow hb
    obtain ⟨fu, rfl⟩ : ∃ f, fu = f + 1 := ⟨fu - 1, by omega⟩
    have e : d = n := by omega
    subst e
    obtain ⟨⟨hS, hR, -, -, -⟩, hV, hC, wE, -⟩ := id hc
    have hW5 := wE.2.2.2.1
    have hT := pTs_of hS hR t (Or.inr ht)
    have D := cD hS hR
    have L := cL hS hR
    have F := tG hT
    have hP := pSs_of hS hR (243 + 9 * d) (by omega)
    have G := sG hP
    have g7 : ∀ (ρ : Type) (M' : zM) (f : Nat → Option ρ), M'.2.2 = M.2.2 → zgR S M' 192 4 9 7 f = f t := fun ρ M' f h => zgR_of ((hS 192 (by decide)).trans rfl) h7 M' f h
    have b1 := c_stB (S := S) (M := M) (d := d) hS hR (by omega)
    rw [if_pos (by omega)] at b1
    have b2 := c_stB (S := S) (M := M) (d := d + 1) hS hR (by omega)
    rw [← nI_1] at b2
    have ho : gX4_hopes S 192 (243 + 9 * d) (nI 0) M = some (nI (dnS E K)) := by
      have := c_hopes5 (S := S) (M := M) (t := t) (p := 243 + 9 * d) (more := 0) (E := E) (K := K) hS hT hV hP hK wE wK.2.2.1 h7 (by omega) (eW E) zfu 0 0 (by omega) (by unfold zfu; omega)
      rw [Nat.zero_add] at this
      rw [← hpS_0]
      exact this
    have sb : nI d - nI d = nI 0 := by rw [pk_sub (Nat.le_refl _), Nat.sub_self]
    have hdn : dnS E K ≤ 5 := by unfold dnS; omega
    have hlt := bV_lt (x := dnS E K) (b := b) (by omega) (fun q h => (hb.2 q h).1)
    rw [← hb.1] at hlt
    have v9 : M.1 t 10 = nI (eW E) := hV.1.2.2.2.1
    have v10 : M.1 (243 + 9 * d) 5 = nI (left E K) := hK.1.2.2.2.2.2.1
    have le : left E K ≤ eW E := lfN_le _ _ _ _
    have dv : nI (eW E) - nI (left E K) = nI (dnS E K) := pk_sub le
    show ∃ M', gX4_seekB S (gX4_seek S fu) 192 (nI d) 134 M = some M' ∧ fr (cSq d) M M' ∧ cBe M' d (if btr (dnS E K) b then some (dnS E K, f) else b)
    cases o : btr (dnS E K) b with
    | true =>
      have h1 := hlt.2 o
      have cp : ∀ (f : zM → Option zM), (gX5_copy S 197 199 (zsI M 192 6 (nI (dnS E K)))).bind f = f (zcpM (zsI M 192 6 (nI (dnS E K))) 200 198 0 0 6) := fun f => copyB (row_of hS hR 197 6 (by decide)) (row_of hS hR 199 6 (by decide)) (zsI M 192 6 (nI (dnS E K))) f rfl
      refine ⟨zcpM (zsI M 192 6 (nI (dnS E K))) 200 198 0 0 6, ?_, ⟨rfl, fun a b q => ?_⟩, ?_, ?_⟩
      · simp (disch := first | omega | simp only [qI2, qL2, qC2, qF2]) only [gX4_seekB, ↓D, ↓bind_of b1, ↓bind_of b2, zcs, h5, sb, ↓bind_of ho, if_pos h1, if_true, ↓g7, ↓F, ↓G, v9, v10, dv, ↓L, ↓cp]
      · unfold cSq at q
        rw [zcpM_ne (by omega), zsI_ne (by omega)]
      · rw [zcpM_ne (by omega), zsI_at]
        rfl
      · intro q hq
        cases hq
        refine ⟨hdn, fun j hj => ?_⟩
        rw [zcpM_at (by omega), zsI_ne (by omega)]
        exact hrow j hj
    | false =>
      have h1 : ¬ M.1 192 6 < nI (dnS E K) := fun h => by rw [hlt.1 h] at o; cases o
      refine ⟨M, ?_, fr.refl, hb⟩
      simp (disch := first | omega | simp only [qI2, qL2, qC2, qF2]) only [gX4_seekB, ↓D, ↓bind_of b1, ↓bind_of b2, zcs, h5, sb, ↓bind_of ho, if_neg h1]
  | succ m ih =>
    intro fu d B K le f b M hd hfu hc h7 h5 hK wK hB hrow hb
    obtain ⟨fu, rfl⟩ : ∃ f, fu = f + 1 := ⟨fu - 1, by omega⟩
    obtain ⟨⟨hS, hR, -, h0, h03⟩, hV, hC, wE, hmok⟩ := id hc
    have hT6 := wE.1
    have hP12 := wE.2.1
    have hW5 := wE.2.2.2.1
    have hne : ¬ d = n := by omega
    have hT := pTs_of hS hR t (Or.inr ht)
    have D := cD hS hR
    have L := cL hS hR
    have F := tG hT
    have hP := pSs_of hS hR (243 + 9 * d) (by omega)
    have hP2 := pSs_of hS hR (243 + 9 * (d + 1)) (by omega)
    have G := sG hP
    have G2 := sG hP2
    have g7 : ∀ (ρ : Type) (M' : zM) (f : Nat → Option ρ), M'.2.2 = M.2.2 → zgR S M' 192 4 9 7 f = f t := fun ρ M' f h => zgR_of ((hS 192 (by decide)).trans rfl) h7 M' f h
    have b1 := c_stB (S := S) (M := M) (d := d) hS hR (by omega)
    rw [if_pos (by omega)] at b1
    have b2 := c_stB (S := S) (M := M) (d := d + 1) hS hR (by omega)
    rw [if_pos (by omega), ← nI_1] at b2
    have ho : gX4_hopes S 192 (243 + 9 * d) (nI (n - d)) M = some (nI (hpS E K (n - d))) := by
      have := c_hopes5 (S := S) (M := M) (t := t) (p := 243 + 9 * d) (more := n - d) (E := E) (K := K) hS hT hV hP hK wE wK.2.2.1 h7 (by omega) (eW E) zfu 0 0 (by omega) (by unfold zfu; omega)
      rw [Nat.zero_add] at this
      exact this
    have sb : nI n - nI d = nI (n - d) := pk_sub (by omega)
    have hh5 : hpS E K (n - d) ≤ eW E := sR_b01 _ _ _
    have hlt := bV_lt (x := hpS E K (n - d)) (b := b) (by omega) (fun q h => (hb.2 q h).1)
    rw [← hb.1] at hlt
    have emd : n - d = m + 1 := by omega
    show ∃ M', gX4_seekB S (gX4_seek S fu) 192 (nI d) 134 M = some M' ∧ _
    by_cases o : btr (hpS E K (n - d)) b = true
    rotate_left
    · have o' : btr (hpS E K (m + 1)) b = false := by
        rw [← emd]
        cases q : btr (hpS E K (n - d)) b with
        | true => exact absurd q o
        | false => rfl
      have h1 : ¬ M.1 192 6 < nI (hpS E K (n - d)) := fun h => o (hlt.1 h)
      rw [lay_prune (m + 1) K f d b o']
      refine ⟨M, ?_, fr.refl, hb⟩
      simp (disch := first | omega | simp only [qI2, qL2, qC2, qF2]) only [gX4_seekB, ↓D, ↓bind_of b1, ↓bind_of b2, zcs, h5, sb, ↓bind_of ho, if_neg h1]
    · have h1 := hlt.2 o
      have loop : ∀ (k fu2 tr : Nat) (b : zBe) (M1 : zM), fr (cSq d) M M1 → cBe M1 n b → tr + k = eT E → k < fu2 → ∃ M', gX4_seek_77 S (gX4_seek S fu) fu2 192 (nI d) 134 (243 + 9 * d) (some (243 + 9 * (d + 1))) (nI tr) M1 = some M' ∧ fr (cSq d) M M' ∧ cBe M' n (layL (fun K' f' b' => layS E m K' f' (d + 1) b') E K f d k tr b) := by
        intro k
        induction k with
        | zero =>
          intro fu2 tr b M1 hf hb hk hfu2
          obtain ⟨fu2, rfl⟩ : ∃ f, fu2 = f + 1 := ⟨fu2 - 1, by omega⟩
          have hcc : eT E ≤ tr := by omega
          have g1 : M1.1 t 1 = nI (eT E) := (hf.2 t 1 (by unfold cSq; omega)).trans hV.1.1
          have r1 : M1.2.2 = M.2.2 := hf.1
          refine ⟨M1, ?_, hf, hb⟩
          simp (disch := first | omega | simp only [qI2, r1]) only [gX4_seek_77, ↓g7, ↓F, g1, nI_leI, ↓if_pos hcc]
        | succ k ihk =>
          intro fu2 tr b M1 hf hb hk hfu2
          obtain ⟨fu2, rfl⟩ : ∃ f, fu2 = f + 1 := ⟨fu2 - 1, by omega⟩
          have hcc : ¬ eT E ≤ tr := by omega
          have g1 : M1.1 t 1 = nI (eT E) := (hf.2 t 1 (by unfold cSq; omega)).trans hV.1.1
          have r1 : M1.2.2 = M.2.2 := hf.1
          have hK1 : pSv (zsI M1 200 d (nI tr)).1 (243 + 9 * d) E K le := pSv_cg (fun a b k1 k2 => by rw [zsI_ne (by omega)]; exact hf.2 a b (by unfold cSq; omega)) hK
          obtain ⟨M6, a1, a2, a3, a4⟩ := c_copy (S := S) (M := zsI M1 200 d (nI tr)) (p := 243 + 9 * (d + 1)) (p' := 243 + 9 * d) (by rw [qI2, r1]; exact hP2) (by rw [qI2, r1]; exact hP) (by omega) hP12 hK1
          have r6 : M6.2.2 = M.2.2 := by rw [a2, zsI_r, r1]
          have hK7 : pSv (zsI M6 (243 + 9 * (d + 1)) 3 (nI tr)).1 (243 + 9 * (d + 1)) E (apK K tr) le := by
            obtain ⟨⟨v0, v1, v2, v3, v4, v5, v6, v7, v8, v9, v10⟩, vl, vk, vw⟩ := a3
            exact ⟨⟨by rw [zsI_ne (by omega)]; exact v0, by rw [zsI_ne (by omega)]; exact v1, by rw [zsI_ne (by omega)]; exact v2, zsI_at _ _ _ _, by rw [zsI_ne (by omega)]; exact v4, by rw [zsI_ne (by omega)]; exact v5, by rw [zsI_ne (by omega)]; exact v6, by rw [zsI_ne (by omega)]; exact v7, by rw [zsI_ne (by omega)]; exact v8, by rw [zsI_ne (by omega)]; exact v9, by rw [zsI_ne (by omega)]; exact v10⟩, fun i hi => by rw [zsI_ne (by omega)]; exact vl i hi, fun i hi => ⟨by rw [zsI_ne (by omega)]; exact (vk i hi).1, by rw [zsI_ne (by omega)]; exact (vk i hi).2⟩, fun i hi => by rw [zsI_ne (by omega)]; exact vw i hi⟩
          have off7 : ∀ a b, ¬ cSq d a b → (zsI M6 (243 + 9 * (d + 1)) 3 (nI tr)).1 a b = M.1 a b := fun a b q => by
            unfold cSq at q
            rw [zsI_ne (by omega), a4 a b (by omega), zsI_ne (by omega)]
            exact hf.2 a b (by unfold cSq; omega)
          have hc7 : cOk S (zsI M6 (243 + 9 * (d + 1)) 3 (nI tr)).2.2 (zsI M6 (243 + 9 * (d + 1)) 3 (nI tr)).1 t E (moN E) := by
            rw [show (zsI M6 (243 + 9 * (d + 1)) 3 (nI tr)).2.2 = M.2.2 from r6]
            exact cOk_cg (fun a b q => off7 a b (by unfold cSq; omega)) hc
          obtain ⟨M8, e1, e2, e3, e4, e5, e6⟩ := c_day (B := B) hc7 (by omega) hK7 (wfK_apK wK (by omega)) (by omega)
          have off8 : ∀ a b, ¬ ((a = 200 ∧ b = d) ∨ (243 + 9 * (d + 1) ≤ a ∧ a ≤ 243 + 9 * (d + 1) + 8)) → M8.1 a b = M1.1 a b := fun a b q => by
            rw [e5 a b (fun h => q (Or.inr h)), zsI_ne (by omega), a4 a b (fun h => q (Or.inr h)), zsI_ne (by omega)]
          have hb8 : cBe M8 n b := ⟨(off8 192 6 (by omega)).trans hb.1, fun q hq => ⟨(hb.2 q hq).1, fun j hj => (off8 198 j (by omega)).trans ((hb.2 q hq).2 j hj)⟩⟩
          have hrow8 : ∀ j, j < d + 1 → M8.1 200 j = nI (uqN f d tr j) := fun j hj => by
            by_cases e : j = d
            · subst e
              rw [e5 200 j (by omega), zsI_ne (by omega), a4 200 j (by omega), zsI_at]
              unfold uqN
              rw [if_pos rfl]
            · rw [off8 200 j (by omega), hf.2 200 j (by unfold cSq; omega), hrow j (by omega)]
              unfold uqN
              rw [if_neg e]
          have r8 : M8.2.2 = M.2.2 := e4.trans r6
          have h58 : M8.1 192 5 = nI n := (off8 192 5 (by omega)).trans ((hf.2 192 5 (by unfold cSq; omega)).trans h5)
          obtain ⟨M9, c1, c2, c3⟩ := ih fu (d + 1) (B + 1) (dayS E (moN E) (apK K tr)) _ (uqN f d tr) b M8 (by omega) (by omega) e6 (by rw [r8]; exact h7) h58 e2 e3 (by omega) hrow8 hb8
          have hf9 : fr (cSq d) M M9 := by
            refine ⟨c2.1.trans r8, fun a b q => ?_⟩
            rw [c2.2 a b (by unfold cSq at q ⊢; omega), off8 a b (by unfold cSq at q; omega)]
            exact hf.2 a b q
          obtain ⟨M', d1, d2, d3⟩ := ihk fu2 (tr + 1) _ M9 hf9 c3 (by omega) (by omega)
          refine ⟨M', ?_, d2, d3⟩
          rw [← d1]
          have c1' : gX4_seek S fu 192 (nI d + 1) 134 M8 = some M9 := by rw [nI_1]; exact c1
          have D6 := cD hS (show pRf M6.2.2 by rw [r6]; exact hR)
          simp (disch := first | omega | simp only [qI2, r1]) only [gX4_seek_77, ↓g7, ↓F, g1, nI_leI, if_neg hcc, zcs, ↓D, ↓L, ↓G2, ↓bind_of a1, ↓bind_of e1, ↓bind_of c1', nI_1]
      obtain ⟨M', e1, e2, e3⟩ := loop (eT E) zfu 0 b M fr.refl hb (by omega) (by unfold zfu; omega)
      refine ⟨M', ?_, e2, e3⟩
      rw [← e1]
      have hne' : ¬ nI d = nI n := fun h => hne ((nI_eq (by omega) (by omega)).1 h)
      simp (disch := first | omega | simp only [qI2, qL2, qC2, qF2]) only [gX4_seekB, ↓D, ↓bind_of b1, ↓bind_of b2, zcs, h5, sb, ↓bind_of ho, if_pos h1, if_neg hne']
      rfl
