/-! pure part 41: sure -/
theorem lN_int {n : Nat} (h : n < 2 ^ 63) : (lN n).toInt = (n : Int) := Int64.toInt_ofNat_of_lt h
theorem lN_inj {a b : Nat} (ha : a < 2 ^ 63) (hb : b < 2 ^ 63) : lN a = lN b ↔ a = b := by
  constructor
  · intro h
    have := congrArg Int64.toInt h
    rw [lN_int ha, lN_int hb] at this
    omega
  · rintro rfl; rfl
theorem lN_div {a d : Nat} (ha : a < 2 ^ 63) (h0 : 0 < d) (hd : d < 2 ^ 63) : lN a / lN d = lN (a / d) := by
  apply Int64.toInt_inj.mp
  rw [lg_ldiv_nonneg (by rw [lN_int ha]; omega) (by rw [lN_int hd]; omega), lN_int ha, lN_int hd, lN_int (Nat.lt_of_le_of_lt (Nat.div_le_self a d) ha)]
  first | rfl | exact (Int.natCast_ediv _ _).symm
theorem lN_rem {a d : Nat} (ha : a < 2 ^ 63) (h0 : 0 < d) (hd : d < 2 ^ 63) : lN a - lN a / lN d * lN d = lN (a % d) := by
  rw [lN_div ha h0 hd, lN_mul, lN_sub (Nat.div_mul_le_self a d)]
  exact congrArg lN (by have := Nat.div_add_mod' a d; omega)
def rd : Nat → Nat → Nat → Nat × Nat
  | 0, a, b => (a, b)
  | k + 1, a, b => if a % (k + 2) = 0 then (if b % (k + 2) = 0 then rd k (a / (k + 2)) (b / (k + 2)) else rd k a b) else rd k a b
theorem c_su87 {S : List (Nat × Nat)} {M : zM} {n w u v : Nat} (hn : n < 2 ^ 30) (hu : u < 2 ^ 31) (hv : v < 2 ^ 31) (hw : w ≤ 1) : ∀ (k fu i p : Nat), i + k = n → k < fu → gX11_sure_87 S fu (nI n) (nI w) (nI u) (nI v) (lN p) (nI i) M = some (lN (p * (if w = 0 then u else v) ^ k)) := by
  intro k
  induction k with
  | zero =>
    intro fu i p hk hf
    obtain ⟨fu, rfl⟩ : ∃ f, fu = f + 1 := ⟨fu - 1, by omega⟩
    have hb : n ≤ i := by omega
    simp (disch := first | omega | simp only [qI2, qL2, qC2, qF2]) only [gX11_sure_87, nI_leI, ↓if_pos hb]
    rw [Nat.pow_zero, Nat.mul_one]
  | succ k ih =>
    intro fu i p hk hf
    obtain ⟨fu, rfl⟩ : ∃ f, fu = f + 1 := ⟨fu - 1, by omega⟩
    have hb : ¬ n ≤ i := by omega
    have n10 : ¬ nI 1 = 0 := by decide
    have n00 : nI 0 = 0 := rfl
    rcases (show w = 0 ∨ w = 1 by omega) with rfl | rfl
    · simp (disch := first | omega | simp only [qI2, qL2, qC2, qF2]) only [gX11_sure_87, nI_leI, if_neg hb, ↓if_pos n00, nI_l hu, lN_mul, nI_1]
      rw [ih fu (i + 1) (p * u) (by omega) (by omega), if_pos rfl, Nat.pow_succ, Nat.mul_assoc, Nat.mul_comm u]
      rfl
    · simp (disch := first | omega | simp only [qI2, qL2, qC2, qF2]) only [gX11_sure_87, nI_leI, if_neg hb, ↓if_neg n10, nI_l hv, lN_mul, nI_1]
      rw [ih fu (i + 1) (p * v) (by omega) (by omega), if_neg (by decide), Nat.pow_succ, Nat.mul_assoc, Nat.mul_comm v]
theorem c_su42 {S : List (Nat × Nat)} {M : zM} {n w : Nat} (hn : n < 1000) (hw : w ≤ 1) : ∀ (k fu u v : Nat), k < fu → k ≤ 200 → u < 2 ^ 31 → v < 2 ^ 31 → gX11_sure_42 S fu (nI n) (nI w) (nI u) (nI v) (nI (k + 1)) M = some (lN ((if w = 0 then (rd k u v).1 else (rd k u v).2) ^ n)) := by
  intro k
  induction k with
  | zero =>
    intro fu u v hf h2 hu hv
    obtain ⟨fu, rfl⟩ : ∃ f, fu = f + 1 := ⟨fu - 1, by omega⟩
    have h1 : nI (0 + 1) ≤ (1 : Int32) := by decide
    have r : gX11_sure_87 S zfu (nI n) (nI w) (nI u) (nI v) 1 0 M = _ := c_su87 (S := S) (M := M) (show n < 2 ^ 30 by omega) hu hv hw n zfu 0 1 (by omega) (by unfold zfu; omega)
    simp only [gX11_sure_42, ↓if_pos h1, r, Nat.one_mul]
    rfl
  | succ k ih =>
    intro fu u v hf h2 hu hv
    obtain ⟨fu, rfl⟩ : ∃ f, fu = f + 1 := ⟨fu - 1, by omega⟩
    have h1 : ¬ nI (k + 1 + 1) ≤ (1 : Int32) := nI_ge (a := 1) (by omega) (by omega)
    have h0 : ¬ nI (k + 1 + 1) = 0 := nI_ne0 (by omega) (by omega)
    have hm : nI (k + 1 + 1) + (-1) = nI (k + 1) := pk_m1 (k + 1)
    have e1 := pk_rem (a := u) (d := k + 1 + 1) hu (by omega) (by omega)
    have e2 := pk_rem (a := v) (d := k + 1 + 1) hv (by omega) (by omega)
    have e3 := pk_div (a := u) (d := k + 1 + 1) hu (by omega) (by omega)
    have e4 := pk_div (a := v) (d := k + 1 + 1) hv (by omega) (by omega)
    have z1 : nI (u % (k + 1 + 1)) = 0 ↔ u % (k + 1 + 1) = 0 := nI_0e (Nat.lt_of_le_of_lt (Nat.mod_le _ _) hu)
    have z2 : nI (v % (k + 1 + 1)) = 0 ↔ v % (k + 1 + 1) = 0 := nI_0e (Nat.lt_of_le_of_lt (Nat.mod_le _ _) hv)
    have step : gX11_sure_42 S (fu + 1) (nI n) (nI w) (nI u) (nI v) (nI (k + 1 + 1)) M = (if u % (k + 1 + 1) = 0 then (if v % (k + 1 + 1) = 0 then gX11_sure_42 S fu (nI n) (nI w) (nI (u / (k + 1 + 1))) (nI (v / (k + 1 + 1))) (nI (k + 1)) M else gX11_sure_42 S fu (nI n) (nI w) (nI u) (nI v) (nI (k + 1)) M) else gX11_sure_42 S fu (nI n) (nI w) (nI u) (nI v) (nI (k + 1)) M) := by
      simp only [gX11_sure_42, ↓if_neg h1, ↓if_neg h0, e1, e2, z1, z2]
      simp only [e3, e4, hm]
    rw [step]
    show _ = some (lN ((if w = 0 then (if u % (k + 2) = 0 then (if v % (k + 2) = 0 then rd k (u / (k + 2)) (v / (k + 2)) else rd k u v) else rd k u v).1 else (if u % (k + 2) = 0 then (if v % (k + 2) = 0 then rd k (u / (k + 2)) (v / (k + 2)) else rd k u v) else rd k u v).2) ^ n))
    by_cases q1 : u % (k + 1 + 1) = 0
    · rw [if_pos q1, if_pos q1]
      by_cases q2 : v % (k + 1 + 1) = 0
      · rw [if_pos q2, if_pos q2]
        exact ih fu _ _ (by omega) (by omega) (Nat.lt_of_le_of_lt (Nat.div_le_self _ _) hu) (Nat.lt_of_le_of_lt (Nat.div_le_self _ _) hv)
      · rw [if_neg q2, if_neg q2]
        exact ih fu _ _ (by omega) (by omega) hu hv
    · rw [if_neg q1, if_neg q1]
      exact ih fu _ _ (by omega) (by omega) hu hv
/-- by the remainders, at most so many of them -/
def eu : Nat → Nat → Nat → Option Nat
  | 0, _, _ => none
  | k + 1, a, b => if b = 0 then some a else eu k b (a % b)
theorem m_su77 {S : List (Nat × Nat)} {M : zM} {w A B g : Nat} (hw : w ≤ 1) (hg : 0 < g) (hA : A < 2 ^ 63) (hB : B < 2 ^ 63) : ∀ (k fu a b : Nat), a < 2 ^ 63 → b < 2 ^ 63 → k ≤ fu → eu k a b = some g → g < 2 ^ 63 → gX12_sure_77 S fu (nI w) (lN A) (lN B) (lN a) (lN b) M = some (lN ((if w = 0 then A else B) / g), M) := by
  intro k
  induction k with
  | zero => intro fu a b ha hb hf h; cases h
  | succ k ih =>
    intro fu a b ha hb hf h hg2
    obtain ⟨fu, rfl⟩ : ∃ f, fu = f + 1 := ⟨fu - 1, by omega⟩
    have z : lN b = 0 ↔ b = 0 := lN_inj hb (b := 0) (by decide)
    unfold eu at h
    by_cases q : b = 0
    · rw [if_pos q] at h
      cases h
      have z1 : lg_cmp (lN b) 0 = 0 := cmp0.mpr (z.mpr q)
      have z2 : ¬ lN g = 0 := fun e => by have := (lN_inj ha (b := 0) (by decide)).mp e; omega
      have n10 : ¬ nI 1 = 0 := by decide
      have n00 : nI 0 = 0 := rfl
      rcases (show w = 0 ∨ w = 1 by omega) with rfl | rfl
      · simp only [gX12_sure_77, ↓if_pos z1, ↓if_pos n00, ↓if_neg z2, lN_div hA hg ha]
        rfl
      · simp only [gX12_sure_77, ↓if_pos z1, ↓if_neg n10, ↓if_neg z2, lN_div hB hg ha]
        rfl
    · rw [if_neg q] at h
      have z1 : ¬ lg_cmp (lN b) 0 = 0 := fun e => q (z.mp (cmp0.mp e))
      have z2 : ¬ lN b = 0 := fun e => q (z.mp e)
      simp only [gX12_sure_77, ↓if_neg z1, ↓if_neg z2, lN_rem ha (Nat.pos_of_ne_zero q) hb]
      exact ih fu b (a % b) hb (Nat.lt_of_le_of_lt (Nat.mod_le _ _) ha) (by omega) h hg2
theorem m_su36 {S : List (Nat × Nat)} {M : zM} {n w s : Nat} (hS : pMs S M.2.2) (hn : n < 2 ^ 30) (hs : s ≤ 100) (h4 : M.1 308 4 = nI s) : ∀ (k fu i A B : Nat), i + k = n → k < fu → gX12_sure_36 S fu 306 (nI n) (nI w) (lN A) (lN B) (nI i) M = gX12_sure_77 S zfu (nI w) (lN (A * (100 - s) ^ k)) (lN (B * 100 ^ k)) (lN (A * (100 - s) ^ k)) (lN (B * 100 ^ k)) M := by
  intro k
  induction k with
  | zero =>
    intro fu i A B hk hf
    obtain ⟨fu, rfl⟩ : ∃ f, fu = f + 1 := ⟨fu - 1, by omega⟩
    have hb : n ≤ i := by omega
    simp (disch := first | omega | simp only [qI2, qL2, qC2, qF2]) only [gX12_sure_36, nI_leI, ↓if_pos hb, Nat.pow_zero, Nat.mul_one]
  | succ k ih =>
    intro fu i A B hk hf
    obtain ⟨fu, rfl⟩ : ∃ f, fu = f + 1 := ⟨fu - 1, by omega⟩
    have hb : ¬ n ≤ i := by omega
    have e1 : (100 : Int64) - (nI s).toInt64 = lN (100 - s) := by rw [nI_l (by omega)]; exact lN_sub hs
    have e2 : ∀ B, lN B * (100 : Int64) = lN (B * 100) := fun B => lN_mul B 100
    simp (disch := first | omega | simp only [qI2, qL2, qC2, qF2]) only [gX12_sure_36, nI_leI, if_neg hb, ↓mH hS, ↓mL hS, h4, e1, e2, lN_mul, nI_1]
    rw [ih fu (i + 1) (A * (100 - s)) (B * 100) (by omega) (by omega), Nat.pow_succ, Nat.pow_succ, Nat.mul_assoc, Nat.mul_comm (100 - s), Nat.mul_assoc, Nat.mul_comm 100 (100 ^ k)]
def suOk (s n : Nat) : Bool := match eu 60 ((100 - s) ^ n) (100 ^ n) with
  | none => false
  | some g => decide (0 < g) && decide (g < 2 ^ 63) && decide ((100 - s) ^ n / g = (rd 99 (100 - s) 100).1 ^ n) && decide (100 ^ n / g = (rd 99 (100 - s) 100).2 ^ n) && decide ((100 - s) ^ n < 2 ^ 63) && decide (100 ^ n < 2 ^ 63)
theorem su_ok : ∀ s, s < 101 → ∀ n, n < 7 → suOk s n = true := by decide +kernel
theorem P_sure : zP_sure zInv := by
  intro S M hM a1 a2
  refine zp (f := gX11_sure S 0 a1 a2) (g := gX12_sure S 306 a1 a2) ?_ M hM
  intro A M hw hc
  obtain ⟨t, E, K, le, im, st, no, tp, fl⟩ := A
  have hc2 : cIx S M t E K le im st no tp fl := hc
  have hw2 : aWx E K im st no tp fl := hw
  obtain ⟨⟨hS, hR, ht, h03, h04⟩, hV, hK, him, hst, hno, htp, hfl⟩ := hc2
  obtain ⟨wE, wK, wim, wst, wno, wtp, wfl⟩ := hw2
  have hT6 := wE.1
  have hP12 := wE.2.1
  have hW5 := wE.2.2.2.1
  have T0 := pTs_of hS hR t (Or.inr ht)
  have N0 := pSs_of hS hR 107 (by decide)
  have gT : ∀ (ρ : Type) (M' : zM) (f : Nat → Option ρ), M'.2.2 = M.2.2 → zgR S M' 0 11 14 3 f = f t := fun ρ M' f h => zgR_of ((hS 0 (by decide)).trans rfl) h03 M' f h
  by_cases c0 : a1 < 0
  · refine ⟨-1, ?_, ?_⟩
    · simp only [gX11_sure, ↓if_pos c0]
    · skip
      intro M' hm
      have hm2 : mIx S M' E K im st no tp fl := hm
      obtain ⟨mS', mE, mK, mim, mst, mno, mtp, mfl, mmd⟩ := id hm2
      refine ⟨_, ?_, th0 M' 0⟩
      simp (disch := first | omega | simp only [qI2, qL2, qC2, qF2]) only [gX12_sure, ↓mH mS', ↓if_pos c0]
  by_cases c1 : (6 : Int32) < a1
  · refine ⟨-1, ?_, ?_⟩
    · simp only [gX11_sure, ↓if_neg c0, ↓if_pos c1]
    · skip
      intro M' hm
      have hm2 : mIx S M' E K im st no tp fl := hm
      obtain ⟨mS', mE, mK, mim, mst, mno, mtp, mfl, mmd⟩ := id hm2
      refine ⟨_, ?_, th0 M' 0⟩
      simp (disch := first | omega | simp only [qI2, qL2, qC2, qF2]) only [gX12_sure, ↓mH mS', ↓if_neg c0, ↓if_pos c1]
  by_cases c2 : a2 < 0
  · refine ⟨-1, ?_, ?_⟩
    · simp only [gX11_sure, ↓if_neg c0, ↓if_neg c1, ↓if_pos c2]
    · skip
      intro M' hm
      have hm2 : mIx S M' E K im st no tp fl := hm
      obtain ⟨mS', mE, mK, mim, mst, mno, mtp, mfl, mmd⟩ := id hm2
      refine ⟨_, ?_, th0 M' 0⟩
      simp (disch := first | omega | simp only [qI2, qL2, qC2, qF2]) only [gX12_sure, ↓mH mS', ↓if_neg c0, ↓if_neg c1, ↓if_pos c2]
  by_cases c3 : a2 ≤ (1 : Int32)
  · obtain ⟨n, hn, rfl⟩ := nI_of2 (x := a1) (M := 6) (n := 6) (by decide) c0 (Int32.not_lt.mp c1)
    obtain ⟨w, hw, rfl⟩ := nI_of2 (x := a2) (M := 1) (n := 1) (by decide) c2 c3
    have hs := wE.2.2.2.2.1
    have v15 := hV.1.2.2.2.2.1
    have hgi : ∀ (j : Nat) (f : Int32 → Option Int64), zgI S M t 10 18 j f = f (M.1 t j) := fun j f => zgI_ok T0.1
    have e1 : (100 : Int32) - nI (eS E) = nI (100 - eS E) := pk_sub (a := 100) hs
    have ok := su_ok (eS E) (by omega) n (by omega)
    unfold suOk at ok
    have r : gX11_sure_42 S zfu (nI n) (nI w) (nI (100 - eS E)) 100 100 M = _ := c_su42 (S := S) (M := M) (n := n) (w := w) (by omega) hw 99 zfu (100 - eS E) 100 (by unfold zfu; omega) (by decide) (by omega) (by decide)
    refine ⟨lN ((if w = 0 then (rd 99 (100 - eS E) 100).1 else (rd 99 (100 - eS E) 100).2) ^ n), ?_, ?_⟩
    · simp (disch := first | omega | simp only [qI2, qL2, qC2, qF2]) only [gX11_sure, ↓if_neg c0, ↓if_neg c1, ↓if_neg c2, ↓if_pos c3, ↓gT, ↓hgi, v15, e1, r]
    · skip
      intro M' hm
      have hm2 : mIx S M' E K im st no tp fl := hm
      obtain ⟨mS', mE, mK, mim, mst, mno, mtp, mfl, mmd⟩ := id hm2
      refine ⟨_, ?_, th0 M' 0⟩
      cases hg : eu 60 ((100 - eS E) ^ n) (100 ^ n) with
      | none => rw [hg] at ok; cases ok
      | some g =>
        rw [hg] at ok
        simp only [Bool.and_eq_true, decide_eq_true_eq] at ok
        obtain ⟨⟨⟨⟨⟨g1, g2⟩, g3⟩, g4⟩, g5⟩, g6⟩ := ok
        have r2 : gX12_sure_36 S zfu 306 (nI n) (nI w) 1 1 0 (zsI M' 306 0 0) = _ := m_su36 (M := zsI M' 306 0 0) (n := n) (w := w) (s := eS E) mS' (by omega) hs ((zsI_ne (by omega)).trans mE.1.2.2.2.2.1) n zfu 0 1 1 (by omega) (by unfold zfu; omega)
        rw [Nat.one_mul, Nat.one_mul] at r2
        have r3 := m_su77 (S := S) (M := zsI M' 306 0 0) (w := w) hw g1 g5 g6 60 zfu _ _ g5 g6 (by unfold zfu; omega) hg g2
        simp (disch := first | omega | simp only [qI2, qL2, qC2, qF2]) only [gX12_sure, ↓mH mS', ↓if_neg c0, ↓if_neg c1, ↓if_neg c2, ↓if_pos c3, r2, r3]
        congr 3
        by_cases q : w = 0
        · rw [if_pos q, if_pos q]; exact g3
        · rw [if_neg q, if_neg q]; exact g4
  · refine ⟨-1, ?_, ?_⟩
    · simp only [gX11_sure, ↓if_neg c0, ↓if_neg c1, ↓if_neg c2, ↓if_neg c3]
    · skip
      intro M' hm
      have hm2 : mIx S M' E K im st no tp fl := hm
      obtain ⟨mS', mE, mK, mim, mst, mno, mtp, mfl, mmd⟩ := id hm2
      refine ⟨_, ?_, th0 M' 0⟩
      simp (disch := first | omega | simp only [qI2, qL2, qC2, qF2]) only [gX12_sure, ↓mH mS', ↓if_neg c0, ↓if_neg c1, ↓if_neg c2, ↓if_neg c3]
