/-! pure part 6: a day of the class -/
def wtS (E : zEn) (K : zKa) (len : Int32) : Nat → Nat := fun w => if w < eW E ∧ ¬ len < eLo E w ∧ ¬ eHi E w < len ∧ kWt K w < eNd E w then kWt K w + 1 else kWt K w
def mixW (f g : Nat → Nat) (w : Nat) : Nat → Nat := fun j => if j < w then g j else f j
theorem lfN_cg {f g nd : Nat → Nat} : ∀ {k i : Nat}, (∀ j, i ≤ j → j < i + k → f j = g j) → lfN f nd k i = lfN g nd k i
  | 0, _, _ => rfl
  | k + 1, i, h => by
    unfold lfN
    rw [h i (Nat.le_refl _) (by omega), lfN_cg (k := k) (i := i + 1) (fun j h1 h2 => h j (by omega) (by omega))]
theorem lfN_up {f g nd : Nat → Nat} {w : Nat} (hw : g w = f w + 1) (hn : f w < nd w) (ho : ∀ j, j ≠ w → g j = f j) : ∀ {k i : Nat}, i ≤ w → w < i + k → lfN f nd k i = lfN g nd k i + (if f w + 1 = nd w then 1 else 0)
  | 0, i, h1, h2 => by omega
  | k + 1, i, h1, h2 => by
    unfold lfN
    by_cases h : i = w
    · subst h
      rw [lfN_cg (f := f) (g := g) (k := k) (i := i + 1) (fun j h3 _ => (ho j (by omega)).symm), hw]
      rw [if_pos hn]
      by_cases h3 : f i + 1 = nd i
      · rw [if_pos h3, if_neg (by omega)]; omega
      · rw [if_neg h3, if_pos (by omega)]; omega
    · rw [lfN_up hw hn ho (k := k) (i := i + 1) (by omega) (by omega), ho i h]
      omega
theorem mixW_0 (f g : Nat → Nat) : mixW f g 0 = f := by
  funext j
  exact if_neg (by omega)
theorem mixW_same {f g : Nat → Nat} {w : Nat} (h : g w = f w) : mixW f g (w + 1) = mixW f g w := by
  funext j
  unfold mixW
  by_cases h1 : j < w
  · rw [if_pos h1, if_pos (by omega)]
  · rw [if_neg h1]
    by_cases h2 : j = w
    · rw [if_pos (by omega), h2, h]
    · rw [if_neg (by omega)]
theorem e_bringOn2 {S : List (Nat × Nat)} {R : Nat → Nat → Option Nat} {I : Nat → Nat → Int32} {t p : Nat} {E : zEn} {K : zKa} {len : Int32} (hT : pTs S R t) (hV : pTv I t E) (hS : pSs S R p) (hE : wfE E) (hd : p + 8 < t ∨ t + 31 < p) (hW : ∀ w, w < 5 → kWt K w < 100) :
    ∀ (k fu w : Nat) (M : zM), M.2.2 = R → (∀ a b, ¬ ((a = p ∧ b = 5) ∨ a = p + 8) → M.1 a b = I a b) → w + k = eW E → (∀ j, j < 5 → M.1 (p + 8) j = nI (mixW (kWt K) (wtS E K len) w j)) → M.1 p 5 = nI (lfN (mixW (kWt K) (wtS E K len) w) (eNd E) (eW E) 0) → k < fu →
    ∃ M', gX7_bringOn_2 S fu p t len (nI w) M = some M' ∧ M'.2.2 = R ∧ (∀ a b, ¬ ((a = p ∧ b = 5) ∨ a = p + 8) → M'.1 a b = I a b) ∧ (∀ j, j < 5 → M'.1 (p + 8) j = nI (mixW (kWt K) (wtS E K len) (eW E) j)) ∧ M'.1 p 5 = nI (lfN (mixW (kWt K) (wtS E K len) (eW E)) (eNd E) (eW E) 0) := by
  obtain ⟨t0, -, -, -, -, -, -, -, t12, t13, t14, -, -, -, -, -, -, -, -, plo, phi, pnd, -⟩ := id hT
  obtain ⟨s0, -, -, -, s14, -, -, -, pw⟩ := id hS
  have hW5 : eW E ≤ 5 := hE.2.2.2.1
  obtain ⟨⟨-, -, -, v10, -⟩, -, -, -, vw, -⟩ := hV
  intro k
  induction k with
  | zero =>
    intro fu w M hR hI hk h1 h2 hf
    obtain ⟨fu, rfl⟩ : ∃ f, fu = f + 1 := ⟨fu - 1, by omega⟩
    have hw : w = eW E := by omega
    subst hw
    refine ⟨M, ?_, hR, hI, h1, h2⟩
    simp only [gX7_bringOn_2]
    rw [zgI_ok t0, hI t 10 (by omega), v10, if_pos (nI_le (Nat.le_refl _) (by omega))]
  | succ k ih =>
    intro fu w M hR hI hk h1 h2 hf
    obtain ⟨fu, rfl⟩ : ∃ f, fu = f + 1 := ⟨fu - 1, by omega⟩
    have hw : w < eW E := by omega
    obtain ⟨-, q1, q2, q3⟩ := vw w hw
    have hn9 := (hE.2.2.2.2.2.2.2.2.2.2.2.1 w hw).2
    have g1 : M.1 (p + 7 + 1) w = nI (kWt K w) := by
      rw [show p + 7 + 1 = p + 8 by omega, h1 w (by omega)]
      congr 1
      exact if_neg (by omega)
    have g2 : M.1 (t + 15 + 1) w = eLo E w := by rw [hI _ _ (by omega)]; exact q1
    have g3 : M.1 (t + 17 + 1) w = eHi E w := by rw [hI _ _ (by omega)]; exact q2
    have g4 : M.1 (t + 19 + 1) w = nI (eNd E w) := by rw [hI _ _ (by omega)]; exact q3
    have hKw : kWt K w < 100 := hW w (by omega)
    simp only [gX7_bringOn_2]
    rw [zgI_ok t0, hI t 10 (by omega), v10, if_neg (nI_ge hw (by omega)), zgR_ok s0 (hR ▸ s14), zrc_ok pw.1, e_getR pw (by omega) M hR, Option.bind_some, g1, zgR_ok t0 (hR ▸ t12), zrc_ok plo.1, e_getR plo (by omega) M hR, Option.bind_some, g2]
    have skip : wtS E K len w = kWt K w → ∃ M', gX7_bringOn_2 S fu p t len (nI (w + 1)) M = some M' ∧ M'.2.2 = R ∧ (∀ a b, ¬ ((a = p ∧ b = 5) ∨ a = p + 8) → M'.1 a b = I a b) ∧ (∀ j, j < 5 → M'.1 (p + 8) j = nI (mixW (kWt K) (wtS E K len) (eW E) j)) ∧ M'.1 p 5 = nI (lfN (mixW (kWt K) (wtS E K len) (eW E)) (eNd E) (eW E) 0) := fun hs =>
      ih fu (w + 1) M hR hI (by omega) (by rw [mixW_same hs]; exact h1) (by rw [mixW_same hs]; exact h2) (by omega)
    by_cases c1 : len < eLo E w
    · rw [if_pos c1]
      unfold gX7_bringOn_49
      rw [if_pos rfl, nI_1]
      exact skip (if_neg (fun h => h.2.1 c1))
    rw [if_neg c1, zgR_ok t0 (hR ▸ t13), zrc_ok phi.1, e_getR phi (by omega) M hR, Option.bind_some, g3]
    by_cases c2 : eHi E w < len
    · rw [if_pos c2]
      unfold gX7_bringOn_49
      rw [if_pos rfl, nI_1]
      exact skip (if_neg (fun h => h.2.2.1 c2))
    rw [if_neg c2]
    unfold gX7_bringOn_49
    rw [if_neg (by decide), zgR_ok t0 (hR ▸ t14), zrc_ok pnd.1, e_getR pnd (by omega) M hR, Option.bind_some, g4]
    by_cases c3 : kWt K w < eNd E w
    · have hs : wtS E K len w = kWt K w + 1 := if_pos ⟨hw, c1, c2, c3⟩
      rw [if_neg (nI_ge c3 (by omega)), zgR_ok s0 (hR ▸ s14), zrc_ok pw.1, nI_1, e_set (hR ▸ pw) (by omega), Option.bind_some, zgI_ok s0, zsI_ne (by omega), h2]
      have hR4 : (zsI M (p + 7 + 1) w (nI (kWt K w + 1))).2.2 = R := hR
      rw [zgR_ok t0 (hR4 ▸ t14), zrc_ok pnd.1, e_getR pnd (by omega) _ hR4, Option.bind_some, zsI_ne (by omega), g4]
      have fw : mixW (kWt K) (wtS E K len) w w = kWt K w := if_neg (by omega)
      have gw : mixW (kWt K) (wtS E K len) (w + 1) w = kWt K w + 1 := by rw [← hs]; exact if_pos (by omega)
      have ho : ∀ j, j ≠ w → mixW (kWt K) (wtS E K len) (w + 1) j = mixW (kWt K) (wtS E K len) w j := fun j hj => by
        unfold mixW
        by_cases h : j < w
        · rw [if_pos h, if_pos (by omega)]
        · rw [if_neg h, if_neg (by omega)]
      have hup := lfN_up (nd := eNd E) (show mixW (kWt K) (wtS E K len) (w + 1) w = mixW (kWt K) (wtS E K len) w w + 1 by rw [fw, gw]) (by rw [fw]; exact c3) ho (k := eW E) (i := 0) (Nat.zero_le _) (by omega)
      rw [fw] at hup
      have row : ∀ (x : Int32) (j : Nat), j < 5 → (zsI (zsI M (p + 7 + 1) w (nI (kWt K w + 1))) p 5 x).1 (p + 8) j = nI (mixW (kWt K) (wtS E K len) (w + 1) j) := fun x j hj => by
        rw [zsI_ne (by omega)]
        by_cases h : j = w
        · rw [h, gw, show p + 7 + 1 = p + 8 by omega, zsI_at]
        · rw [zsI_ne (Or.inr h), h1 j hj, ho j h]
      have fra : ∀ (x : Int32) a b, ¬ ((a = p ∧ b = 5) ∨ a = p + 8) → (zsI (zsI M (p + 7 + 1) w (nI (kWt K w + 1))) p 5 x).1 a b = I a b := fun x a b h => by
        rw [zsI_ne (by omega), zsI_ne (by omega), hI a b h]
      by_cases c4 : kWt K w + 1 = eNd E w
      · rw [if_pos (by rw [c4]), zpI_ok s0, nI_1]
        rw [if_pos c4] at hup
        exact ih fu (w + 1) _ hR (fra _) (by omega) (row _) (by rw [zsI_at, hup, nI_pred]) (by omega)
      · rw [if_neg (fun h => c4 ((nI_eq (by omega) (by omega)).mp h)), zpI_ok s0, nI_1]
        rw [if_neg c4] at hup
        exact ih fu (w + 1) _ hR (fra _) (by omega) (row _) (by rw [zsI_at, hup]; exact pk_sub (Nat.zero_le _)) (by omega)
    · rw [if_pos (nI_le (by omega) (by omega)), nI_1]
      exact skip (if_neg (fun h => c3 h.2.2.2))
