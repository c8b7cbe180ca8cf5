/-! pure part 1: steps over a memory whose shapes and references are known; rows -/
theorem zgI_ok {ρ : Type} {S : List (Nat × Nat)} {M : zM} {k ci n j : Nat} {f : Int32 → Option ρ} (h : S[k]? = some (ci, n)) : zgI S M k ci n j f = f (M.1 k j) := if_pos h
theorem zgR_ok {ρ : Type} {S : List (Nat × Nat)} {M : zM} {k ci n j q : Nat} {f : Nat → Option ρ} (h : S[k]? = some (ci, n)) (hq : M.2.2 k j = some q) : zgR S M k ci n j f = f q := by
  unfold zgR
  rw [if_pos h, hq]
theorem zpI_ok {ρ : Type} {S : List (Nat × Nat)} {M : zM} {k ci n j : Nat} {x : Int32} {f : zM → Option ρ} (h : S[k]? = some (ci, n)) : zpI S M k ci n j x f = f (zsI M k j x) := if_pos h
theorem zpR_ok {ρ : Type} {S : List (Nat × Nat)} {M : zM} {k ci n j : Nat} {x : Option Nat} {f : zM → Option ρ} (h : S[k]? = some (ci, n)) : zpR S M k ci n j x f = f (zsR M k j x) := if_pos h
theorem zrc_ok {ρ : Type} {S : List (Nat × Nat)} {k ci n : Nat} {o : Option ρ} (h : S[k]? = some (ci, n)) : zrc S k ci n o = o := if_pos h
theorem zAn_ok {S : List (Nat × Nat)} {k t n : Nat} (h : S[k]? = some (t, n)) : zAn S k t = n := by
  unfold zAn
  rw [h]
  exact if_pos rfl
theorem zal_ok {ρ : Type} {S : List (Nat × Nat)} {t k n : Nat} {f : Int32 → Option ρ} (h : S[k]? = some (t, n)) : zal S t k f = f (nI n) := by
  unfold zal
  rw [h]
  exact if_pos rfl
theorem zaI_ok {ρ : Type} {S : List (Nat × Nat)} {M : zM} {t k n i : Nat} {f : Int32 → Option ρ} (h : S[k]? = some (t, n)) (hi : i < n) (hn : n < 2 ^ 31) : zaI S M t k (nI i) f = f (M.1 k i) := by
  unfold zaI
  rw [zAn_ok h, if_neg (nI_in hi hn), nI_clamp (by omega)]
theorem zbI_ok {ρ : Type} {S : List (Nat × Nat)} {M : zM} {k n i : Nat} {x : Int32} {f : zM → Option ρ} (h : S[k]? = some (100, n)) (hi : i < n) (hn : n < 2 ^ 31) : zbI S M k (nI i) x f = f (zsI M k i x) := by
  unfold zbI
  rw [zAn_ok h, if_neg (nI_in hi hn), nI_clamp (by omega)]
theorem zaL_ok {ρ : Type} {S : List (Nat × Nat)} {M : zM} {k n i : Nat} {f : Int64 → Option ρ} (h : S[k]? = some (101, n)) (hi : i < n) (hn : n < 2 ^ 31) : zaL S M k (nI i) f = f (M.2.1 k i) := by
  unfold zaL
  rw [zAn_ok h, if_neg (nI_in hi hn), nI_clamp (by omega)]
theorem zbL_ok {ρ : Type} {S : List (Nat × Nat)} {M : zM} {k n i : Nat} {x : Int64} {f : zM → Option ρ} (h : S[k]? = some (101, n)) (hi : i < n) (hn : n < 2 ^ 31) : zbL S M k (nI i) x f = f (zsL M k i x) := by
  unfold zbL
  rw [zAn_ok h, if_neg (nI_in hi hn), nI_clamp (by omega)]
theorem zsI_r (M : zM) (k j : Nat) (x : Int32) : (zsI M k j x).2 = M.2 := rfl
theorem zsL_r (M : zM) (k j : Nat) (x : Int64) : (zsL M k j x).2.2 = M.2.2 := rfl
theorem zsL_i (M : zM) (k j : Nat) (x : Int64) : (zsL M k j x).1 = M.1 := rfl
theorem zsI_at (M : zM) (k j : Nat) (x : Int32) : (zsI M k j x).1 k j = x := u2_at
theorem zsI_ne {M : zM} {k j a b : Nat} {x : Int32} (h : a ≠ k ∨ b ≠ j) : (zsI M k j x).1 a b = M.1 a b := by
  show u2 M.1 k j x a b = M.1 a b
  unfold u2
  by_cases h1 : a = k
  · subst h1
    rw [if_pos rfl]
    exact if_neg (h.resolve_left (fun h => h rfl))
  · rw [if_neg h1]
theorem zsL_at (M : zM) (k j : Nat) (x : Int64) : (zsL M k j x).2.1 k j = x := u2_at
theorem zsL_ne {M : zM} {k j a b : Nat} {x : Int64} (h : a ≠ k ∨ b ≠ j) : (zsL M k j x).2.1 a b = M.2.1 a b := by
  show u2 M.2.1 k j x a b = M.2.1 a b
  unfold u2
  by_cases h1 : a = k
  · subst h1
    rw [if_pos rfl]
    exact if_neg (h.resolve_left (fun h => h rfl))
  · rw [if_neg h1]
/-- what stays: references all, ints off W -/
def fr (W : Nat → Nat → Prop) (M M' : zM) : Prop := M'.2.2 = M.2.2 ∧ ∀ a b, ¬ W a b → M'.1 a b = M.1 a b
theorem fr.refl {W : Nat → Nat → Prop} {M : zM} : fr W M M := ⟨rfl, fun _ _ _ => rfl⟩
theorem fr.trans {W : Nat → Nat → Prop} {M M' M'' : zM} (h : fr W M M') (h' : fr W M' M'') : fr W M M'' := ⟨h'.1.trans h.1, fun a b hw => (h'.2 a b hw).trans (h.2 a b hw)⟩
theorem fr.mono {W V : Nat → Nat → Prop} {M M' : zM} (h : fr W M M') (hw : ∀ a b, W a b → V a b) : fr V M M' := ⟨h.1, fun a b hv => h.2 a b (fun h => hv (hw a b h))⟩
theorem fr.sI {W : Nat → Nat → Prop} {M M' : zM} {k j : Nat} {x : Int32} (h : fr W M M') (hw : W k j) : fr W M (zsI M' k j x) := ⟨h.1, fun a b ha => (zsI_ne (by
  by_cases h1 : a = k
  · by_cases h2 : b = j
    · subst h1 h2; exact absurd hw ha
    · exact Or.inr h2
  · exact Or.inl h1)).trans (h.2 a b ha)⟩
theorem fr.sL {W : Nat → Nat → Prop} {M M' : zM} {k j : Nat} {x : Int64} (h : fr W M M') : fr W M (zsL M' k j x) := ⟨h.1, h.2⟩
/-! rows -/
def pRow (S : List (Nat × Nat)) (R : Nat → Nat → Option Nat) (r n : Nat) : Prop := S[r]? = some (5, 1) ∧ R r 0 = some (r + 1) ∧ S[r + 1]? = some (100, n) ∧ 0 < n ∧ n ≤ 1440
theorem e_get {S : List (Nat × Nat)} {M : zM} {r n i : Nat} (h : pRow S M.2.2 r n) (hi : i < n) : gX5_get S r (nI i) M = some (M.1 (r + 1) i) := by
  obtain ⟨h1, h2, h3, h4, h5⟩ := h
  unfold gX5_get
  rw [if_neg (nI_pos (by omega)), zgR_ok h1 h2, zal_ok h3, if_neg (nI_ge hi (by omega)), zgR_ok h1 h2, zaI_ok h3 hi (by omega)]
theorem e_getN {S : List (Nat × Nat)} {M : zM} {r n i : Nat} (h : pRow S M.2.2 r n) (hi : n ≤ i) (hi2 : i < 2 ^ 31) : gX5_get S r (nI i) M = some 0 := by
  obtain ⟨h1, h2, h3, h4, h5⟩ := h
  unfold gX5_get
  rw [if_neg (nI_pos (by omega)), zgR_ok h1 h2, zal_ok h3, if_pos (nI_le hi (by omega))]
theorem e_set {S : List (Nat × Nat)} {M : zM} {r n i : Nat} {v : Int32} (h : pRow S M.2.2 r n) (hi : i < n) : gX5_set S r (nI i) v M = some (zsI M (r + 1) i v) := by
  obtain ⟨h1, h2, h3, h4, h5⟩ := h
  unfold gX5_set
  rw [if_neg (nI_pos (by omega)), zgR_ok h1 h2, zal_ok h3, if_neg (nI_ge hi (by omega)), zgR_ok h1 h2, zbI_ok h3 hi (by omega)]
theorem e_setN {S : List (Nat × Nat)} {M : zM} {r n i : Nat} {v : Int32} (h : pRow S M.2.2 r n) (hi : n ≤ i) (hi2 : i < 2 ^ 31) : gX5_set S r (nI i) v M = some M := by
  obtain ⟨h1, h2, h3, h4, h5⟩ := h
  unfold gX5_set
  rw [if_neg (nI_pos (by omega)), zgR_ok h1 h2, zal_ok h3, if_pos (nI_le hi (by omega))]
theorem e_copy {S : List (Nat × Nat)} {M : zM} {r r' n : Nat} (h : pRow S M.2.2 r n) (h' : pRow S M.2.2 r' n) : gX5_copy S r r' M = some (zcpM M (r' + 1) (r + 1) 0 0 n) := by
  obtain ⟨h1, h2, h3, h4, h5⟩ := h
  obtain ⟨k1, k2, k3, -, -⟩ := h'
  unfold gX5_copy
  rw [zgR_ok k1 k2, zgR_ok h1 h2, zgR_ok h1 h2, zal_ok h3, zgR_ok k1 k2, zal_ok k3]
  have e : (if nI n < nI n then nI n else nI n) = nI n := by split <;> rfl
  rw [e]
  unfold zcp
  rw [zAn_ok h3, zAn_ok k3, h3, k3, nI_clamp (by omega), show (0 : Int32).toNatClampNeg = 0 from rfl]
  rw [if_neg]
  rintro ((h | h | h) | (h | h | h | h) | (h | h))
  · exact absurd h (by decide)
  · exact absurd h (by decide)
  · exact nI_pos (by omega) h
  · cases h
  · cases h
  · omega
  · omega
  · omega
  · omega
theorem zcpM_r (M : zM) (a b c d n : Nat) : (zcpM M a b c d n).2 = M.2 := rfl
theorem zcpM_at {M : zM} {k k' n i : Nat} (hi : i < n) : (zcpM M k k' 0 0 n).1 k' i = M.1 k i := by
  show (if k' = k' then va_cpy (M.1 k) (M.1 k') 0 0 n else M.1 k') i = M.1 k i
  rw [if_pos rfl]
  unfold va_cpy
  rw [if_pos ⟨Nat.zero_le _, by omega⟩]
  simp
theorem zcpM_ne {M : zM} {k k' n a b : Nat} (h : a ≠ k' ∨ n ≤ b) : (zcpM M k k' 0 0 n).1 a b = M.1 a b := by
  show (if a = k' then va_cpy (M.1 k) (M.1 k') 0 0 n else M.1 a) b = M.1 a b
  by_cases h1 : a = k'
  · subst h1
    rw [if_pos rfl]
    unfold va_cpy
    rw [if_neg (by rcases h with h | h <;> omega)]
  · rw [if_neg h1]
def zfl (M : zM) (k : Nat) (v : Int32) (i n : Nat) : zM := ((fun a => if a = k then (fun b => if i ≤ b ∧ b < n then v else M.1 k b) else M.1 a), M.2)
theorem zfl_at {M : zM} {k n b : Nat} {v : Int32} (h : b < n) : (zfl M k v 0 n).1 k b = v := by simp [zfl, h]
theorem zfl_ne {M : zM} {k n a b : Nat} {v : Int32} (h : a ≠ k ∨ n ≤ b) : (zfl M k v 0 n).1 a b = M.1 a b := by
  unfold zfl
  by_cases h1 : a = k
  · subst h1
    simp only [if_true]
    rw [if_neg (by rcases h with h | h <;> omega)]
  · simp only [if_neg h1]
theorem zfl_r (M : zM) (k : Nat) (v : Int32) (i n : Nat) : (zfl M k v i n).2 = M.2 := rfl
theorem e_fill_2 {S : List (Nat × Nat)} {R : Nat → Nat → Option Nat} {r n : Nat} {v : Int32} (h : pRow S R r n) : ∀ (k fu i : Nat) (M : zM), M.2.2 = R → i + k = n → k < fu → gX5_fill_2 S fu r v (nI i) M = some (zfl M (r + 1) v i n) := by
  obtain ⟨h1, h2, h3, h4, h5⟩ := h
  intro k
  induction k with
  | zero =>
    intro fu i M hR hk hf
    obtain ⟨fu, rfl⟩ : ∃ f, fu = f + 1 := ⟨fu - 1, by omega⟩
    show zgR S M r 5 1 0 _ = _
    rw [zgR_ok h1 (hR ▸ h2), zal_ok h3, if_pos (nI_le (by omega) (by omega))]
    congr 1
    unfold zfl
    refine Prod.ext ?_ rfl
    funext a b
    dsimp only
    by_cases ha : a = r + 1
    · rw [if_pos ha, if_neg (by omega), ha]
    · rw [if_neg ha]
  | succ k ih =>
    intro fu i M hR hk hf
    obtain ⟨fu, rfl⟩ : ∃ f, fu = f + 1 := ⟨fu - 1, by omega⟩
    show zgR S M r 5 1 0 _ = _
    rw [zgR_ok h1 (hR ▸ h2), zal_ok h3, if_neg (nI_ge (by omega) (by omega)), zgR_ok h1 (hR ▸ h2), zbI_ok h3 (by omega) (by omega), nI_1, ih fu (i + 1) (zsI M (r + 1) i v) hR (by omega) (by omega)]
    congr 1
    unfold zfl
    refine Prod.ext ?_ rfl
    funext a b
    dsimp only
    by_cases ha : a = r + 1
    · rw [if_pos ha, if_pos ha]
      by_cases hb : i + 1 ≤ b ∧ b < n
      · rw [if_pos hb, if_pos (by omega)]
      · rw [if_neg hb]
        by_cases hb2 : b = i
        · rw [if_pos (by omega), hb2, zsI_at]
        · rw [if_neg (by omega), zsI_ne (Or.inr hb2)]
    · rw [if_neg ha, if_neg ha]
      exact zsI_ne (Or.inl ha)
theorem e_fill {S : List (Nat × Nat)} {M : zM} {r n : Nat} {v : Int32} (h : pRow S M.2.2 r n) : gX5_fill S r v M = some (zfl M (r + 1) v 0 n) := e_fill_2 h n zfu 0 M rfl (by omega) (by have := h.2.2.2.2; unfold zfu; omega)
/-- f i + .. over k places from i on, added to x from the left -/
def zsum (f : Nat → Int32) : Nat → Nat → Int32 → Int32
  | 0, _, x => x
  | k + 1, i, x => zsum f k (i + 1) (x + f i)
theorem e_sum_4 {S : List (Nat × Nat)} {M : zM} {r n : Nat} (h : pRow S M.2.2 r n) : ∀ (k fu i : Nat) (x : Int32), i + k = n → k < fu → gX5_sum_4 S fu r x (nI i) M = some (zsum (M.1 (r + 1)) k i x) := by
  obtain ⟨h1, h2, h3, h4, h5⟩ := h
  intro k
  induction k with
  | zero =>
    intro fu i x hk hf
    obtain ⟨fu, rfl⟩ : ∃ f, fu = f + 1 := ⟨fu - 1, by omega⟩
    show zgR S M r 5 1 0 _ = _
    rw [zgR_ok h1 h2, zal_ok h3, if_pos (nI_le (by omega) (by omega))]
    rfl
  | succ k ih =>
    intro fu i x hk hf
    obtain ⟨fu, rfl⟩ : ∃ f, fu = f + 1 := ⟨fu - 1, by omega⟩
    show zgR S M r 5 1 0 _ = _
    rw [zgR_ok h1 h2, zal_ok h3, if_neg (nI_ge (by omega) (by omega)), zgR_ok h1 h2, zaI_ok h3 (by omega) (by omega), nI_1, ih fu (i + 1) _ (by omega) (by omega)]
    rfl
theorem e_sum {S : List (Nat × Nat)} {M : zM} {r n : Nat} (h : pRow S M.2.2 r n) : gX5_sum S r M = some (zsum (M.1 (r + 1)) n 0 0) := e_sum_4 h n zfu 0 0 (by omega) (by have := h.2.2.2.2; unfold zfu; omega)
