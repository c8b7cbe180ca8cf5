/-! pure part 63: the tokens; the model's words, names, numbers -/
def chN (i : Nat) : Nat := [116, 114, 97, 100, 101, 32, 116, 117, 114, 110, 32, 99, 108, 97, 105, 109, 32, 119, 111, 114, 107, 32, 115, 108, 105, 112, 32, 115, 101, 101, 100, 32, 108, 97, 119, 32, 108, 101, 110, 103, 116, 104, 32, 102, 97, 109, 101, 32, 119, 105, 108, 108, 32, 111, 114, 32, 97, 110, 100, 32, 110, 111, 116, 32, 104, 111, 117, 114, 32, 109, 97, 110, 110, 101, 114, 32, 107, 110, 111, 119, 110, 32, 111, 112, 101, 110, 101, 100, 32, 108, 101, 102, 116, 32, 108, 97, 115, 116, 32, 100, 97, 116, 101, 32].getD i 0
def wlN (j : Nat) : Nat := [5, 4, 5, 4, 4, 4, 3, 6, 4, 4, 2, 3, 3, 4, 6, 5, 6, 4, 4, 4].getD j 0
def woN (j : Nat) : Nat := [0, 6, 11, 17, 22, 27, 32, 36, 43, 48, 53, 56, 60, 64, 69, 76, 82, 89, 94, 99, 104].getD j 0
theorem zT2_ch : ∀ i, i < 104 → zT2.getD i 0 = nI (chN i) := by decide +kernel
theorem zT2_len : zT2.length = 104 := by decide +kernel
def hz (d : Nat → Nat) : Nat → Nat
  | 0 => 0
  | i + 1 => hz d i * 32 + d i
def dgW (j i : Nat) : Nat := if i < wlN j then chN (woN j + i) - 96 else 0
theorem wd_facts : ∀ j, j < 20 → (1 ≤ wlN j ∧ wlN j ≤ 6 ∧ chN (woN j + wlN j) = 32 ∧ woN (j + 1) = woN j + wlN j + 1 ∧ woN j + wlN j < 104 ∧ wdC j = hz (dgW j) 6) ∧ ∀ i, i < wlN j → 97 ≤ chN (woN j + i) ∧ chN (woN j + i) ≤ 122 := by decide +kernel
theorem wo_20 : woN 20 = 104 := rfl
theorem hz_inj {d d' : Nat → Nat} (h1 : ∀ i, d i < 32) (h2 : ∀ i, d' i < 32) : ∀ k, hz d k = hz d' k → ∀ i, i < k → d i = d' i
  | 0, _, i, hi => by omega
  | k + 1, h, i, hi => by
    have h' : hz d k * 32 + d k = hz d' k * 32 + d' k := h
    have a := h1 k
    have b := h2 k
    have e1 : hz d k = hz d' k := by omega
    have e2 : d k = d' k := by omega
    by_cases q : i = k
    · rw [q]; exact e2
    · exact hz_inj h1 h2 k e1 i (by omega)
theorem hz_cg {d d' : Nat → Nat} (h : ∀ i, d i = d' i) : ∀ k, hz d k = hz d' k
  | 0 => rfl
  | k + 1 => by
    show hz d k * 32 + d k = hz d' k * 32 + d' k
    rw [hz_cg h k, h k]
def dgT (T : Nat → Nat) (p L i : Nat) : Nat := if i < L then T (p + i) - 96 else 0
theorem hz_v {T : Nat → Nat} {p L : Nat} : ∀ i, i ≤ L → hz (dgT T p L) i = vS T p i
  | 0, _ => rfl
  | i + 1, h => by
    show hz (dgT T p L) i * 32 + dgT T p L i = vS T p i * 32 + (T (p + i) - 96)
    rw [hz_v i (by omega)]
    unfold dgT
    rw [if_pos (by omega)]
theorem hz_z {T : Nat → Nat} {p L : Nat} : ∀ r, hz (dgT T p L) (L + r) = vS T p L * 2 ^ (5 * r)
  | 0 => by
    rw [Nat.add_zero, hz_v L (Nat.le_refl _)]
    exact (Nat.mul_one _).symm
  | r + 1 => by
    show hz (dgT T p L) (L + r) * 32 + dgT T p L (L + r) = _
    have d0 : dgT T p L (L + r) = 0 := if_neg (by omega)
    rw [hz_z r, d0, Nat.add_zero, show 5 * (r + 1) = 5 * r + 5 by omega, Nat.pow_add, Nat.mul_assoc]
theorem cd_hz {T : Nat → Nat} {p L : Nat} (hL : L ≤ 6) : cdS T p L = hz (dgT T p L) 6 := by
  have h := hz_z (T := T) (p := p) (L := L) (6 - L)
  rw [show L + (6 - L) = 6 by omega] at h
  rw [h]
  unfold cdS
  rw [show 5 * (6 - L) = 30 - 5 * L by omega]
theorem wd_eq {T : Nat → Nat} {p L j : Nat} (hL : L ≤ 6) (hj : j < 20) (hl : ∀ i, i < L → 97 ≤ T (p + i) ∧ T (p + i) ≤ 122) : wdC j = cdS T p L ↔ (L = wlN j ∧ ∀ i, i < wlN j → T (p + i) = chN (woN j + i)) := by
  obtain ⟨⟨a1, a2, a3, a4, a5, a6⟩, a7⟩ := wd_facts j hj
  have b1 : ∀ i, dgT T p L i < 32 := fun i => by
    unfold dgT
    split
    · rename_i h
      have := hl i h
      omega
    · omega
  have b2 : ∀ i, dgW j i < 32 := fun i => by
    unfold dgW
    split
    · rename_i h
      have := a7 i h
      omega
    · omega
  rw [a6, cd_hz hL]
  constructor
  · intro h
    have dd := hz_inj b2 b1 6 h
    have eL : L = wlN j := by
      rcases Nat.lt_trichotomy L (wlN j) with h1 | h1 | h1
      · have h2 := dd L (by omega)
        unfold dgW dgT at h2
        rw [if_pos h1, if_neg (Nat.lt_irrefl _)] at h2
        have := a7 L h1
        omega
      · exact h1
      · have h2 := dd (wlN j) (by omega)
        unfold dgW dgT at h2
        rw [if_neg (Nat.lt_irrefl _), if_pos h1] at h2
        have := hl (wlN j) h1
        omega
    refine ⟨eL, fun i hi => ?_⟩
    have h2 := dd i (by omega)
    unfold dgW dgT at h2
    rw [if_pos hi, if_pos (by omega)] at h2
    have h3 := a7 i hi
    have h4 := hl i (by omega)
    omega
  · rintro ⟨h1, h2⟩
    refine hz_cg (fun i => ?_) 6
    unfold dgW dgT
    rw [h1]
    by_cases hi : i < wlN j
    · rw [if_pos hi, if_pos hi, h2 i hi]
    · rw [if_neg hi, if_neg hi]
def mTx (S : List (Nat × Nat)) (R : Nat → Nat → Option Nat) (I : Nat → Nat → Int32) (T : Nat → Nat) (n : Nat) : Prop := pMs S R ∧ (I 306 19 = nI n ∧ I 306 25 = -1) ∧ n ≤ 700 ∧ (∀ j, j < n → I 307 j = nI (T j) ∧ T j < 256)
def qTk (a b : Nat) : Prop := a = 306 ∧ 20 ≤ b ∧ b ≤ 23
theorem mTx_cg {S : List (Nat × Nat)} {R : Nat → Nat → Option Nat} {I I' : Nat → Nat → Int32} {T : Nat → Nat} {n : Nat} (h : ∀ a b, (a = 306 ∧ (b = 19 ∨ b = 25)) ∨ a = 307 → I' a b = I a b) (hx : mTx S R I T n) : mTx S R I' T n := by
  obtain ⟨a, b, c, d⟩ := hx
  exact ⟨a, ⟨(h 306 19 (by omega)).trans b.1, (h 306 25 (by omega)).trans b.2⟩, c, fun j hj => ⟨(h 307 j (by omega)).trans (d j hj).1, (d j hj).2⟩⟩
def heS (T : Nat → Nat) (n a : Nat) : Int32 := if a < n then nI (T a) else -1
theorem m_here {S : List (Nat × Nat)} {M : zM} {T : Nat → Nat} {n a : Nat} (hx : mTx S M.2.2 M.1 T n) (ha : a ≤ n) (h : M.1 306 20 = nI a) : gX12_here S 306 M = some (heS T n a) := by
  obtain ⟨hS, ⟨hn, h25⟩, h7, hT⟩ := hx
  unfold heS
  by_cases q : a < n
  · have hc : ¬ n ≤ a := by omega
    have g := (hT a q).1
    rw [if_pos q]
    simp (disch := first | omega | simp only [qI2, qL2, qC2, qF2]) only [gX12_here, ↓mH hS, h, hn, nI_leI, if_neg hc, ↓mG hS, g]
  · have hc : n ≤ a := by omega
    rw [if_neg q]
    simp (disch := first | omega | simp only [qI2, qL2, qC2, qF2]) only [gX12_here, ↓mH hS, h, hn, nI_leI, if_pos hc]
theorem m_isLt {S : List (Nat × Nat)} {M : zM} {T : Nat → Nat} {n a : Nat} (hT : a < n → T a < 256) : gX12_isSmall S (heS T n a) M = some (bI (decide (a < n) && isLt (T a))) := by
  unfold heS
  by_cases q : a < n
  · rw [if_pos q, decide_eq_true q, Bool.true_and]
    exact e_isLt (M := M) (S := S) (hT q)
  · rw [if_neg q, decide_eq_false q]
    rfl
theorem m_isDg {S : List (Nat × Nat)} {M : zM} {T : Nat → Nat} {n a : Nat} (hT : a < n → T a < 256) : gX12_isDigit S (heS T n a) M = some (bI (decide (a < n) && isDg (T a))) := by
  unfold heS
  by_cases q : a < n
  · rw [if_pos q, decide_eq_true q, Bool.true_and]
    exact e_isDg (M := M) (S := S) (hT q)
  · rw [if_neg q, decide_eq_false q]
    rfl
theorem zcT2 {ρ : Type} {i : Nat} {f : Int32 → Option ρ} (h : i < 104) : zsC zT2 (nI i) f = f (nI (chN i)) := by
  unfold zsC
  rw [zT2_len, if_neg (nI_in h (by decide)), nI_clamp (by omega), zT2_ch i h]
section WORDS
variable {S : List (Nat × Nat)} {M : zM} {T : Nat → Nat} {n p e j : Nat} {k4 : Nat → Int32 → Int32 → zM → Option Int32}
theorem m_w97 (hj : j < 20) : ∀ (k fu x : Nat), x + k = woN j + wlN j → k < fu → woN j ≤ x →
    gX12_word_97 S k4 fu 306 (nI j) (nI x) M = k4 306 (nI (j + 1)) (nI (woN (j + 1))) M := by
  obtain ⟨⟨a1, a2, a3, a4, a5, a6⟩, a7⟩ := wd_facts j hj
  intro k
  induction k with
  | zero =>
    intro fu x hk hf hx
    obtain ⟨fu, rfl⟩ : ∃ f, fu = f + 1 := ⟨fu - 1, by omega⟩
    have e : x = woN j + wlN j := by omega
    subst e
    have z := fun (f : Int32 → Option Int32) => zcT2 (ρ := Int32) (f := f) a5
    have c32 : nI (chN (woN j + wlN j)) = 32 := by rw [a3]; rfl
    simp (disch := first | omega | simp only [qI2, qL2, qC2, qF2]) only [gX12_word_97, ↓z, if_pos c32, nI_1, a4]
  | succ k ih =>
    intro fu x hk hf hx
    obtain ⟨fu, rfl⟩ : ∃ f, fu = f + 1 := ⟨fu - 1, by omega⟩
    have z := fun (f : Int32 → Option Int32) => zcT2 (ρ := Int32) (i := x) (f := f) (by omega)
    have hc := a7 (x - woN j) (by omega)
    rw [show woN j + (x - woN j) = x by omega] at hc
    have c32 : ¬ nI (chN x) = 32 := fun h => by
      have := (nI_eq (a := chN x) (b := 32) (by omega) (by omega)).1 h
      omega
    simp (disch := first | omega | simp only [qI2, qL2, qC2, qF2]) only [gX12_word_97, ↓z, if_neg c32, nI_1]
    exact ih fu (x + 1) (by omega) (by omega) (by omega)
theorem m_w69n (hj : j < 20) {i : Nat} (hi : i < wlN j) : gX12_word_69 S k4 306 (nI j) (nI (woN j)) (nI i) M = k4 306 (nI (j + 1)) (nI (woN (j + 1))) M := by
  obtain ⟨⟨a1, a2, a3, a4, a5, a6⟩, a7⟩ := wd_facts j hj
  have z := fun (f : Int32 → Option Int32) => zcT2 (ρ := Int32) (i := woN j + i) (f := f) (by omega)
  have hc := a7 i hi
  have c32 : ¬ nI (chN (woN j + i)) = 32 := fun h => by
    have := (nI_eq (a := chN (woN j + i)) (b := 32) (by omega) (by omega)).1 h
    omega
  have r := m_w97 (S := S) (M := M) (k4 := k4) hj (wlN j) zfu (woN j) (by omega) (by unfold zfu; omega) (Nat.le_refl _)
  simp only [gX12_word_69, nI_add]
  simp (disch := first | omega | simp only [qI2, qL2, qC2, qF2]) only [↓z, if_neg c32, r]
theorem m_w15 (hx : mTx S M.2.2 M.1 T n) (hpe : p ≤ e) (hen : e ≤ n) (h20 : M.1 306 20 = nI e) (h21 : M.1 306 21 = nI p) (hj : j < 20) : ∀ (k fu i : Nat), i + k = wlN j → k < fu → (∀ i', i' < i → p + i' < e ∧ T (p + i') = chN (woN j + i')) →
    ((e - p = wlN j ∧ ∀ i, i < wlN j → T (p + i) = chN (woN j + i)) → gX12_word_15 S k4 fu 306 (nI j) (nI (woN j)) (nI i) M = some (nI j)) ∧
    (¬ (e - p = wlN j ∧ ∀ i, i < wlN j → T (p + i) = chN (woN j + i)) → gX12_word_15 S k4 fu 306 (nI j) (nI (woN j)) (nI i) M = k4 306 (nI (j + 1)) (nI (woN (j + 1))) M) := by
  obtain ⟨hS, ⟨hn, h25⟩, h7, hT⟩ := hx
  obtain ⟨⟨a1, a2, a3, a4, a5, a6⟩, a7⟩ := wd_facts j hj
  intro k
  induction k with
  | zero =>
    intro fu i hk hf hm
    obtain ⟨fu, rfl⟩ : ∃ f, fu = f + 1 := ⟨fu - 1, by omega⟩
    have ei : i = wlN j := by omega
    subst ei
    have z := fun (f : Int32 → Option Int32) => zcT2 (ρ := Int32) (f := f) a5
    have c32 : nI (chN (woN j + wlN j)) = 32 := by rw [a3]; rfl
    have le : p + wlN j ≤ e := by
      have := (hm (wlN j - 1) (by omega)).1
      omega
    have r := m_w97 (S := S) (M := M) (k4 := k4) hj (wlN j) zfu (woN j) (by omega) (by unfold zfu; omega) (Nat.le_refl _)
    have u1 : gX12_word_15 S k4 (fu + 1) 306 (nI j) (nI (woN j)) (nI (wlN j)) M = gX12_word_69 S k4 306 (nI j) (nI (woN j)) (nI (wlN j)) M := by
      simp only [gX12_word_15, nI_add]
      simp (disch := first | omega | simp only [qI2, qL2, qC2, qF2]) only [↓z, if_pos c32]
    rw [u1]
    refine ⟨fun hq => ?_, fun hq => ?_⟩
    · have hc : p + wlN j = e := by omega
      simp only [gX12_word_69, nI_add]
      simp (disch := first | omega | simp only [qI2, qL2, qC2, qF2]) only [↓z, if_pos c32, ↓mH hS, h21, h20, nI_add, nI_eq, if_pos hc]
    · have hc : ¬ p + wlN j = e := fun h => hq ⟨by omega, fun i hi => (hm i hi).2⟩
      simp only [gX12_word_69, nI_add]
      simp (disch := first | omega | simp only [qI2, qL2, qC2, qF2]) only [↓z, if_pos c32, ↓mH hS, h21, h20, nI_add, nI_eq, if_neg hc, r]
  | succ k ih =>
    intro fu i hk hf hm
    obtain ⟨fu, rfl⟩ : ∃ f, fu = f + 1 := ⟨fu - 1, by omega⟩
    have z := fun (f : Int32 → Option Int32) => zcT2 (ρ := Int32) (i := woN j + i) (f := f) (by omega)
    have hc := a7 i (by omega)
    have c32 : ¬ nI (chN (woN j + i)) = 32 := fun h => by
      have := (nI_eq (a := chN (woN j + i)) (b := 32) (by omega) (by omega)).1 h
      omega
    have r69 := m_w69n (S := S) (M := M) (k4 := k4) hj (i := i) (by omega)
    by_cases q : e ≤ p + i
    · have u1 : gX12_word_15 S k4 (fu + 1) 306 (nI j) (nI (woN j)) (nI i) M = k4 306 (nI (j + 1)) (nI (woN (j + 1))) M := by
        simp only [gX12_word_15, nI_add]
        simp (disch := first | omega | simp only [qI2, qL2, qC2, qF2]) only [↓z, if_neg c32, ↓mH hS, h21, h20, nI_add, nI_leI, if_pos q, r69]
      exact ⟨fun hq => by omega, fun _ => u1⟩
    · have g := (hT (p + i) (by omega)).1
      have t256 := (hT (p + i) (by omega)).2
      by_cases q2 : T (p + i) = chN (woN j + i)
      · have u1 : gX12_word_15 S k4 (fu + 1) 306 (nI j) (nI (woN j)) (nI i) M = gX12_word_15 S k4 fu 306 (nI j) (nI (woN j)) (nI (i + 1)) M := by
          simp only [gX12_word_15, nI_add]
          simp (disch := first | omega | simp only [qI2, qL2, qC2, qF2]) only [↓z, if_neg c32, ↓mH hS, h21, h20, nI_add, nI_leI, if_neg q]
          simp (disch := first | omega | simp only [qI2, qL2, qC2, qF2]) only [↓mG hS, g, nI_eq, if_pos q2, nI_1]
        rw [u1]
        exact ih fu (i + 1) (by omega) (by omega) (fun i' h => by
          by_cases e' : i' = i
          · rw [e']; exact ⟨by omega, q2⟩
          · exact hm i' (by omega))
      · have u1 : gX12_word_15 S k4 (fu + 1) 306 (nI j) (nI (woN j)) (nI i) M = k4 306 (nI (j + 1)) (nI (woN (j + 1))) M := by
          simp only [gX12_word_15, nI_add]
          simp (disch := first | omega | simp only [qI2, qL2, qC2, qF2]) only [↓z, if_neg c32, ↓mH hS, h21, h20, nI_add, nI_leI, if_neg q]
          simp (disch := first | omega | simp only [qI2, qL2, qC2, qF2]) only [↓mG hS, g, nI_eq, if_neg q2, r69]
        exact ⟨fun hq => absurd (hq.2 i (by omega)) q2, fun _ => u1⟩
end WORDS
def wiQ (Q : Nat → Bool) : Nat → Nat → Option Nat
  | 0, _ => none
  | k + 1, j => if Q j then some j else wiQ Q k (j + 1)
theorem wiQ_x {v : Nat} : ∀ k j, wiQ (fun j => decide (wdC j = v)) k j = wix k j v
  | 0, _ => rfl
  | k + 1, j => by
    unfold wiQ wix
    rw [wiQ_x k (j + 1)]
    by_cases h : wdC j = v
    · rw [if_pos h, if_pos (decide_eq_true h)]
    · rw [if_neg h, if_neg (by rw [decide_eq_false h]; exact Bool.false_ne_true)]
theorem wiQ_f : ∀ k j, wiQ (fun _ => false) k j = none
  | 0, _ => rfl
  | k + 1, j => wiQ_f k (j + 1)
theorem m_w4 {S : List (Nat × Nat)} {M : zM} {T : Nat → Nat} {n p e : Nat} {Q : Nat → Bool} (hx : mTx S M.2.2 M.1 T n) (hpe : p ≤ e) (hen : e ≤ n) (h20 : M.1 306 20 = nI e) (h21 : M.1 306 21 = nI p) (hQ : ∀ j, j < 20 → (Q j = true ↔ (e - p = wlN j ∧ ∀ i, i < wlN j → T (p + i) = chN (woN j + i)))) : ∀ (k fu j : Nat), j + k = 20 → k < fu →
    gX12_word_4 S fu 306 (nI j) (nI (woN j)) M = some (oI (wiQ Q k j)) := by
  intro k
  induction k with
  | zero =>
    intro fu j hk hf
    obtain ⟨fu, rfl⟩ : ∃ f, fu = f + 1 := ⟨fu - 1, by omega⟩
    have e : j = 20 := by omega
    subst e
    rfl
  | succ k ih =>
    intro fu j hk hf
    obtain ⟨fu, rfl⟩ : ∃ f, fu = f + 1 := ⟨fu - 1, by omega⟩
    obtain ⟨⟨a1, a2, a3, a4, a5, a6⟩, a7⟩ := wd_facts j (by omega)
    have hc : ¬ 104 ≤ woN j := by omega
    have u1 : gX12_word_4 S (fu + 1) 306 (nI j) (nI (woN j)) M = gX12_word_15 S (gX12_word_4 S fu) zfu 306 (nI j) (nI (woN j)) (nI 0) M := by
      have zl : Int32.ofNat zT2.length = nI 104 := by rw [zT2_len]; rfl
      simp only [gX12_word_4, zsN, zl]
      rw [if_neg (fun h => hc ((nI_leI (by decide) (by omega)).1 h))]
      rfl
    obtain ⟨w1, w2⟩ := m_w15 (S := S) (M := M) (T := T) (n := n) (p := p) (e := e) (j := j) (k4 := gX12_word_4 S fu) hx hpe hen h20 h21 (by omega) (wlN j) zfu 0 (by omega) (by unfold zfu; omega) (fun i' h => by omega)
    rw [u1]
    have un : wiQ Q (k + 1) j = if Q j then some j else wiQ Q k (j + 1) := rfl
    rw [un]
    cases q : Q j with
    | true =>
      rw [w1 ((hQ j (by omega)).1 q)]
      rfl
    | false =>
      rw [w2 (fun h => by rw [(hQ j (by omega)).2 h] at q; cases q), if_neg Bool.false_ne_true]
      exact ih fu (j + 1) (by omega) (by omega)
theorem nm_lt {T : Nat → Nat} {p L : Nat} (h : ∀ i, i < L → T (p + i) ≤ 122) : ∀ i, hz (dgT T p L) i < 32 ^ i
  | 0 => Nat.zero_lt_one
  | i + 1 => by
    have a := nm_lt h i
    have b : dgT T p L i ≤ 26 := by
      unfold dgT
      split
      · rename_i q
        have := h i q
        omega
      · omega
    show hz (dgT T p L) i * 32 + dgT T p L i < 32 ^ (i + 1)
    rw [Nat.pow_succ]
    omega
theorem nm_st {v d : Nat} (hv : v < 2 ^ 26) (hd : d < 32) : (nI v <<< ((5 : Int32) &&& 31)) ||| nI d = nI (v * 32 + d) := by
  rw [pk_shlN (n := v) ((5 : Int32) &&& 31) 5 (by decide) (by omega), nI_or]
  congr 1
  show v * 2 ^ 5 ||| d = v * 32 + d
  rw [Nat.mul_comm v, ← Nat.two_pow_add_eq_or_of_lt (by omega)]
theorem m_name7 {S : List (Nat × Nat)} {R : Nat → Nat → Option Nat} {I : Nat → Nat → Int32} {T : Nat → Nat} {n p e : Nat} (hx : mTx S R I T n) (hpe : p ≤ e) (hen : e ≤ n) (hl : ∀ i, i < e - p → 97 ≤ T (p + i) ∧ T (p + i) ≤ 122) (h20 : I 306 20 = nI e) (h21 : I 306 21 = nI p) : ∀ (k fu i : Nat) (M : zM), i + k = 6 → k < fu → M.2.2 = R → (∀ a b, ¬ (a = 306 ∧ b = 23) → M.1 a b = I a b) → M.1 306 23 = nI (hz (dgT T p (e - p)) i) →
    ∃ M', gX12_name_7 S fu 306 (nI i) M = some M' ∧ M'.2.2 = R ∧ (∀ a b, ¬ (a = 306 ∧ b = 23) → M'.1 a b = I a b) ∧ M'.1 306 23 = nI (hz (dgT T p (e - p)) 6) := by
  obtain ⟨hS, ⟨hn, h25⟩, h7, hT⟩ := hx
  intro k
  induction k with
  | zero =>
    intro fu i M hk hf hMR hI hv
    obtain ⟨fu, rfl⟩ : ∃ f, fu = f + 1 := ⟨fu - 1, by omega⟩
    have hc : 6 ≤ i := by omega
    refine ⟨M, ?_, hMR, hI, by rw [hv, show i = 6 by omega]⟩
    simp (disch := first | omega | simp only [qI2, hMR]) only [gX12_name_7, li6, nI_leI, if_pos hc]
  | succ k ih =>
    intro fu i M hk hf hMR hI hv
    obtain ⟨fu, rfl⟩ : ∃ f, fu = f + 1 := ⟨fu - 1, by omega⟩
    have hc : ¬ 6 ≤ i := by omega
    have g20 : M.1 306 20 = nI e := (hI 306 20 (by omega)).trans h20
    have g21 : M.1 306 21 = nI p := (hI 306 21 (by omega)).trans h21
    have lt := nm_lt (T := T) (p := p) (L := e - p) (fun i h => (hl i h).2) i
    have lt2 : hz (dgT T p (e - p)) i < 2 ^ 26 := by
      have : 32 ^ i ≤ 32 ^ 5 := Nat.pow_le_pow_right (by decide) (by omega)
      omega
    obtain ⟨M', e1, e2, e3, e4⟩ := ih fu (i + 1) (zsI M 306 23 (nI (hz (dgT T p (e - p)) (i + 1)))) (by omega) (by omega) hMR (fun a b q => by rw [zsI_ne (by omega)]; exact hI a b q) (zsI_at _ _ _ _)
    refine ⟨M', ?_, e2, e3, e4⟩
    rw [← e1]
    by_cases q : e ≤ p + i
    · have st : (nI (hz (dgT T p (e - p)) i) <<< ((5 : Int32) &&& 31)) ||| 0 = nI (hz (dgT T p (e - p)) (i + 1)) := by
        have := nm_st (v := hz (dgT T p (e - p)) i) (d := 0) lt2 (by omega)
        have d0 : dgT T p (e - p) i = 0 := if_neg (by omega)
        show _ = nI (hz (dgT T p (e - p)) i * 32 + dgT T p (e - p) i)
        rw [d0]
        exact this
      simp (disch := first | omega | simp only [qI2, hMR]) only [gX12_name_7, li6, nI_leI, if_neg hc, ↓mH hS, hv, g20, g21, nI_add, if_pos q, nI_1]
      rw [st]
    · have gl := hl i (by omega)
      have g : M.1 307 (p + i) = nI (T (p + i)) := (hI 307 (p + i) (by omega)).trans (hT (p + i) (by omega)).1
      have ev : (nI (T (p + i)) - 97) + 1 = nI (T (p + i) - 96) := by
        rw [show (97 : Int32) = nI 97 from rfl, pk_sub gl.1, nI_1]
        congr 1
        omega
      have st : (nI (hz (dgT T p (e - p)) i) <<< ((5 : Int32) &&& 31)) ||| ((nI (T (p + i)) - 97) + 1) = nI (hz (dgT T p (e - p)) (i + 1)) := by
        rw [ev, nm_st lt2 (by omega)]
        have d0 : dgT T p (e - p) i = T (p + i) - 96 := if_pos (by omega)
        show _ = nI (hz (dgT T p (e - p)) i * 32 + dgT T p (e - p) i)
        rw [d0]
      simp (disch := first | omega | simp only [qI2, hMR]) only [gX12_name_7, li6, nI_leI, if_neg hc, ↓mH hS, hv, g20, g21, nI_add, if_neg q]
      simp (disch := first | omega | simp only [qI2, hMR]) only [↓mG hS, g, st, nI_1]
def nrS (v m : Nat) : Prop := (v ≤ 99999 → m = v) ∧ (99999 < v → 99999 < m) ∧ m ≤ 1000000
theorem m_number {S : List (Nat × Nat)} {R : Nat → Nat → Option Nat} {I : Nat → Nat → Int32} {T : Nat → Nat} {n : Nat} (hx : mTx S R I T n) : ∀ (k fu i v m : Nat) (M : zM), i + k = n → k < fu → v ≤ 1000000 → nrS v m → M.2.2 = R → (∀ a b, ¬ (a = 306 ∧ (b = 20 ∨ b = 23)) → M.1 a b = I a b) → M.1 306 20 = nI i → M.1 306 23 = nI m →
    ∃ (M' : zM) (m' : Nat), gX12_token_162 S fu 306 M = some M' ∧ M'.2.2 = R ∧ (∀ a b, ¬ (a = 306 ∧ (b = 20 ∨ b = 23)) → M'.1 a b = I a b) ∧ M'.1 306 20 = nI (endR isDg T n i) ∧ M'.1 306 23 = nI m' ∧ nrS (nuS T (endR isDg T n i - i) i v) m' := by
  obtain ⟨hS, ⟨hn, h25⟩, h7, hT⟩ := id hx
  intro k
  induction k with
  | zero =>
    intro fu i v m M hk hf hv hr hMR hI h20 h23
    obtain ⟨fu, rfl⟩ : ∃ f, fu = f + 1 := ⟨fu - 1, by omega⟩
    have hh := m_here (S := S) (M := M) (T := T) (n := n) (a := i) (hMR.symm ▸ mTx_cg (fun a b q => hI a b (by omega)) hx) (by omega) h20
    have id0 := m_isDg (S := S) (M := M) (T := T) (n := n) (a := i) (fun h => (hT i h).2)
    have cf : ¬ i < n := by omega
    rw [decide_eq_false cf, Bool.false_and] at id0
    refine ⟨M, m, ?_, hMR, hI, by rw [endR_e (fun h => by omega)]; exact h20, h23, by rw [endR_e (fun h => by omega), Nat.sub_self]; exact hr⟩
    simp (disch := first | omega | simp only [qI2, hMR]) only [gX12_token_162, ↓mH hS, ↓bind_of hh, ↓bind_of id0, bIf, if_true]
  | succ k ih =>
    intro fu i v m M hk hf hv hr hMR hI h20 h23
    obtain ⟨fu, rfl⟩ : ∃ f, fu = f + 1 := ⟨fu - 1, by omega⟩
    have hh := m_here (S := S) (M := M) (T := T) (n := n) (a := i) (hMR.symm ▸ mTx_cg (fun a b q => hI a b (by omega)) hx) (by omega) h20
    have id0 := m_isDg (S := S) (M := M) (T := T) (n := n) (a := i) (fun h => (hT i h).2)
    have cf : i < n := by omega
    rw [decide_eq_true cf, Bool.true_and] at id0
    cases q : isDg (T i) with
    | false =>
      rw [q] at id0
      refine ⟨M, m, ?_, hMR, hI, by rw [endR_e (fun h => q)]; exact h20, h23, by rw [endR_e (fun h => q), Nat.sub_self]; exact hr⟩
      simp (disch := first | omega | simp only [qI2, hMR]) only [gX12_token_162, ↓mH hS, ↓bind_of hh, ↓bind_of id0, bIf, if_true]
    | true =>
      rw [q] at id0
      have dg : 48 ≤ T i ∧ T i ≤ 57 := of_decide_eq_true q
      have hrv : heS T n i = nI (T i) := if_pos cf
      have eb := (endR_b (p := isDg) (T := T) (n := n) (i := i + 1) (by omega)).1
      have li5 : (99999 : Int32) = nI 99999 := rfl
      rw [endR_s cf q, show endR isDg T n (i + 1) - i = (endR isDg T n (i + 1) - (i + 1)) + 1 by omega]
      obtain ⟨r1, r2, r3⟩ := hr
      by_cases c9 : m ≤ 99999
      · have hm : m = v := by
          rcases Nat.lt_or_ge 99999 v with h | h
          · have := r2 h
            omega
          · exact r1 h
        subst hm
        have ev : ((10 * nI m) + nI (T i)) - 48 = nI (m * 10 + (T i - 48)) := by
          rw [show (10 : Int32) = nI 10 from rfl, show (48 : Int32) = nI 48 from rfl, pk_mul, nI_add, pk_sub (by omega)]
          congr 1
          omega
        obtain ⟨M', m', e1, e2⟩ := ih fu (i + 1) (min 1000000 (m * 10 + (T i - 48))) (m * 10 + (T i - 48)) (zsI (zsI M 306 23 (nI (m * 10 + (T i - 48)))) 306 20 (nI (i + 1))) (by omega) (by omega) (by omega) ⟨fun _ => by omega, fun _ => by omega, by omega⟩ hMR (fun a b q => by rw [zsI_ne (by omega), zsI_ne (by omega)]; exact hI a b q) (zsI_at _ _ _ _) (by rw [zsI_ne (by omega), zsI_at])
        refine ⟨M', m', ?_, e2⟩
        rw [← e1]
        simp (disch := first | omega | simp only [qI2, hMR]) only [gX12_token_162, ↓mH hS, ↓bind_of hh, ↓bind_of id0, if_neg bIt, h23, li5, nI_leI, if_pos c9, hrv, ev, zsI_ne, h20, nI_1]
      · obtain ⟨M', m', e1, e2⟩ := ih fu (i + 1) (min 1000000 (v * 10 + (T i - 48))) m (zsI (zsI M 306 23 (nI m)) 306 20 (nI (i + 1))) (by omega) (by omega) (by omega) ⟨fun h => by
          exfalso
          have : v ≤ 99999 := by omega
          have := r1 this
          omega, fun _ => by omega, r3⟩ hMR (fun a b q => by rw [zsI_ne (by omega), zsI_ne (by omega)]; exact hI a b q) (zsI_at _ _ _ _) (by rw [zsI_ne (by omega), zsI_at])
        refine ⟨M', m', ?_, e2⟩
        rw [← e1]
        simp (disch := first | omega | simp only [qI2, hMR]) only [gX12_token_162, ↓mH hS, ↓bind_of hh, ↓bind_of id0, if_neg bIt, h23, li5, nI_leI, if_neg c9, zsI_ne, h20, nI_1]
