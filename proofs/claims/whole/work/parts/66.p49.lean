/-! pure part 49: fair, the wheel -/
def itr (w : Nat → Nat) : Nat → Nat → Nat
  | 0, x => x
  | k + 1, x => itr w k (w x)
theorem itr_s (w : Nat → Nat) : ∀ k x, itr w (k + 1) x = w (itr w k x)
  | 0, _ => rfl
  | k + 1, x => itr_s w k (w x)
theorem itr_a (w : Nat → Nat) : ∀ a b x, itr w (a + b) x = itr w a (itr w b x)
  | a, 0, _ => rfl
  | a, b + 1, x => itr_a w a b (w x)
theorem itr_per {w : Nat → Nat} {c L : Nat} (h : itr w L c = c) : ∀ q, itr w (q * L) c = c
  | 0 => by rw [Nat.zero_mul]; rfl
  | q + 1 => by rw [Nat.add_mul, Nat.one_mul, itr_a, h, itr_per h q]
theorem itr_inj {w : Nat → Nat} {c L : Nat} (hL : 0 < L) (h : itr w L c = c) {i k : Nat} (e : itr w (i + 1) c = itr w (k + 1) c) : itr w i c = itr w k c := by
  have a : ∀ q, itr w (L - 1) (itr w (q + 1) c) = itr w q c := fun q => by
    rw [← itr_a, show L - 1 + (q + 1) = q + L by omega, itr_a, h]
  rw [← a i, ← a k, e]
abbrev zGe : Type := Nat → Option Nat
def unB (b : Nat → Bool) : Nat → Nat := fun i => b01 (!b i)
theorem sR_pt {g h : Nat → Nat} {x : Nat} : ∀ k i, (∀ j, j ≠ x → h j = g j) → i ≤ x → x < i + k → h x + 1 = g x → sR h k i + 1 = sR g k i
  | 0, i, _, h2, h3, _ => by omega
  | k + 1, i, h1, h2, h3, h4 => by
    show h i + sR h k (i + 1) + 1 = g i + sR g k (i + 1)
    by_cases q : i = x
    · subst q
      rw [sR_cg k (i + 1) (fun j k1 k2 => h1 j (by omega))]
      omega
    · have := sR_pt (x := x) k (i + 1) h1 (by omega) (by omega) h4
      rw [h1 i q]
      omega
theorem sR_b01 (b : Nat → Bool) : ∀ k i, sR (fun j => b01 (b j)) k i ≤ k
  | 0, _ => Nat.le_refl 0
  | k + 1, i => by
    have := sR_b01 b k (i + 1)
    have h2 : b01 (b i) ≤ 1 := by unfold b01; split <;> decide
    show b01 (b i) + sR (fun j => b01 (b j)) k (i + 1) ≤ k + 1
    omega
/-- a walk comes back: the first place met again -/
theorem walk {w : Nat → Nat} {P x : Nat} (hP : ∀ k, itr w k x < P) : ∀ (n m : Nat) (b : Nat → Bool), sR (unB b) P 0 ≤ n → (∀ y, b y = true ↔ ∃ i, i < m ∧ itr w i x = y) → ∃ m2, m ≤ m2 ∧ m2 ≤ m + n ∧ (∃ i, i < m2 ∧ itr w i x = itr w m2 x) ∧ ∀ m1, m ≤ m1 → m1 < m2 → ∀ i, i < m1 → itr w i x ≠ itr w m1 x := by
  intro n
  induction n with
  | zero =>
    intro m b h hb
    have h0 : sR (unB b) P 0 = 0 := by omega
    have h1 := sR_ge (g := unB b) P 0 (itr w m x) (Nat.zero_le _) (by have := hP m; omega)
    have h2 : b (itr w m x) = true := by
      cases q : b (itr w m x) with
      | true => rfl
      | false =>
        have : unB b (itr w m x) = 1 := by unfold unB; rw [q]; rfl
        omega
    obtain ⟨i, k1, k2⟩ := (hb _).1 h2
    exact ⟨m, Nat.le_refl _, by omega, ⟨i, k1, k2⟩, fun m1 k3 k4 => by omega⟩
  | succ n ih =>
    intro m b h hb
    cases q : b (itr w m x) with
    | true =>
      obtain ⟨i, k1, k2⟩ := (hb _).1 q
      exact ⟨m, Nat.le_refl _, by omega, ⟨i, k1, k2⟩, fun m1 k3 k4 => by omega⟩
    | false =>
      have hpt : sR (unB (upB b (itr w m x))) P 0 + 1 = sR (unB b) P 0 := by
        refine sR_pt (x := itr w m x) P 0 (fun j hj => ?_) (Nat.zero_le _) (by have := hP m; omega) ?_
        · unfold unB upB; rw [if_neg hj]
        · unfold unB upB; rw [if_pos rfl, q]; rfl
      obtain ⟨m2, k1, k2, k3, k4⟩ := ih (m + 1) (upB b (itr w m x)) (by omega) (fun y => by
        unfold upB
        constructor
        · intro hy
          by_cases e : y = itr w m x
          · exact ⟨m, Nat.lt_succ_self _, e.symm⟩
          · rw [if_neg e] at hy
            obtain ⟨i, j1, j2⟩ := (hb y).1 hy
            exact ⟨i, by omega, j2⟩
        · rintro ⟨i, j1, j2⟩
          by_cases e : y = itr w m x
          · rw [if_pos e]
          · rw [if_neg e]
            have : i ≠ m := fun h => e (by rw [← j2, h])
            exact (hb y).2 ⟨i, by omega, j2⟩)
      refine ⟨m2, by omega, by omega, k3, fun m1 k5 k6 => ?_⟩
      by_cases e : m1 = m
      · subst e
        intro i j1 j2
        have := (hb (itr w m1 x)).2 ⟨i, j1, j2⟩
        rw [q] at this
        cases this
      · exact k4 m1 (by omega) k6
theorem walk0 {w : Nat → Nat} {P x : Nat} (hP : ∀ k, itr w k x < P) : ∃ m, m ≤ P ∧ (∃ i, i < m ∧ itr w i x = itr w m x) ∧ ∀ m1, m1 < m → ∀ i, i < m1 → itr w i x ≠ itr w m1 x := by
  have h := sR_b01 (fun i => !(fun _ : Nat => false) i) P 0
  obtain ⟨m, _, k2, k3, k4⟩ := walk hP P 0 (fun _ => false) h (fun y => ⟨fun h => (by cases h), fun ⟨i, h1, _⟩ => (by omega)⟩)
  exact ⟨m, by omega, k3, fun m1 h => k4 m1 (Nat.zero_le _) h⟩
/-- the ring that the walk from x ends in, closed -/
def Rnd (w ls : Nat → Nat) (P x : Nat) (G G' : zGe) : Prop := (∀ k, P ≤ k → G' (itr w (k + 1) x) = some (ls (itr w k x))) ∧ ∀ y, (∀ k, P ≤ k → y ≠ itr w k x) → G' y = G y
theorem ring_end {w ls : Nat → Nat} {P x m j L : Nat} {G G' : zGe} (hm : m ≤ P) (hL : 0 < L) (hp : itr w L (itr w m x) = itr w m x) (h1 : ∀ i, i < j → G' (itr w (i + 1) (itr w m x)) = some (ls (itr w i (itr w m x)))) (h2 : ∀ y, (∀ i, i < j → y ≠ itr w (i + 1) (itr w m x)) → G' y = G y) (hc : ∃ i, i < j ∧ itr w (j + 1) (itr w m x) = itr w (i + 1) (itr w m x)) : Rnd w ls P x G G' := by
  have cl : ∀ k, ∃ i, i < j ∧ itr w (k + 1) (itr w m x) = itr w (i + 1) (itr w m x) := by
    intro k
    induction k with
    | zero =>
      obtain ⟨i, k1, _⟩ := hc
      exact ⟨0, by omega, rfl⟩
    | succ k ih =>
      obtain ⟨i, k1, k2⟩ := ih
      have k3 : itr w (k + 1 + 1) (itr w m x) = itr w (i + 1 + 1) (itr w m x) := by rw [itr_s w (k + 1), itr_s w (i + 1), k2]
      by_cases e : i + 1 < j
      · exact ⟨i + 1, e, k3⟩
      · obtain ⟨i2, j1, j2⟩ := hc
        have : i + 1 = j := by omega
        rw [this] at k3
        exact ⟨i2, j1, k3.trans j2⟩
  refine ⟨fun k hk => ?_, fun y hy => h2 y (fun i hi e => ?_)⟩
  · obtain ⟨i, k1, k2⟩ := cl (k - m)
    have e1 : itr w (k + 1) x = itr w (k - m + 1) (itr w m x) := by rw [← itr_a]; congr 1; omega
    have e2 : itr w k x = itr w (k - m) (itr w m x) := by rw [← itr_a]; congr 1; omega
    rw [e1, e2, k2, h1 i k1, itr_inj hL hp k2]
  · refine hy (i + 1 + P * L + m) ?_ ?_
    · have := Nat.mul_le_mul_left P (show 1 ≤ L from hL)
      omega
    · rw [itr_a, itr_a, itr_per hp]
      exact e
theorem Rnd_u {w ls : Nat → Nat} {P x L : Nat} {G A B : zGe} (hL : 0 < L) (hp : itr w L (itr w P x) = itr w P x) (hA : Rnd w ls P x G A) (hB : Rnd w ls P x G B) : A = B := by
  funext y
  by_cases h : ∃ k, P ≤ k ∧ y = itr w k x
  · obtain ⟨k, k1, k2⟩ := h
    have e : y = itr w (k + (L - 1) + 1) x := by
      rw [show k + (L - 1) + 1 = (k - P) + (L + P) by omega, itr_a, itr_a, hp, ← itr_a, show k - P + P = k by omega, k2]
    rw [e, hA.1 _ (by omega), hB.1 _ (by omega)]
  · have h' : ∀ k, P ≤ k → y ≠ itr w k x := fun k k1 k2 => h ⟨k, k1, k2⟩
    rw [hA.2 y h', hB.2 y h']
theorem per_of {w : Nat → Nat} {P x : Nat} (hP : ∀ k, itr w k x < P) : ∃ L, 0 < L ∧ itr w L (itr w P x) = itr w P x := by
  obtain ⟨m, k1, ⟨i, k2, k3⟩, _⟩ := walk0 hP
  refine ⟨m - i, by omega, ?_⟩
  rw [← itr_a, show m - i + P = (P - i) + m - 0 by omega, Nat.sub_zero, itr_a, ← k3, ← itr_a, show P - i + i = P by omega]
def lfG (G : zGe) : Nat → Nat → Option Nat
  | 0, _ => none
  | k + 1, i => match G i with | none => some i | some _ => lfG G k (i + 1)
theorem lfG_some {G : zGe} : ∀ {k i x : Nat}, lfG G k i = some x → i ≤ x ∧ x < i + k ∧ G x = none ∧ ∀ j, i ≤ j → j < x → G j ≠ none
  | 0, _, _, h => by cases h
  | k + 1, i, x, h => by
    unfold lfG at h
    split at h
    · rename_i q
      cases h
      exact ⟨Nat.le_refl _, by omega, q, fun j h1 h2 => by omega⟩
    · rename_i v q
      obtain ⟨h1, h2, h3, h4⟩ := lfG_some h
      refine ⟨by omega, by omega, h3, fun j k1 k2 => ?_⟩
      by_cases e : j = i
      · rw [e, q]; intro hh; cases hh
      · exact h4 j (by omega) k2
theorem lfG_none {G : zGe} : ∀ {k i : Nat}, lfG G k i = none → ∀ j, i ≤ j → j < i + k → G j ≠ none
  | 0, _, _, _, h1, h2 => by omega
  | k + 1, i, h, j, h1, h2 => by
    unfold lfG at h
    split at h
    · cases h
    · rename_i v q
      by_cases e : j = i
      · rw [e, q]; intro hh; cases hh
      · exact lfG_none h j (by omega) (by omega)
theorem lfG_is {G : zGe} : ∀ {k i x : Nat}, i ≤ x → x < i + k → G x = none → (∀ j, i ≤ j → j < x → G j ≠ none) → lfG G k i = some x
  | 0, _, _, h1, h2, _, _ => by omega
  | k + 1, i, x, h1, h2, h3, h4 => by
    unfold lfG
    by_cases e : i = x
    · subst e; rw [h3]
    · cases q : G i with
      | none => exact absurd q (h4 i (Nat.le_refl _) (by omega))
      | some v => exact lfG_is (by omega) (by omega) h3 (fun j k1 k2 => h4 j (by omega) k2)
theorem lfG_all {G : zGe} : ∀ {k i : Nat}, (∀ j, i ≤ j → j < i + k → G j ≠ none) → lfG G k i = none
  | 0, _, _ => rfl
  | k + 1, i, h => by
    unfold lfG
    cases q : G i with
    | none => exact absurd q (h i (Nat.le_refl _) (by omega))
    | some v => exact lfG_all (fun j k1 k2 => h j (by omega) (by omega))
def wishF (G : zGe) (d : Nat → Nat) : Nat → Nat → Option Nat → Option Nat
  | 0, _, b => b
  | k + 1, x, b => wishF G d k (x + 1) (match G x with | some _ => b | none => match b with | none => some x | some y => if d x < d y then some x else b)
theorem wishF_ok {G : zGe} {d : Nat → Nat} {P : Nat} : ∀ {k x : Nat} {b : Option Nat}, x + k = P → (∀ y, b = some y → y < P ∧ G y = none) → ∀ y, wishF G d k x b = some y → y < P ∧ G y = none
  | 0, _, _, _, hb, y, h => hb y h
  | k + 1, x, b, hk, hb, y, h => by
    refine wishF_ok (k := k) (x := x + 1) (by omega) (fun z hz => ?_) y h
    cases q : G x with
    | some v => rw [q] at hz; exact hb z hz
    | none =>
      rw [q] at hz
      cases b with
      | none => cases hz; exact ⟨by omega, q⟩
      | some u =>
        dsimp only at hz
        split at hz
        · cases hz; exact ⟨by omega, q⟩
        · exact hb z hz
theorem wishF_ex {G : zGe} {d : Nat → Nat} : ∀ {k x : Nat} {b : Option Nat}, (b ≠ none ∨ ∃ y, x ≤ y ∧ y < x + k ∧ G y = none) → wishF G d k x b ≠ none
  | 0, _, b, h => by
    rcases h with h | ⟨y, h1, h2, _⟩
    · exact h
    · omega
  | k + 1, x, b, h => by
    refine wishF_ex (k := k) (x := x + 1) ?_
    rcases h with h | ⟨y, h1, h2, h3⟩
    · left
      cases q : G x with
      | some v => exact h
      | none =>
        cases b with
        | none => exact absurd rfl h
        | some u => dsimp only; split <;> exact Option.some_ne_none _
    · by_cases e : y = x
      · left
        subst e
        rw [h3]
        cases b with
        | none => exact Option.some_ne_none _
        | some u => dsimp only; split <;> exact Option.some_ne_none _
      · right
        exact ⟨y, by omega, by omega, h3⟩
def dP (E : zEn) (K : zKa) (h : Nat) : Nat → Nat := fun x => apN x (mnS E K h)
def wsh (E : zEn) (K : zKa) (G : zGe) : Nat → Nat := fun h => (wishF G (dP E K h) (eP E) 0 none).getD 0
theorem wsh_ok {E : zEn} {K : zKa} {G : zGe} {x : Nat} (hx : x < eP E) (hG : G x = none) (h : Nat) : wishF G (dP E K h) (eP E) 0 none = some (wsh E K G h) ∧ wsh E K G h < eP E ∧ G (wsh E K G h) = none := by
  have h1 := wishF_ex (G := G) (d := dP E K h) (k := eP E) (x := 0) (b := none) (Or.inr ⟨x, by omega, by omega, hG⟩)
  have h2 := wishF_ok (G := G) (d := dP E K h) (P := eP E) (k := eP E) (x := 0) (b := none) (by omega) (fun y hy => by cases hy)
  unfold wsh
  cases q : wishF G (dP E K h) (eP E) 0 none with
  | none => exact absurd q h1
  | some y => exact ⟨rfl, h2 y q⟩
/-- rounds -/
def zFn (E : zEn) (K : zKa) : Nat → zGe → zGe → Prop
  | 0 => fun G G2 => G = G2
  | n + 1 => fun G G2 => ∃ (x : Nat) (G1 : zGe), lfG G (eP E) 0 = some x ∧ Rnd (wsh E K G) (kLs K) (eP E) x G G1 ∧ zFn E K n G1 G2
def zFs (E : zEn) (K : zKa) (G G2 : zGe) : Prop := ∃ n, zFn E K n G G2
theorem zFs.refl {E : zEn} {K : zKa} (G : zGe) : zFs E K G G := ⟨0, rfl⟩
theorem zFs.step {E : zEn} {K : zKa} {G G1 G2 : zGe} {x : Nat} (h1 : lfG G (eP E) 0 = some x) (h2 : Rnd (wsh E K G) (kLs K) (eP E) x G G1) (h3 : zFs E K G1 G2) : zFs E K G G2 := by
  obtain ⟨n, h⟩ := h3
  exact ⟨n + 1, x, G1, h1, h2, h⟩
theorem wsh_lt {E : zEn} {K : zKa} {G : zGe} {x : Nat} (hx : x < eP E) (hG : G x = none) : ∀ k, itr (wsh E K G) k x < eP E ∧ G (itr (wsh E K G) k x) = none
  | 0 => ⟨hx, hG⟩
  | k + 1 => by rw [itr_s]; exact (wsh_ok hx hG _).2
theorem zFn_u {E : zEn} {K : zKa} : ∀ {n m : Nat} {G A B : zGe}, zFn E K n G A → lfG A (eP E) 0 = none → zFn E K m G B → lfG B (eP E) 0 = none → A = B
  | 0, 0, _, _, _, h, _, k, _ => by
    have h' : _ = _ := h
    have k' : _ = _ := k
    rw [← h', ← k']
  | 0, m + 1, _, _, _, h, hA, k, _ => by
    have h' : _ = _ := h
    obtain ⟨x, G1, k1, _⟩ := k
    rw [← h', k1] at hA
    cases hA
  | n + 1, 0, _, _, _, h, _, k, hB => by
    have k' : _ = _ := k
    obtain ⟨x, G1, h1, _⟩ := h
    rw [← k', h1] at hB
    cases hB
  | n + 1, m + 1, G, A, B, h, hA, k, hB => by
    obtain ⟨x, G1, h1, h2, h3⟩ := h
    obtain ⟨x2, G2, k1, k2, k3⟩ := k
    rw [h1] at k1
    cases k1
    have hx := lfG_some h1
    obtain ⟨L, hL, hp⟩ := per_of (w := wsh E K G) (P := eP E) (x := x) (fun k => (wsh_lt (by omega) hx.2.2.1 k).1)
    have e := Rnd_u hL hp h2 k2
    subst e
    exact zFn_u h3 hA k3 hB
theorem zFs_u {E : zEn} {K : zKa} {G A B : zGe} (h : zFs E K G A) (hA : lfG A (eP E) 0 = none) (k : zFs E K G B) (hB : lfG B (eP E) 0 = none) : A = B := by
  obtain ⟨n, h⟩ := h
  obtain ⟨m, k⟩ := k
  exact zFn_u h hA k hB
theorem zFn_t {E : zEn} {K : zKa} : ∀ {n : Nat} {A B C : zGe}, zFn E K n A B → zFs E K B C → zFs E K A C
  | 0, _, _, _, h, k => by
    have h' : _ = _ := h
    rw [h']; exact k
  | n + 1, _, _, _, h, k => by
    obtain ⟨x, G1, h1, h2, h3⟩ := h
    exact zFs.step h1 h2 (zFn_t h3 k)
theorem zFs_t {E : zEn} {K : zKa} {A B C : zGe} (h : zFs E K A B) (k : zFs E K B C) : zFs E K A C := by
  obtain ⟨n, h⟩ := h
  exact zFn_t h k
def unG (G : zGe) (P : Nat) : Nat := sR (fun i => b01 (G i).isNone) P 0
theorem unG_0 {G : zGe} {P x : Nat} (hx : x < P) (hG : G x = none) : 0 < unG G P := by
  have := sR_ge (g := fun i => b01 (G i).isNone) P 0 x (Nat.zero_le _) (by omega)
  have h2 : b01 (G x).isNone = 1 := by rw [hG]; rfl
  have h3 : 1 ≤ unG G P := by unfold unG; rw [← h2]; exact this
  omega
theorem sR_mono {g h : Nat → Nat} : ∀ k i, (∀ j, h j ≤ g j) → sR h k i ≤ sR g k i
  | 0, _, _ => Nat.le_refl _
  | k + 1, i, e => by
    have := sR_mono k (i + 1) e
    have := e i
    show h i + sR h k (i + 1) ≤ g i + sR g k (i + 1)
    omega
theorem sR_less {g h : Nat → Nat} {x : Nat} : ∀ k i, (∀ j, h j ≤ g j) → i ≤ x → x < i + k → h x < g x → sR h k i < sR g k i
  | 0, i, _, h2, h3, _ => by omega
  | k + 1, i, h1, h2, h3, h4 => by
    show h i + sR h k (i + 1) < g i + sR g k (i + 1)
    by_cases q : i = x
    · subst q
      have := sR_mono k (i + 1) h1
      omega
    · have := sR_less (x := x) k (i + 1) h1 (by omega) (by omega) h4
      have := h1 i
      omega
theorem Rnd_mono {w ls : Nat → Nat} {P x L : Nat} {G G' : zGe} (hL : 0 < L) (hp : itr w L (itr w P x) = itr w P x) (h : Rnd w ls P x G G') {y : Nat} (hy : G y ≠ none) : G' y ≠ none := by
  by_cases q : ∃ k, P ≤ k ∧ y = itr w k x
  · obtain ⟨k, k1, k2⟩ := q
    have e : y = itr w (k + (L - 1) + 1) x := by
      rw [show k + (L - 1) + 1 = (k - P) + (L + P) by omega, itr_a, itr_a, hp, ← itr_a, show k - P + P = k by omega, k2]
    rw [e, h.1 _ (by omega)]
    exact Option.some_ne_none _
  · rw [h.2 y (fun k k1 k2 => q ⟨k, k1, k2⟩)]
    exact hy
theorem Rnd_un {w ls : Nat → Nat} {P x L : Nat} {G G' : zGe} (hL : 0 < L) (hp : itr w L (itr w P x) = itr w P x) (hx : ∀ k, itr w k x < P ∧ G (itr w k x) = none) (h : Rnd w ls P x G G') : unG G' P < unG G P := by
  refine sR_less (x := itr w (P + 1) x) P 0 (fun j => ?_) (Nat.zero_le _) (by have := (hx (P + 1)).1; omega) ?_
  · cases q : G j with
    | none =>
      cases G' j with
      | none => exact Nat.le_refl _
      | some u => exact Nat.zero_le 1
    | some v =>
      have := Rnd_mono hL hp h (y := j) (by rw [q]; exact Option.some_ne_none _)
      cases q2 : G' j with
      | none => exact absurd q2 this
      | some u => exact Nat.le_refl _
  · rw [(hx (P + 1)).2, h.1 P (Nat.le_refl _)]
    exact Nat.zero_lt_one
