/-! pure part 64: the tokens; the model's signs, token -/
def mSv (k v : Nat) (s x : Int32) : Prop := (k = 0 → s = 4) ∧ (k = 1 → s = 5) ∧ (k = 2 → s = 1 ∧ x = nI v) ∧ (k = 3 → s = 0 ∧ x = nI v) ∧ (k = 4 → s = 2 ∧ ∃ m, x = nI m ∧ nrS v m) ∧ (k = 5 → s = 3 ∧ x = 59) ∧ (k = 6 → s = 3 ∧ x = 40) ∧ (k = 7 → s = 3 ∧ x = 41) ∧ (k = 8 → (v ≤ 5 → s = 0 ∧ x = nI (v + 7)) ∧ (6 ≤ v → s = 3 ∧ x = nI (cdM v)))
def mTk (I : Nat → Nat → Int32) (tk : zTk) : Prop := I 306 20 = nI tk.2.2.2 ∧ I 306 21 = nI tk.2.2.1 ∧ mSv tk.1 tk.2.1 (I 306 22) (I 306 23)
theorem mSv5 {x : Int32} (h : x = 59) : mSv 5 0 3 x := ⟨fun h => (by cases h), fun h => (by cases h), fun h => (by cases h), fun h => (by cases h), fun h => (by cases h), fun _ => ⟨rfl, h⟩, fun h => (by cases h), fun h => (by cases h), fun h => (by cases h)⟩
theorem mSv6 {x : Int32} (h : x = 40) : mSv 6 0 3 x := ⟨fun h => (by cases h), fun h => (by cases h), fun h => (by cases h), fun h => (by cases h), fun h => (by cases h), fun h => (by cases h), fun _ => ⟨rfl, h⟩, fun h => (by cases h), fun h => (by cases h)⟩
theorem mSv7 {x : Int32} (h : x = 41) : mSv 7 0 3 x := ⟨fun h => (by cases h), fun h => (by cases h), fun h => (by cases h), fun h => (by cases h), fun h => (by cases h), fun h => (by cases h), fun h => (by cases h), fun _ => ⟨rfl, h⟩, fun h => (by cases h)⟩
theorem mSv1 {x : Int32} {v : Nat} : mSv 1 v 5 x := ⟨fun h => (by cases h), fun _ => rfl, fun h => (by cases h), fun h => (by cases h), fun h => (by cases h), fun h => (by cases h), fun h => (by cases h), fun h => (by cases h), fun h => (by cases h)⟩
theorem mSv0 {x : Int32} {v : Nat} : mSv 0 v 4 x := ⟨fun _ => rfl, fun h => (by cases h), fun h => (by cases h), fun h => (by cases h), fun h => (by cases h), fun h => (by cases h), fun h => (by cases h), fun h => (by cases h), fun h => (by cases h)⟩
theorem mSv2 {x : Int32} {v : Nat} (h : x = nI v) : mSv 2 v 1 x := ⟨fun h => (by cases h), fun h => (by cases h), fun _ => ⟨rfl, h⟩, fun h => (by cases h), fun h => (by cases h), fun h => (by cases h), fun h => (by cases h), fun h => (by cases h), fun h => (by cases h)⟩
theorem mSv3 {x : Int32} {v : Nat} (h : x = nI v) : mSv 3 v 0 x := ⟨fun h => (by cases h), fun h => (by cases h), fun h => (by cases h), fun _ => ⟨rfl, h⟩, fun h => (by cases h), fun h => (by cases h), fun h => (by cases h), fun h => (by cases h), fun h => (by cases h)⟩
theorem mSv4 {x : Int32} {v m : Nat} (h : x = nI m) (hr : nrS v m) : mSv 4 v 2 x := ⟨fun h => (by cases h), fun h => (by cases h), fun h => (by cases h), fun h => (by cases h), fun _ => ⟨rfl, m, h, hr⟩, fun h => (by cases h), fun h => (by cases h), fun h => (by cases h), fun h => (by cases h)⟩
theorem mSv8 {s x : Int32} {v : Nat} (h1 : v ≤ 5 → s = 0 ∧ x = nI (v + 7)) (h2 : 6 ≤ v → s = 3 ∧ x = nI (cdM v)) : mSv 8 v s x := ⟨fun h => (by cases h), fun h => (by cases h), fun h => (by cases h), fun h => (by cases h), fun h => (by cases h), fun h => (by cases h), fun h => (by cases h), fun h => (by cases h), fun _ => ⟨h1, h2⟩⟩
theorem hb_61 {T : Nat → Nat} {n q : Nat} (hT : q < n → T q < 256) (x : Nat) (hx : 0 < x) (hx2 : x < 256) : heS T n q = nI x ↔ (if q < n then T q else 0) = x := by
  unfold heS
  by_cases h : q < n
  · rw [if_pos h, if_pos h]
    have := hT h
    exact nI_eq (by omega) (by omega)
  · rw [if_neg h, if_neg h]
    exact ⟨fun e => absurd e.symm (nI_m1ne (by omega)), fun e => by omega⟩
theorem m_s76 {S : List (Nat × Nat)} {M : zM} {T : Nat → Nat} {n c p : Nat} {s : Int32} (hx : mTx S M.2.2 M.1 T n) (hp : p < n) (hc : c < 256) (h20 : M.1 306 20 = nI (p + 1)) (h21 : M.1 306 21 = nI p) (hs : ∀ x : Int32, x = nI c → ¬ c = 60 → ¬ c = 62 → mSv (sgT c 0 p).1 (sgT c 0 p).2.1 s x ∧ ∀ b, sgT c b p = sgT c 0 p ∧ (sgT c 0 p).2.2.2 = p + 1) (hs3 : (c = 60 ∨ c = 62) → s = 3) : ∃ M', gX12_sign_76 S 306 (nI c) s 306 M = some M' ∧ M'.2.2 = M.2.2 ∧ (∀ a b, ¬ qTk a b → M'.1 a b = M.1 a b) ∧ mTk M'.1 (sgT c (if p + 1 < n then T (p + 1) else 0) p) := by
  obtain ⟨hS, ⟨hn, h25⟩, h7, hT⟩ := id hx
  have hh : ∀ M' : zM, M'.2.2 = M.2.2 → (∀ a b, ¬ (a = 306 ∧ (b = 22 ∨ b = 23)) → M'.1 a b = M.1 a b) → gX12_here S 306 M' = some (heS T n (p + 1)) := fun M' r o => m_here (S := S) (M := M') (T := T) (n := n) (a := p + 1) (r ▸ mTx_cg (fun a b q => o a b (by omega)) hx) (by omega) ((o 306 20 (by omega)).trans h20)
  have i61 := hb_61 (T := T) (n := n) (q := p + 1) (fun h => (hT _ h).2) 61 (by decide) (by decide)
  have i62 := hb_61 (T := T) (n := n) (q := p + 1) (fun h => (hT _ h).2) 62 (by decide) (by decide)
  generalize hb : (if p + 1 < n then T (p + 1) else 0) = b at i61 i62 ⊢
  have o2 : ∀ x y : Int32, ∀ a b, ¬ (a = 306 ∧ (b = 22 ∨ b = 23)) → (zsI (zsI M 306 22 x) 306 23 y).1 a b = M.1 a b := fun x y a b q => by rw [zsI_ne (by omega), zsI_ne (by omega)]
  have o3 : ∀ x y z : Int32, ∀ a b, ¬ (a = 306 ∧ (b = 22 ∨ b = 23)) → (zsI (zsI (zsI M 306 22 x) 306 23 y) 306 23 z).1 a b = M.1 a b := fun x y z a b q => by rw [zsI_ne (by omega), zsI_ne (by omega), zsI_ne (by omega)]
  have h2 := fun x y => hh (zsI (zsI M 306 22 x) 306 23 y) rfl (o2 x y)
  have h3 := fun x y z => hh (zsI (zsI (zsI M 306 22 x) 306 23 y) 306 23 z) rfl (o3 x y z)
  by_cases c60 : c = 60
  · have n62 : ¬ c = 62 := by omega
    have s3 := hs3 (Or.inl c60)
    by_cases b61 : b = 61
    · have v1 := i61.2 b61
      have v2 : ¬ heS T n (p + 1) = nI 62 := fun h => by have := i62.1 h; omega
      have e : sgT c b p = (8, 7, p, p + 2) := by
        unfold sgT
        rw [if_neg (by omega), if_neg (by omega), if_neg (by omega), if_neg (by omega), if_neg (by omega), if_neg (by omega), if_neg (by omega), if_pos c60, if_pos b61]
      rw [e]
      refine ⟨zsI (zsI (zsI (zsI M 306 22 s) 306 23 (nI c)) 306 23 256) 306 20 (nI (p + 2)), ?_, rfl, fun a b q => by unfold qTk at q; rw [zsI_ne (by omega), zsI_ne (by omega), zsI_ne (by omega), zsI_ne (by omega)], zsI_at _ _ _ _, ?_, ?_⟩
      · have g256 : ¬ (256 : Int32) < 256 := by decide
        simp (disch := first | omega | simp only [qI2, qL2, qC2, qF2]) only [gX12_sign_76, lt60, lt61, lt62, ↓mH hS, nI_eq, if_pos c60, ↓bind_of (h2 s (nI c)), if_pos v1, ↓bind_of (h3 s (nI c) 256), if_neg v2, gX12_sign_128, if_neg n62, zsI_at, if_neg g256, zsI_ne, h20, nI_1]
      · rw [zsI_ne (by omega), zsI_ne (by omega), zsI_ne (by omega), zsI_ne (by omega)]; exact h21
      · refine mSv8 (v := 7) (fun h => absurd h (by decide)) (fun _ => ⟨?_, ?_⟩)
        · rw [zsI_ne (by omega), zsI_ne (by omega), zsI_ne (by omega), zsI_at]; exact s3
        · rw [zsI_ne (by omega), zsI_at]; rfl
    · have v1 : ¬ heS T n (p + 1) = nI 61 := fun h => b61 (i61.1 h)
      by_cases b62 : b = 62
      · have v2 := i62.2 b62
        have e : sgT c b p = (8, 9, p, p + 2) := by
          unfold sgT
          rw [if_neg (by omega), if_neg (by omega), if_neg (by omega), if_neg (by omega), if_neg (by omega), if_neg (by omega), if_neg (by omega), if_pos c60, if_neg b61, if_pos b62]
        rw [e]
        refine ⟨zsI (zsI (zsI (zsI M 306 22 s) 306 23 (nI c)) 306 23 257) 306 20 (nI (p + 2)), ?_, rfl, fun a b q => by unfold qTk at q; rw [zsI_ne (by omega), zsI_ne (by omega), zsI_ne (by omega), zsI_ne (by omega)], zsI_at _ _ _ _, ?_, ?_⟩
        · have g256 : ¬ (257 : Int32) < 256 := by decide
          simp (disch := first | omega | simp only [qI2, qL2, qC2, qF2]) only [gX12_sign_76, lt60, lt61, lt62, ↓mH hS, nI_eq, if_pos c60, ↓bind_of (h2 s (nI c)), if_neg v1, if_pos v2, gX12_sign_128, if_neg n62, zsI_at, if_neg g256, zsI_ne, h20, nI_1]
        · rw [zsI_ne (by omega), zsI_ne (by omega), zsI_ne (by omega), zsI_ne (by omega)]; exact h21
        · refine mSv8 (v := 9) (fun h => absurd h (by decide)) (fun _ => ⟨?_, ?_⟩)
          · rw [zsI_ne (by omega), zsI_ne (by omega), zsI_ne (by omega), zsI_at]; exact s3
          · rw [zsI_ne (by omega), zsI_at]; rfl
      · have v2 : ¬ heS T n (p + 1) = nI 62 := fun h => b62 (i62.1 h)
        have e : sgT c b p = (8, 6, p, p + 1) := by
          unfold sgT
          rw [if_neg (by omega), if_neg (by omega), if_neg (by omega), if_neg (by omega), if_neg (by omega), if_neg (by omega), if_neg (by omega), if_pos c60, if_neg b61, if_neg b62]
        rw [e]
        refine ⟨zsI (zsI M 306 22 s) 306 23 (nI c), ?_, rfl, fun a b q => by unfold qTk at q; rw [zsI_ne (by omega), zsI_ne (by omega)], ?_, ?_, ?_⟩
        · have g256 : nI c < 256 := nI_lt (b := 256) (by omega) (by omega)
          simp (disch := first | omega | simp only [qI2, qL2, qC2, qF2]) only [gX12_sign_76, lt60, lt61, lt62, ↓mH hS, nI_eq, if_pos c60, ↓bind_of (h2 s (nI c)), if_neg v1, if_neg v2, gX12_sign_128, if_neg n62, zsI_at, if_pos g256]
        · rw [zsI_ne (by omega), zsI_ne (by omega)]; exact h20
        · rw [zsI_ne (by omega), zsI_ne (by omega)]; exact h21
        · refine mSv8 (v := 6) (fun h => absurd h (by decide)) (fun _ => ⟨?_, ?_⟩)
          · rw [zsI_ne (by omega), zsI_at]; exact s3
          · rw [zsI_at, c60]; rfl
  · by_cases c62 : c = 62
    · have s3 := hs3 (Or.inr c62)
      by_cases b61 : b = 61
      · have v1 := i61.2 b61
        have e : sgT c b p = (8, 10, p, p + 2) := by
          unfold sgT
          rw [if_neg (by omega), if_neg (by omega), if_neg (by omega), if_neg (by omega), if_neg (by omega), if_neg (by omega), if_neg (by omega), if_neg c60, if_neg (by omega), if_pos c62, if_pos b61]
        rw [e]
        refine ⟨zsI (zsI (zsI (zsI M 306 22 s) 306 23 (nI c)) 306 23 258) 306 20 (nI (p + 2)), ?_, rfl, fun a b q => by unfold qTk at q; rw [zsI_ne (by omega), zsI_ne (by omega), zsI_ne (by omega), zsI_ne (by omega)], zsI_at _ _ _ _, ?_, ?_⟩
        · have g256 : ¬ (258 : Int32) < 256 := by decide
          simp (disch := first | omega | simp only [qI2, qL2, qC2, qF2]) only [gX12_sign_76, lt60, lt61, lt62, ↓mH hS, nI_eq, if_neg c60, gX12_sign_128, if_pos c62, ↓bind_of (h2 s (nI c)), if_pos v1, zsI_at, if_neg g256, zsI_ne, h20, nI_1]
        · rw [zsI_ne (by omega), zsI_ne (by omega), zsI_ne (by omega), zsI_ne (by omega)]; exact h21
        · refine mSv8 (v := 10) (fun h => absurd h (by decide)) (fun _ => ⟨?_, ?_⟩)
          · rw [zsI_ne (by omega), zsI_ne (by omega), zsI_ne (by omega), zsI_at]; exact s3
          · rw [zsI_ne (by omega), zsI_at]; rfl
      · have v1 : ¬ heS T n (p + 1) = nI 61 := fun h => b61 (i61.1 h)
        have e : sgT c b p = (8, 11, p, p + 1) := by
          unfold sgT
          rw [if_neg (by omega), if_neg (by omega), if_neg (by omega), if_neg (by omega), if_neg (by omega), if_neg (by omega), if_neg (by omega), if_neg c60, if_neg (by omega), if_pos c62, if_neg b61]
        rw [e]
        refine ⟨zsI (zsI M 306 22 s) 306 23 (nI c), ?_, rfl, fun a b q => by unfold qTk at q; rw [zsI_ne (by omega), zsI_ne (by omega)], ?_, ?_, ?_⟩
        · have g256 : nI c < 256 := nI_lt (b := 256) (by omega) (by omega)
          simp (disch := first | omega | simp only [qI2, qL2, qC2, qF2]) only [gX12_sign_76, lt60, lt61, lt62, ↓mH hS, nI_eq, if_neg c60, gX12_sign_128, if_pos c62, ↓bind_of (h2 s (nI c)), if_neg v1, zsI_at, if_pos g256]
        · rw [zsI_ne (by omega), zsI_ne (by omega)]; exact h20
        · rw [zsI_ne (by omega), zsI_ne (by omega)]; exact h21
        · refine mSv8 (v := 11) (fun h => absurd h (by decide)) (fun _ => ⟨?_, ?_⟩)
          · rw [zsI_ne (by omega), zsI_at]; exact s3
          · rw [zsI_at, c62]; rfl
    · obtain ⟨k1, k2⟩ := hs (nI c) rfl c60 c62
      rw [(k2 b).1]
      refine ⟨zsI (zsI M 306 22 s) 306 23 (nI c), ?_, rfl, fun a b q => by unfold qTk at q; rw [zsI_ne (by omega), zsI_ne (by omega)], ?_, ?_, ?_⟩
      · have g256 : nI c < 256 := nI_lt (b := 256) (by omega) (by omega)
        simp (disch := first | omega | simp only [qI2, qL2, qC2, qF2]) only [gX12_sign_76, lt60, lt61, lt62, ↓mH hS, nI_eq, if_neg c60, gX12_sign_128, if_neg c62, zsI_at, if_pos g256]
      · rw [zsI_ne (by omega), zsI_ne (by omega), (k2 0).2]; exact h20
      · rw [zsI_ne (by omega), zsI_ne (by omega), sgT_b]; exact h21
      · rw [zsI_ne (by omega), zsI_at, zsI_at]
        exact k1
theorem m_sign {S : List (Nat × Nat)} {M : zM} {T : Nat → Nat} {n p : Nat} (hx : mTx S M.2.2 M.1 T n) (hp : p < n) (h20 : M.1 306 20 = nI p) (h21 : M.1 306 21 = nI p) : ∃ M', gX12_sign S 306 (nI (T p)) M = some M' ∧ M'.2.2 = M.2.2 ∧ (∀ a b, ¬ qTk a b → M'.1 a b = M.1 a b) ∧ mTk M'.1 (sgT (T p) (if p + 1 < n then T (p + 1) else 0) p) := by
  obtain ⟨hS, ⟨hn, h25⟩, h7, hT⟩ := id hx
  have t256 := (hT p hp).2
  generalize hc : T p = c at t256
  have hx2 : mTx S (zsI M 306 20 (nI (p + 1))).2.2 (zsI M 306 20 (nI (p + 1))).1 T n := mTx_cg (fun a b q => zsI_ne (by omega)) hx
  have h20' : (zsI M 306 20 (nI (p + 1))).1 306 20 = nI (p + 1) := zsI_at _ _ _ _
  have h21' : (zsI M 306 20 (nI (p + 1))).1 306 21 = nI p := by rw [zsI_ne (by omega)]; exact h21
  have fin : ∀ s : Int32, gX12_sign S 306 (nI c) M = gX12_sign_76 S 306 (nI c) s 306 (zsI M 306 20 (nI (p + 1))) → (∀ x : Int32, x = nI c → ¬ c = 60 → ¬ c = 62 → mSv (sgT c 0 p).1 (sgT c 0 p).2.1 s x ∧ ∀ b, sgT c b p = sgT c 0 p ∧ (sgT c 0 p).2.2.2 = p + 1) → ((c = 60 ∨ c = 62) → s = 3) → ∃ M', gX12_sign S 306 (nI c) M = some M' ∧ M'.2.2 = M.2.2 ∧ (∀ a b, ¬ qTk a b → M'.1 a b = M.1 a b) ∧ mTk M'.1 (sgT c (if p + 1 < n then T (p + 1) else 0) p) := by
    intro s hg hs hs3
    obtain ⟨M', e1, e2, e3, e4⟩ := m_s76 hx2 hp t256 h20' h21' hs hs3
    exact ⟨M', hg.trans e1, e2, fun a b q => by rw [e3 a b q, zsI_ne (by unfold qTk at q; omega)], e4⟩
  by_cases h59 : c = 59
  · refine fin 3 ?_ ?_ (fun _ => rfl)
    · simp (disch := first | omega | simp only [qI2, qL2, qC2, qF2]) only [gX12_sign, lt40, lt41, lt42, lt43, lt45, lt47, lt59, lt60, lt61, lt62, ↓mH hS, h20, nI_1, nI_eq, if_pos h59]
    · intro x hx _ _
      have e : ∀ b, sgT c b p = (5, 0, p, p + 1) := fun b => by
        unfold sgT
        rw [if_neg (by omega), if_neg (by omega), if_neg (by omega), if_neg (by omega), if_neg (by omega), if_neg (by omega), if_pos h59]
      rw [e 0]
      exact ⟨mSv5 (by rw [hx, h59]; rfl), fun b => ⟨by rw [e b], rfl⟩⟩
  have n59 := h59
  by_cases h40 : c = 40
  · refine fin 3 ?_ ?_ (fun _ => rfl)
    · simp (disch := first | omega | simp only [qI2, qL2, qC2, qF2]) only [gX12_sign, lt40, lt41, lt42, lt43, lt45, lt47, lt59, lt60, lt61, lt62, ↓mH hS, h20, nI_1, nI_eq, if_neg n59, if_pos h40]
    · intro x hx _ _
      have e : ∀ b, sgT c b p = (6, 0, p, p + 1) := fun b => by
        unfold sgT
        rw [if_pos h40]
      rw [e 0]
      exact ⟨mSv6 (by rw [hx, h40]; rfl), fun b => ⟨by rw [e b], rfl⟩⟩
  have n40 := h40
  by_cases h41 : c = 41
  · refine fin 3 ?_ ?_ (fun _ => rfl)
    · simp (disch := first | omega | simp only [qI2, qL2, qC2, qF2]) only [gX12_sign, lt40, lt41, lt42, lt43, lt45, lt47, lt59, lt60, lt61, lt62, ↓mH hS, h20, nI_1, nI_eq, if_neg n59, if_neg n40, if_pos h41]
    · intro x hx _ _
      have e : ∀ b, sgT c b p = (7, 0, p, p + 1) := fun b => by
        unfold sgT
        rw [if_neg (by omega), if_pos h41]
      rw [e 0]
      exact ⟨mSv7 (by rw [hx, h41]; rfl), fun b => ⟨by rw [e b], rfl⟩⟩
  have n41 := h41
  by_cases h43 : c = 43
  · refine fin 3 ?_ ?_ (fun _ => rfl)
    · simp (disch := first | omega | simp only [qI2, qL2, qC2, qF2]) only [gX12_sign, lt40, lt41, lt42, lt43, lt45, lt47, lt59, lt60, lt61, lt62, ↓mH hS, h20, nI_1, nI_eq, if_neg n59, if_neg n40, if_neg n41, if_pos h43]
    · intro x hx _ _
      have e : ∀ b, sgT c b p = (8, 12, p, p + 1) := fun b => by
        unfold sgT
        rw [if_neg (by omega), if_neg (by omega), if_neg (by omega), if_pos h43]
      rw [e 0]
      exact ⟨mSv8 (v := 12) (fun h => absurd h (by decide)) (fun _ => ⟨rfl, by rw [hx, h43]; rfl⟩), fun b => ⟨by rw [e b], rfl⟩⟩
  have n43 := h43
  by_cases h45 : c = 45
  · refine fin 3 ?_ ?_ (fun _ => rfl)
    · simp (disch := first | omega | simp only [qI2, qL2, qC2, qF2]) only [gX12_sign, lt40, lt41, lt42, lt43, lt45, lt47, lt59, lt60, lt61, lt62, ↓mH hS, h20, nI_1, nI_eq, if_neg n59, if_neg n40, if_neg n41, if_neg n43, if_pos h45]
    · intro x hx _ _
      have e : ∀ b, sgT c b p = (8, 13, p, p + 1) := fun b => by
        unfold sgT
        rw [if_neg (by omega), if_neg (by omega), if_neg (by omega), if_neg (by omega), if_pos h45]
      rw [e 0]
      exact ⟨mSv8 (v := 13) (fun h => absurd h (by decide)) (fun _ => ⟨rfl, by rw [hx, h45]; rfl⟩), fun b => ⟨by rw [e b], rfl⟩⟩
  have n45 := h45
  by_cases h42 : c = 42
  · refine fin 3 ?_ ?_ (fun _ => rfl)
    · simp (disch := first | omega | simp only [qI2, qL2, qC2, qF2]) only [gX12_sign, lt40, lt41, lt42, lt43, lt45, lt47, lt59, lt60, lt61, lt62, ↓mH hS, h20, nI_1, nI_eq, if_neg n59, if_neg n40, if_neg n41, if_neg n43, if_neg n45, if_pos h42]
    · intro x hx _ _
      have e : ∀ b, sgT c b p = (8, 14, p, p + 1) := fun b => by
        unfold sgT
        rw [if_neg (by omega), if_neg (by omega), if_pos h42]
      rw [e 0]
      exact ⟨mSv8 (v := 14) (fun h => absurd h (by decide)) (fun _ => ⟨rfl, by rw [hx, h42]; rfl⟩), fun b => ⟨by rw [e b], rfl⟩⟩
  have n42 := h42
  by_cases h47 : c = 47
  · refine fin 3 ?_ ?_ (fun _ => rfl)
    · simp (disch := first | omega | simp only [qI2, qL2, qC2, qF2]) only [gX12_sign, lt40, lt41, lt42, lt43, lt45, lt47, lt59, lt60, lt61, lt62, ↓mH hS, h20, nI_1, nI_eq, if_neg n59, if_neg n40, if_neg n41, if_neg n43, if_neg n45, if_neg n42, if_pos h47]
    · intro x hx _ _
      have e : ∀ b, sgT c b p = (8, 15, p, p + 1) := fun b => by
        unfold sgT
        rw [if_neg (by omega), if_neg (by omega), if_neg (by omega), if_neg (by omega), if_neg (by omega), if_pos h47]
      rw [e 0]
      exact ⟨mSv8 (v := 15) (fun h => absurd h (by decide)) (fun _ => ⟨rfl, by rw [hx, h47]; rfl⟩), fun b => ⟨by rw [e b], rfl⟩⟩
  have n47 := h47
  by_cases h60 : c = 60
  · refine fin 3 ?_ ?_ (fun _ => rfl)
    · simp (disch := first | omega | simp only [qI2, qL2, qC2, qF2]) only [gX12_sign, lt40, lt41, lt42, lt43, lt45, lt47, lt59, lt60, lt61, lt62, ↓mH hS, h20, nI_1, nI_eq, if_neg n59, if_neg n40, if_neg n41, if_neg n43, if_neg n45, if_neg n42, if_neg n47, if_pos h60]
    · intro x hx n60 n62; exact absurd h60 n60
  have n60 := h60
  by_cases h61 : c = 61
  · refine fin 3 ?_ ?_ (fun _ => rfl)
    · simp (disch := first | omega | simp only [qI2, qL2, qC2, qF2]) only [gX12_sign, lt40, lt41, lt42, lt43, lt45, lt47, lt59, lt60, lt61, lt62, ↓mH hS, h20, nI_1, nI_eq, if_neg n59, if_neg n40, if_neg n41, if_neg n43, if_neg n45, if_neg n42, if_neg n47, if_neg n60, if_pos h61]
    · intro x hx _ _
      have e : ∀ b, sgT c b p = (8, 8, p, p + 1) := fun b => by
        unfold sgT
        rw [if_neg (by omega), if_neg (by omega), if_neg (by omega), if_neg (by omega), if_neg (by omega), if_neg (by omega), if_neg (by omega), if_neg (by omega), if_pos h61]
      rw [e 0]
      exact ⟨mSv8 (v := 8) (fun h => absurd h (by decide)) (fun _ => ⟨rfl, by rw [hx, h61]; rfl⟩), fun b => ⟨by rw [e b], rfl⟩⟩
  have n61 := h61
  by_cases h62 : c = 62
  · refine fin 3 ?_ ?_ (fun _ => rfl)
    · simp (disch := first | omega | simp only [qI2, qL2, qC2, qF2]) only [gX12_sign, lt40, lt41, lt42, lt43, lt45, lt47, lt59, lt60, lt61, lt62, ↓mH hS, h20, nI_1, nI_eq, if_neg n59, if_neg n40, if_neg n41, if_neg n43, if_neg n45, if_neg n42, if_neg n47, if_neg n60, if_neg n61, if_pos h62]
    · intro x hx n60 n62; exact absurd h62 n62
  have n62 := h62
  refine fin 5 ?_ ?_ (fun h => by omega)
  · simp (disch := first | omega | simp only [qI2, qL2, qC2, qF2]) only [gX12_sign, lt40, lt41, lt42, lt43, lt45, lt47, lt59, lt60, lt61, lt62, ↓mH hS, h20, nI_1, nI_eq, if_neg n59, if_neg n40, if_neg n41, if_neg n43, if_neg n45, if_neg n42, if_neg n47, if_neg n60, if_neg n61, if_neg n62]
  · intro x hx _ _
    have e : ∀ b, sgT c b p = (1, 0, p, p + 1) := fun b => by
      unfold sgT
      rw [if_neg n40, if_neg n41, if_neg n42, if_neg n43, if_neg n45, if_neg n47, if_neg n59, if_neg n60, if_neg n61, if_neg n62]
    rw [e 0]
    exact ⟨mSv1, fun b => ⟨by rw [e b], rfl⟩⟩
theorem m_t64 {S : List (Nat × Nat)} {R : Nat → Nat → Option Nat} {I : Nat → Nat → Int32} {T : Nat → Nat} {n p : Nat} (hx : mTx S R I T n) (h21 : I 306 21 = nI p) : ∀ (k fu i : Nat) (M : zM), i + k = n → k < fu → p ≤ i → (∀ j, j < i - p → 97 ≤ T (p + j) ∧ T (p + j) ≤ 122) → M.2.2 = R → (∀ a b, ¬ (a = 306 ∧ b = 20) → M.1 a b = I a b) → M.1 306 20 = nI i →
    ∃ M', gX12_token_64 S fu 306 M = some M' ∧ M'.2.2 = R ∧ (∀ a b, ¬ qTk a b → M'.1 a b = I a b) ∧ mTk M'.1 (wdT (endR isLt T n i - p) (cdS T p (endR isLt T n i - p)) p (endR isLt T n i)) := by
  obtain ⟨hS, ⟨hn, h25⟩, h7, hT⟩ := id hx
  have fin : ∀ (fu i : Nat) (M : zM), i ≤ n → p ≤ i → (∀ j, j < i - p → 97 ≤ T (p + j) ∧ T (p + j) ≤ 122) → M.2.2 = R → (∀ a b, ¬ (a = 306 ∧ b = 20) → M.1 a b = I a b) → M.1 306 20 = nI i → gX12_isSmall S (heS T n i) M = some 0 → ∃ M', gX12_token_64 S (fu + 1) 306 M = some M' ∧ M'.2.2 = R ∧ (∀ a b, ¬ qTk a b → M'.1 a b = I a b) ∧ mTk M'.1 (wdT (i - p) (cdS T p (i - p)) p i) := by
    intro fu i M hin hpi hl hMR hI h20 his
    have hxM : mTx S M.2.2 M.1 T n := hMR.symm ▸ mTx_cg (fun a b q => hI a b (by omega)) hx
    have hh := m_here hxM hin h20
    have g21 : M.1 306 21 = nI p := (hI 306 21 (by omega)).trans h21
    have sb : nI i - nI p = nI (i - p) := pk_sub hpi
    have n51 : ¬ (5 : Int32) = 1 := by decide
    have n01 : ¬ (0 : Int32) = 1 := by decide
    by_cases hL : i - p ≤ 6
    · have wq : gX12_word S 306 M = some (oI (wix 20 0 (cdS T p (i - p)))) := by
        have := m_w4 (Q := fun j => decide (wdC j = cdS T p (i - p))) hxM hpi hin h20 g21 (fun j hj => by rw [decide_eq_true_iff]; exact wd_eq hL hj hl) 20 zfu 0 (by omega) (by unfold zfu; omega)
        rw [wiQ_x] at this
        exact this
      cases o : wix 20 0 (cdS T p (i - p)) with
      | none =>
        rw [o] at wq
        have wt : wdT (i - p) (cdS T p (i - p)) p i = (2, cdS T p (i - p), p, i) := by
          unfold wdT
          rw [if_neg (by omega), o]
        rw [wt]
        have hN : oI none = (-1 : Int32) := rfl
        obtain ⟨M', e1, e2, e3, e4⟩ := m_name7 (S := S) (R := R) (I := (zsI (zsI (zsI M 306 23 (-1)) 306 22 1) 306 23 0).1) (T := T) (n := n) (p := p) (e := i) (mTx_cg (fun a b q => by rw [zsI_ne (by omega), zsI_ne (by omega), zsI_ne (by omega)]; exact hI a b (by omega)) hx) hpi hin hl (by rw [zsI_ne (by omega), zsI_ne (by omega), zsI_ne (by omega)]; exact h20) (by rw [zsI_ne (by omega), zsI_ne (by omega), zsI_ne (by omega)]; exact g21) 6 zfu 0 (zsI (zsI (zsI M 306 23 (-1)) 306 22 1) 306 23 0) (by omega) (by unfold zfu; omega) hMR (fun _ _ _ => rfl) (zsI_at _ _ _ _)
        have nm : gX12_name S 306 (zsI (zsI M 306 23 (-1)) 306 22 1) = some M' := by
          simp (disch := first | omega | simp only [qI2, hMR]) only [gX12_name, ↓mH hS]
          exact e1
        refine ⟨M', ?_, e2, fun a b q => ?_, ?_, ?_, ?_⟩
        · simp (disch := first | omega | simp only [qI2, hMR]) only [gX12_token_64, ↓mH hS, ↓bind_of hh, ↓bind_of his, if_true, ↓bind_of wq, hN, zsI_at, zsI_ne, h20, g21, sb, li6, nI_leI, if_pos hL, ↓bind_of nm]
        · unfold qTk at q
          rw [e3 a b (by omega), zsI_ne (by omega), zsI_ne (by omega), zsI_ne (by omega)]
          exact hI a b (by omega)
        · rw [e3 306 20 (by omega), zsI_ne (by omega), zsI_ne (by omega), zsI_ne (by omega)]; exact h20
        · rw [e3 306 21 (by omega), zsI_ne (by omega), zsI_ne (by omega), zsI_ne (by omega)]; exact g21
        · rw [e3 306 22 (by omega), zsI_ne (by omega), zsI_at, e4, ← cd_hz hL]
          exact mSv2 rfl
      | some w =>
        rw [o] at wq
        have hw := wix_lt o
        have nw : ¬ nI w = (-1 : Int32) := nI_m1ne (by omega)
        have wq' : gX12_word S 306 M = some (nI w) := wq
        have st : gX12_token_64 S (fu + 1) 306 M = some (zsI (zsI M 306 23 (nI w)) 306 22 0) := by
          simp (disch := first | omega | simp only [qI2, hMR]) only [gX12_token_64, ↓mH hS, ↓bind_of hh, ↓bind_of his, if_true, ↓bind_of wq', zsI_at, if_neg nw, if_neg n01]
        have off : ∀ a b, ¬ qTk a b → (zsI (zsI M 306 23 (nI w)) 306 22 0).1 a b = I a b := fun a b q => by
          unfold qTk at q
          rw [zsI_ne (by omega), zsI_ne (by omega)]
          exact hI a b (by omega)
        have f20 : (zsI (zsI M 306 23 (nI w)) 306 22 0).1 306 20 = nI i := by rw [zsI_ne (by omega), zsI_ne (by omega)]; exact h20
        have f21 : (zsI (zsI M 306 23 (nI w)) 306 22 0).1 306 21 = nI p := by rw [zsI_ne (by omega), zsI_ne (by omega)]; exact g21
        have f22 : (zsI (zsI M 306 23 (nI w)) 306 22 0).1 306 22 = 0 := zsI_at _ _ _ _
        have f23 : (zsI (zsI M 306 23 (nI w)) 306 22 0).1 306 23 = nI w := by rw [zsI_ne (by omega), zsI_at]
        by_cases b : 10 ≤ w ∧ w ≤ 12
        · have wt : wdT (i - p) (cdS T p (i - p)) p i = (8, w - 7, p, i) := by
            unfold wdT
            rw [if_neg (by omega), o]
            exact if_pos b
          rw [wt]
          refine ⟨_, st, hMR, off, f20, f21, ?_⟩
          rw [f22, f23]
          exact mSv8 (fun _ => ⟨rfl, by show nI w = nI (w - 7 + 7); rw [show w - 7 + 7 = w by omega]⟩) (fun h => by
            have h' : 6 ≤ w - 7 := h
            omega)
        · have wt : wdT (i - p) (cdS T p (i - p)) p i = (3, w, p, i) := by
            unfold wdT
            rw [if_neg (by omega), o]
            exact if_neg b
          rw [wt]
          refine ⟨_, st, hMR, off, f20, f21, ?_⟩
          rw [f22, f23]
          exact mSv3 rfl
    · have wq : gX12_word S 306 M = some (-1) := by
        have := m_w4 (Q := fun _ => false) hxM hpi hin h20 g21 (fun j hj => ⟨fun h => (by cases h), fun h => by
          have := (wd_facts j hj).1.2.1
          omega⟩) 20 zfu 0 (by omega) (by unfold zfu; omega)
        rw [wiQ_f] at this
        exact this
      have wt : wdT (i - p) (cdS T p (i - p)) p i = (1, 0, p, i) := by
        unfold wdT
        rw [if_pos (by omega)]
      rw [wt]
      refine ⟨zsI (zsI M 306 23 (-1)) 306 22 5, ?_, hMR, fun a b q => ?_, ?_, ?_, ?_⟩
      · simp (disch := first | omega | simp only [qI2, hMR]) only [gX12_token_64, ↓mH hS, ↓bind_of hh, ↓bind_of his, if_true, ↓bind_of wq, zsI_at, zsI_ne, h20, g21, sb, li6, nI_leI, if_neg hL]
        rw [if_neg (by decide)]
      · unfold qTk at q
        rw [zsI_ne (by omega), zsI_ne (by omega)]
        exact hI a b (by omega)
      · rw [zsI_ne (by omega), zsI_ne (by omega)]; exact h20
      · rw [zsI_ne (by omega), zsI_ne (by omega)]; exact g21
      · rw [zsI_at]
        exact mSv1
  intro k
  induction k with
  | zero =>
    intro fu i M hk hf hpi hl hMR hI h20
    obtain ⟨fu, rfl⟩ : ∃ f, fu = f + 1 := ⟨fu - 1, by omega⟩
    rw [endR_e (fun h => by omega)]
    have il := m_isLt (S := S) (M := M) (T := T) (n := n) (a := i) (fun h => (hT i h).2)
    rw [decide_eq_false (by omega), Bool.false_and] at il
    exact fin fu i M (by omega) hpi hl hMR hI h20 il
  | succ k ih =>
    intro fu i M hk hf hpi hl hMR hI h20
    obtain ⟨fu, rfl⟩ : ∃ f, fu = f + 1 := ⟨fu - 1, by omega⟩
    have hi : i < n := by omega
    have il := m_isLt (S := S) (M := M) (T := T) (n := n) (a := i) (fun h => (hT i h).2)
    rw [decide_eq_true hi, Bool.true_and] at il
    cases q : isLt (T i) with
    | false =>
      rw [q] at il
      rw [endR_e (fun _ => q)]
      exact fin fu i M (by omega) hpi hl hMR hI h20 il
    | true =>
      rw [q] at il
      have lt : 97 ≤ T i ∧ T i ≤ 122 := of_decide_eq_true q
      rw [endR_s hi q]
      have hh := m_here (S := S) (M := M) (T := T) (n := n) (a := i) (hMR.symm ▸ mTx_cg (fun a b q => hI a b (by omega)) hx) (by omega) h20
      obtain ⟨M', e1, e2⟩ := ih fu (i + 1) (zsI M 306 20 (nI (i + 1))) (by omega) (by omega) (by omega) (fun j hj => by
        by_cases e : j = i - p
        · rw [e, show p + (i - p) = i by omega]; exact lt
        · exact hl j (by omega)) hMR (fun a b q => by rw [zsI_ne (by omega)]; exact hI a b q) (zsI_at _ _ _ _)
      refine ⟨M', ?_, e2⟩
      rw [← e1]
      simp (disch := first | omega | simp only [qI2, hMR]) only [gX12_token_64, ↓mH hS, ↓bind_of hh, ↓bind_of il, if_neg bIt, h20, nI_1]
theorem m_tokP {S : List (Nat × Nat)} {M : zM} {T : Nat → Nat} {n p fu : Nat} (hx : mTx S M.2.2 M.1 T n) (hp : p ≤ n) (h20 : M.1 306 20 = nI p) (hb : p < n → isBl (T p) = false) : ∃ M', gX12_token_0 S (fu + 1) 306 M = some M' ∧ M'.2.2 = M.2.2 ∧ (∀ a b, ¬ qTk a b → M'.1 a b = M.1 a b) ∧ mTk M'.1 (tkP T n p) := by
  obtain ⟨hS, ⟨hn, h25⟩, h7, hT⟩ := id hx
  have hh := m_here hx hp h20
  have hx1 : mTx S (zsI M 306 21 (nI p)).2.2 (zsI M 306 21 (nI p)).1 T n := mTx_cg (fun a b q => zsI_ne (by omega)) hx
  have h20' : (zsI M 306 21 (nI p)).1 306 20 = nI p := by rw [zsI_ne (by omega)]; exact h20
  have hh1 := m_here hx1 hp h20'
  have off : ∀ M' : zM, (∀ a b, ¬ qTk a b → M'.1 a b = (zsI M 306 21 (nI p)).1 a b) → ∀ a b, ¬ qTk a b → M'.1 a b = M.1 a b := fun M' h a b q => by
    rw [h a b q, zsI_ne (by unfold qTk at q; omega)]
  unfold tkP
  by_cases c1 : n ≤ p
  · rw [if_pos c1]
    have hv : heS T n p = -1 := if_neg (by omega)
    have n10 : ¬ (-1 : Int32) = 10 := by decide
    have n32 : ¬ (-1 : Int32) = 32 := by decide
    rw [hv] at hh hh1
    refine ⟨zsI (zsI M 306 21 (nI p)) 306 22 4, ?_, rfl, off _ (fun a b q => zsI_ne (by unfold qTk at q; omega)), ?_, ?_, ?_⟩
    · simp (disch := first | omega | simp only [qI2, qL2, qC2, qF2]) only [gX12_token_0, ↓mH hS, ↓bind_of hh, if_neg n10, if_neg n32, h20, ↓bind_of hh1, if_true]
    · rw [zsI_ne (by omega)]; exact h20'
    · rw [zsI_ne (by omega), zsI_at]
    · rw [zsI_at]; exact mSv0
  · have hpn : p < n := by omega
    rw [if_neg c1]
    have hv : heS T n p = nI (T p) := if_pos hpn
    have t256 := (hT p hpn).2
    have hbl : ¬ (T p = 32 ∨ T p = 10) := of_decide_eq_false (hb hpn)
    have n10 : ¬ nI (T p) = 10 := fun h => hbl (Or.inr ((nI_eq (b := 10) (by omega) (by omega)).1 h))
    have n32 : ¬ nI (T p) = 32 := fun h => hbl (Or.inl ((nI_eq (b := 32) (by omega) (by omega)).1 h))
    have nm1 : ¬ nI (T p) = (-1 : Int32) := nI_m1ne (by omega)
    rw [hv] at hh hh1
    have il := e_isLt (S := S) (M := zsI M 306 21 (nI p)) t256
    have il' : gX12_isSmall S (nI (T p)) (zsI M 306 21 (nI p)) = some (bI (isLt (T p))) := il
    have ig := e_isDg (S := S) (M := zsI M 306 21 (nI p)) t256
    have ig' : gX12_isDigit S (nI (T p)) (zsI M 306 21 (nI p)) = some (bI (isDg (T p))) := ig
    cases q1 : isLt (T p) with
    | true =>
      rw [q1] at il'
      rw [if_pos rfl]
      obtain ⟨M2, w1, w2, w3, w4⟩ := m_t64 (p := p) hx1 (zsI_at _ _ _ _) (n - p) zfu p (zsI M 306 21 (nI p)) (by omega) (by unfold zfu; omega) (Nat.le_refl _) (fun j h => by omega) rfl (fun _ _ _ => rfl) h20'
      refine ⟨M2, ?_, w2, off M2 w3, w4⟩
      simp (disch := first | omega | simp only [qI2, qL2, qC2, qF2]) only [gX12_token_0, ↓mH hS, ↓bind_of hh, if_neg n10, if_neg n32, h20, ↓bind_of hh1, if_neg nm1, ↓bind_of il', if_neg bIt]
      exact w1
    | false =>
      rw [q1] at il'
      rw [if_neg Bool.false_ne_true]
      cases q2 : isDg (T p) with
      | true =>
        rw [q2] at ig'
        rw [if_pos rfl]
        obtain ⟨M2, m2, w1, w2, w3, w4, w5, w6⟩ := m_number (R := M.2.2) (I := (zsI (zsI (zsI M 306 21 (nI p)) 306 22 2) 306 23 0).1) (T := T) (n := n) (mTx_cg (fun a b q => by rw [zsI_ne (by omega), zsI_ne (by omega)]) hx1) (n - p) zfu p 0 0 (zsI (zsI (zsI M 306 21 (nI p)) 306 22 2) 306 23 0) (by omega) (by unfold zfu; omega) (Nat.zero_le _) ⟨fun _ => rfl, fun h => by omega, by omega⟩ rfl (fun _ _ _ => rfl) (by rw [zsI_ne (by omega), zsI_ne (by omega)]; exact h20') (zsI_at _ _ _ _)
        refine ⟨M2, ?_, w2, off M2 (fun a b q => by unfold qTk at q; rw [w3 a b (by omega), zsI_ne (by omega), zsI_ne (by omega)]), w4, ?_, ?_⟩
        · simp (disch := first | omega | simp only [qI2, qL2, qC2, qF2]) only [gX12_token_0, ↓mH hS, ↓bind_of hh, if_neg n10, if_neg n32, h20, ↓bind_of hh1, if_neg nm1, ↓bind_of il', bIf, if_true, ↓bind_of ig', if_neg bIt]
          exact w1
        · rw [w3 306 21 (by omega), zsI_ne (by omega), zsI_ne (by omega), zsI_at]
        · rw [w3 306 22 (by omega), zsI_ne (by omega), zsI_at]
          exact mSv4 w5 w6
      | false =>
        rw [q2] at ig'
        rw [if_neg Bool.false_ne_true]
        obtain ⟨M2, w1, w2, w3, w4⟩ := m_sign hx1 hpn h20' (zsI_at _ _ _ _)
        refine ⟨M2, ?_, w2, off M2 w3, w4⟩
        simp (disch := first | omega | simp only [qI2, qL2, qC2, qF2]) only [gX12_token_0, ↓mH hS, ↓bind_of hh, if_neg n10, if_neg n32, h20, ↓bind_of hh1, if_neg nm1, ↓bind_of il', bIf, if_true, ↓bind_of ig', ↓bind_of w1]
theorem m_bl {S : List (Nat × Nat)} {R : Nat → Nat → Option Nat} {I : Nat → Nat → Int32} {T : Nat → Nat} {n : Nat} (hx : mTx S R I T n) : ∀ (k fu i : Nat) (M : zM), i + k = n → k < fu → M.2.2 = R → (∀ a b, ¬ (a = 306 ∧ b = 20) → M.1 a b = I a b) → M.1 306 20 = nI i →
    ∃ (fu' : Nat) (M' : zM), gX12_token_0 S fu 306 M = gX12_token_0 S (fu' + 1) 306 M' ∧ M'.2.2 = R ∧ (∀ a b, ¬ (a = 306 ∧ b = 20) → M'.1 a b = I a b) ∧ M'.1 306 20 = nI (endR isBl T n i) := by
  obtain ⟨hS, ⟨hn, h25⟩, h7, hT⟩ := id hx
  intro k
  induction k with
  | zero =>
    intro fu i M hk hf hMR hI h20
    obtain ⟨fu, rfl⟩ : ∃ f, fu = f + 1 := ⟨fu - 1, by omega⟩
    exact ⟨fu, M, rfl, hMR, hI, by rw [endR_e (fun h => by omega)]; exact h20⟩
  | succ k ih =>
    intro fu i M hk hf hMR hI h20
    obtain ⟨fu, rfl⟩ : ∃ f, fu = f + 1 := ⟨fu - 1, by omega⟩
    have hi : i < n := by omega
    have t256 := (hT i hi).2
    cases q : isBl (T i) with
    | false => exact ⟨fu, M, rfl, hMR, hI, by rw [endR_e (fun h => q)]; exact h20⟩
    | true =>
      have hbl : T i = 32 ∨ T i = 10 := of_decide_eq_true q
      have hh := m_here (S := S) (M := M) (T := T) (n := n) (a := i) (hMR.symm ▸ mTx_cg (fun a b q => hI a b (by omega)) hx) (by omega) h20
      have hv : heS T n i = nI (T i) := if_pos hi
      rw [hv] at hh
      obtain ⟨fu', M', e1, e2, e3, e4⟩ := ih fu (i + 1) (zsI M 306 20 (nI (i + 1))) (by omega) (by omega) hMR (fun a b q => by rw [zsI_ne (by omega)]; exact hI a b q) (zsI_at _ _ _ _)
      refine ⟨fu', M', ?_, e2, e3, by rw [endR_s hi q]; exact e4⟩
      rw [← e1]
      by_cases t10 : T i = 10
      · have v10 : nI (T i) = 10 := by rw [t10]; rfl
        simp (disch := first | omega | simp only [qI2, hMR]) only [gX12_token_0, ↓mH hS, ↓bind_of hh, if_pos v10, h20, nI_1]
      · have v10 : ¬ nI (T i) = 10 := fun h => t10 ((nI_eq (b := 10) (by omega) (by omega)).1 h)
        have v32 : nI (T i) = 32 := by rw [show T i = 32 by omega]; rfl
        simp (disch := first | omega | simp only [qI2, hMR]) only [gX12_token_0, ↓mH hS, ↓bind_of hh, if_neg v10, if_pos v32, h20, nI_1]
theorem m_token {S : List (Nat × Nat)} {M : zM} {T : Nat → Nat} {n a : Nat} (hx : mTx S M.2.2 M.1 T n) (ha : a ≤ n) (h20 : M.1 306 20 = nI a) : ∃ M', gX12_token S 306 M = some M' ∧ M'.2.2 = M.2.2 ∧ (∀ a b, ¬ qTk a b → M'.1 a b = M.1 a b) ∧ mTk M'.1 (tokS T n a) := by
  have h7 := hx.2.2.1
  obtain ⟨fu', M1, e1, e2, e3, e4⟩ := m_bl hx (n - a) zfu a M (by omega) (by unfold zfu; omega) rfl (fun _ _ _ => rfl) h20
  obtain ⟨b1, b2, b3, b4⟩ := endR_b (p := isBl) (T := T) ha
  obtain ⟨M2, f1, f2, f3, f4⟩ := m_tokP (S := S) (M := M1) (T := T) (n := n) (p := endR isBl T n a) (fu := fu') (e2 ▸ mTx_cg (fun a b q => e3 a b (by omega)) hx) b2 e4 b4
  refine ⟨M2, ?_, f2.trans e2, fun a b q => by rw [f3 a b q]; exact e3 a b (by unfold qTk at q; omega), f4⟩
  show gX12_token_0 S zfu 306 M = _
  rw [e1]
  exact f1
