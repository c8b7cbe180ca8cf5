/-! pure part 68: formulas: the model's small steps -/
def aIt (T : Nat → Nat) (n : Nat) : Nat → zTk → zAu → Option (zTk × zAu)
  | 0, tk, s => some (tk, s)
  | k + 1, tk, s => match stepA tk s with | .inl _ => none | .inr s' => aIt T n k (tokS T n tk.2.2.2) s'
theorem aIt_a {T : Nat → Nat} {n : Nat} : ∀ {k1 k2 : Nat} {tk : zTk} {s : zAu} {tk1 : zTk} {s1 : zAu} {r : zTk × zAu}, aIt T n k1 tk s = some (tk1, s1) → aIt T n k2 tk1 s1 = some r → aIt T n (k1 + k2) tk s = some r
  | 0, k2, tk, s, tk1, s1, r, h1, h2 => by
    cases h1
    rw [Nat.zero_add]
    exact h2
  | k1 + 1, k2, tk, s, tk1, s1, r, h1, h2 => by
    rw [show k1 + 1 + k2 = (k1 + k2) + 1 by omega]
    have h1' : (match stepA tk s with | .inl _ => none | .inr s' => aIt T n k1 (tokS T n tk.2.2.2) s') = some (tk1, s1) := h1
    show (match stepA tk s with | .inl _ => none | .inr s' => aIt T n (k1 + k2) (tokS T n tk.2.2.2) s') = some r
    cases q : stepA tk s with
    | inl f => rw [q] at h1'; cases h1'
    | inr s' =>
      rw [q] at h1'
      exact aIt_a h1' h2
theorem aIt_1 {T : Nat → Nat} {n : Nat} {tk : zTk} {s s' : zAu} (h : stepA tk s = .inr s') : aIt T n 1 tk s = some (tokS T n tk.2.2.2, s') := by
  show (match stepA tk s with | .inl _ => none | .inr s' => aIt T n 0 (tokS T n tk.2.2.2) s') = _
  rw [h]
  rfl
theorem auR_of {T : Nat → Nat} {n : Nat} : ∀ {k fu : Nat} {tk : zTk} {s : zAu} {tk' : zTk} {s' : zAu} {f : Nat}, aIt T n k tk s = some (tk', s') → stepA tk' s' = .inl f → k < fu → auR T n fu tk s = some (f, tk', s')
  | 0, fu, tk, s, tk', s', f, h1, h2, h3 => by
    obtain ⟨fu, rfl⟩ : ∃ g, fu = g + 1 := ⟨fu - 1, by omega⟩
    cases h1
    show (match stepA tk s with | .inl f => some (f, tk, s) | .inr s' => auR T n fu (tokS T n tk.2.2.2) s') = _
    rw [h2]
  | k + 1, fu, tk, s, tk', s', f, h1, h2, h3 => by
    obtain ⟨fu, rfl⟩ : ∃ g, fu = g + 1 := ⟨fu - 1, by omega⟩
    have h1' : (match stepA tk s with | .inl _ => none | .inr s' => aIt T n k (tokS T n tk.2.2.2) s') = some (tk', s') := h1
    show (match stepA tk s with | .inl f => some (f, tk, s) | .inr s' => auR T n fu (tokS T n tk.2.2.2) s') = _
    cases q : stepA tk s with
    | inl f => rw [q] at h1'; cases h1'
    | inr s1 =>
      rw [q] at h1'
      exact auR_of h1' h2 (by omega)
def mFp (S : List (Nat × Nat)) (M : zM) (T : Nat → Nat) (n b : Nat) (tk : zTk) (o c : Nat) (out : List (Nat × Int32)) : Prop := mTx S M.2.2 M.1 T n ∧ mTk M.1 tk ∧ M.1 306 24 = 0 ∧ M.1 306 28 = nI o ∧ M.1 306 29 = nI c ∧ M.1 308 13 = nI (b + out.length) ∧ lsM (fun j => M.1 320 (64 + j)) (fun j => M.1 321 (64 + j)) b out
def mFq (b x y : Nat) : Prop := (x = 306 ∧ ((20 ≤ y ∧ y ≤ 25) ∨ y = 28 ∨ y = 29)) ∨ (x = 308 ∧ y = 13) ∨ ((x = 320 ∨ x = 321) ∧ 64 + b ≤ y)
theorem lsM_cg {f f' g g' : Nat → Int32} : ∀ {L : List (Nat × Int32)} {b : Nat}, (∀ j, b ≤ j → j < b + L.length → f' j = f j ∧ g' j = g j) → lsM f g b L → lsM f' g' b L
  | [], _, _, _ => trivial
  | kv :: L, b, h, ⟨h1, h2, h3, h4, h5, h6⟩ => by
    have hl : (kv :: L).length = L.length + 1 := rfl
    exact ⟨(h b (Nat.le_refl _) (by omega)).1.trans h1, (h b (Nat.le_refl _) (by omega)).2.trans h2, h3, h4, h5, lsM_cg (fun j k1 k2 => h j (by omega) (by omega)) h6⟩
theorem lsM_app {f g : Nat → Int32} {kv : Nat × Int32} : ∀ {L : List (Nat × Int32)} {b : Nat}, lsM f g b L → f (b + L.length) = (if kv.1 = 0 then 0 else if kv.1 = 1 then 1 else 2) → g (b + L.length) = (if kv.1 = 0 ∨ kv.1 = 1 then kv.2 else nI (cdM kv.1)) → kv.1 < 16 → kv.1 ≠ 2 → (kv.1 = 1 → ∃ j, j < 7 ∧ kv.2 = nI j) → lsM f g b (L ++ [kv])
  | [], b, _, h1, h2, h3, h4, h5 => ⟨h1, h2, h3, h4, h5, trivial⟩
  | x :: L, b, ⟨k1, k2, k3, k4, k5, k6⟩, h1, h2, h3, h4, h5 => by
    have e : b + (x :: L).length = b + 1 + L.length := by
      have hl : (x :: L).length = L.length + 1 := rfl
      omega
    rw [e] at h1 h2
    exact ⟨k1, k2, k3, k4, k5, lsM_app k6 h1 h2 h3 h4 h5⟩
section SMALL
variable {S : List (Nat × Nat)} {M : zM} {T : Nat → Nat} {n b o c a : Nat} {tk : zTk} {out : List (Nat × Int32)}
def sgN (tk : zTk) : Nat := if tk.1 = 5 then 59 else if tk.1 = 6 then 40 else if tk.1 = 7 then 41 else if tk.1 = 8 ∧ 6 ≤ tk.2.1 then cdM tk.2.1 else 0
theorem cdM_f1 : ∀ v, v < 16 → 6 ≤ v → cdM v < 300 ∧ 0 < cdM v ∧ (cdM v = 42 ↔ v = 14) ∧ (cdM v = 47 ↔ v = 15) ∧ (cdM v = 43 ↔ v = 12) ∧ (cdM v = 45 ↔ v = 13) := by decide
theorem cdM_f2 : ∀ v, v < 16 → 6 ≤ v → cdM v ≠ 40 ∧ cdM v ≠ 41 ∧ cdM v ≠ 59 := by decide
theorem cdM_f3 : ∀ v, v < 16 → 6 ≤ v → ((cdM v = 60 ∨ cdM v = 62 ∨ cdM v = 61 ∨ 256 ≤ cdM v) ↔ v ≤ 11) := by decide
theorem cdM_f (v : Nat) (h1 : v < 16) (h2 : 6 ≤ v) : cdM v < 300 ∧ 0 < cdM v ∧ (cdM v = 42 ↔ v = 14) ∧ (cdM v = 47 ↔ v = 15) ∧ (cdM v = 43 ↔ v = 12) ∧ (cdM v = 45 ↔ v = 13) ∧ cdM v ≠ 40 ∧ cdM v ≠ 41 ∧ cdM v ≠ 59 ∧ ((cdM v = 60 ∨ cdM v = 62 ∨ cdM v = 61 ∨ 256 ≤ cdM v) ↔ v ≤ 11) := by
  obtain ⟨a1, a2, a3, a4, a5, a6⟩ := cdM_f1 v h1 h2
  obtain ⟨b1, b2, b3⟩ := cdM_f2 v h1 h2
  exact ⟨a1, a2, a3, a4, a5, a6, b1, b2, b3, cdM_f3 v h1 h2⟩
theorem m_sort (h : mSv tk.1 tk.2.1 (M.1 306 22) (M.1 306 23)) (ho : tkOk n a tk) : (sgN tk ≠ 0 → M.1 306 22 = 3 ∧ M.1 306 23 = nI (sgN tk)) ∧ (sgN tk = 0 → M.1 306 22 ≠ 3) ∧ sgN tk < 300 ∧ (∀ x, 10 ≤ x → x ≤ 12 → ((M.1 306 22 = 0 ∧ M.1 306 23 = nI x) ↔ (tk.1 = 8 ∧ tk.2.1 + 7 = x))) := by
  obtain ⟨h0, h1, h2, h3, h4, h5, h6, h7, h8⟩ := h
  obtain ⟨⟨o1, o2, -, -, -⟩, -, o8, o3, o4⟩ := ho
  generalize M.1 306 22 = s at *
  generalize M.1 306 23 = x at *
  rcases (show tk.1 = 0 ∨ tk.1 = 1 ∨ tk.1 = 2 ∨ tk.1 = 3 ∨ tk.1 = 4 ∨ tk.1 = 5 ∨ tk.1 = 6 ∨ tk.1 = 7 ∨ tk.1 = 8 by omega) with e | e | e | e | e | e | e | e | e
  · have z : sgN tk = 0 := by unfold sgN; rw [if_neg (by omega), if_neg (by omega), if_neg (by omega), if_neg (by omega)]
    rw [h0 e, z]
    exact ⟨fun h => absurd rfl h, fun _ => by decide, by decide, fun x _ _ => ⟨fun h => absurd h.1 (by decide), fun h => by omega⟩⟩
  · have z : sgN tk = 0 := by unfold sgN; rw [if_neg (by omega), if_neg (by omega), if_neg (by omega), if_neg (by omega)]
    rw [h1 e, z]
    exact ⟨fun h => absurd rfl h, fun _ => by decide, by decide, fun x _ _ => ⟨fun h => absurd h.1 (by decide), fun h => by omega⟩⟩
  · have z : sgN tk = 0 := by unfold sgN; rw [if_neg (by omega), if_neg (by omega), if_neg (by omega), if_neg (by omega)]
    rw [(h2 e).1, z]
    exact ⟨fun h => absurd rfl h, fun _ => by decide, by decide, fun x _ _ => ⟨fun h => absurd h.1 (by decide), fun h => by omega⟩⟩
  · have z : sgN tk = 0 := by unfold sgN; rw [if_neg (by omega), if_neg (by omega), if_neg (by omega), if_neg (by omega)]
    have o3' := o3 e
    rw [(h3 e).1, (h3 e).2, z]
    exact ⟨fun h => absurd rfl h, fun _ => by decide, by decide, fun x q1 q2 => ⟨fun h => by
      have := (nI_eq (by omega) (by omega)).1 h.2
      omega, fun h => by omega⟩⟩
  · have z : sgN tk = 0 := by unfold sgN; rw [if_neg (by omega), if_neg (by omega), if_neg (by omega), if_neg (by omega)]
    rw [(h4 e).1, z]
    exact ⟨fun h => absurd rfl h, fun _ => by decide, by decide, fun x _ _ => ⟨fun h => absurd h.1 (by decide), fun h => by omega⟩⟩
  · have z : sgN tk = 59 := by unfold sgN; rw [if_pos e]
    rw [(h5 e).1, (h5 e).2, z]
    exact ⟨fun _ => ⟨rfl, rfl⟩, fun h => by omega, by decide, fun x _ _ => ⟨fun h => absurd h.1 (by decide), fun h => by omega⟩⟩
  · have z : sgN tk = 40 := by unfold sgN; rw [if_neg (by omega), if_pos e]
    rw [(h6 e).1, (h6 e).2, z]
    exact ⟨fun _ => ⟨rfl, rfl⟩, fun h => by omega, by decide, fun x _ _ => ⟨fun h => absurd h.1 (by decide), fun h => by omega⟩⟩
  · have z : sgN tk = 41 := by unfold sgN; rw [if_neg (by omega), if_neg (by omega), if_pos e]
    rw [(h7 e).1, (h7 e).2, z]
    exact ⟨fun _ => ⟨rfl, rfl⟩, fun h => by omega, by decide, fun x _ _ => ⟨fun h => absurd h.1 (by decide), fun h => by omega⟩⟩
  · have o8' := o8 e
    by_cases g : 6 ≤ tk.2.1
    · have f := cdM_f tk.2.1 (by omega) g
      have z : sgN tk = cdM tk.2.1 := by unfold sgN; rw [if_neg (by omega), if_neg (by omega), if_neg (by omega), if_pos ⟨e, g⟩]
      rw [((h8 e).2 g).1, ((h8 e).2 g).2, z]
      exact ⟨fun _ => ⟨rfl, rfl⟩, fun h => by omega, f.1, fun x _ _ => ⟨fun h => absurd h.1 (by decide), fun h => by omega⟩⟩
    · have z : sgN tk = 0 := by unfold sgN; rw [if_neg (by omega), if_neg (by omega), if_neg (by omega), if_neg (by omega)]
      have g' := (h8 e).1 (by omega)
      rw [g'.1, g'.2, z]
      exact ⟨fun h => absurd rfl h, fun _ => by decide, by decide, fun x q1 q2 => ⟨fun h => by
        have := (nI_eq (by omega) (by omega)).1 h.2
        exact ⟨e, this⟩, fun h => ⟨rfl, by rw [h.2]⟩⟩⟩
theorem m_isSgn (hS : pMs S M.2.2) (h24 : M.1 306 24 = 0) (h : mSv tk.1 tk.2.1 (M.1 306 22) (M.1 306 23)) (ho : tkOk n a tk) {x : Nat} (h1 : 0 < x) (h2 : x < 300) : gX12_isSign S 306 (nI x) M = some (bI (decide (sgN tk = x))) := by
  obtain ⟨f1, f2, f3, -⟩ := m_sort h ho
  by_cases q : sgN tk = 0
  · have s3 := f2 q
    rw [decide_eq_false (by omega)]
    simp (disch := first | omega | simp only [qI2, qL2, qC2, qF2]) only [gX12_isSign, ↓mH hS, h24, if_true, if_neg s3]
    rfl
  · obtain ⟨s3, v3⟩ := f1 q
    by_cases e : sgN tk = x
    · rw [decide_eq_true e]
      simp (disch := first | omega | simp only [qI2, qL2, qC2, qF2]) only [gX12_isSign, ↓mH hS, h24, if_true, s3, v3, nI_eq, if_pos e]
      rfl
    · rw [decide_eq_false e]
      simp (disch := first | omega | simp only [qI2, qL2, qC2, qF2]) only [gX12_isSign, ↓mH hS, h24, if_true, s3, v3, nI_eq, if_neg e]
      rfl
theorem m_isWrd (hS : pMs S M.2.2) (h24 : M.1 306 24 = 0) (h : mSv tk.1 tk.2.1 (M.1 306 22) (M.1 306 23)) (ho : tkOk n a tk) {x : Nat} (h1 : 10 ≤ x) (h2 : x ≤ 12) : gX12_isWord S 306 (nI x) M = some (bI (decide (tk.1 = 8 ∧ tk.2.1 + 7 = x))) := by
  obtain ⟨-, -, -, f4⟩ := m_sort h ho
  have f := f4 x h1 h2
  by_cases q : tk.1 = 8 ∧ tk.2.1 + 7 = x
  · obtain ⟨a1, a2⟩ := f.2 q
    rw [decide_eq_true q]
    simp (disch := first | omega | simp only [qI2, qL2, qC2, qF2]) only [gX12_isWord, ↓mH hS, h24, if_true, a1, a2]
    rfl
  · rw [decide_eq_false q]
    by_cases a1 : M.1 306 22 = 0
    · have a2 : ¬ M.1 306 23 = nI x := fun e => q (f.1 ⟨a1, e⟩)
      simp (disch := first | omega | simp only [qI2, qL2, qC2, qF2]) only [gX12_isWord, ↓mH hS, h24, if_true, a1, if_neg a2]
      rfl
    · simp (disch := first | omega | simp only [qI2, qL2, qC2, qF2]) only [gX12_isWord, ↓mH hS, h24, if_true, if_neg a1]
      rfl
theorem m_wrong (hS : pMs S M.2.2) (h24 : M.1 306 24 = 0) (h21 : M.1 306 21 = nI tk.2.2.1) {f : Int32} : gX12_wrong S 306 f M = some (zsI (zsI M 306 24 f) 306 25 (nI tk.2.2.1)) := by
  simp (disch := first | omega | simp only [qI2, qL2, qC2, qF2]) only [gX12_wrong, ↓mH hS, h24, if_true, zsI_ne, h21]
theorem m_knotF (hS : pMs S M.2.2) (h24 : M.1 306 24 = 0) (h21 : M.1 306 21 = nI tk.2.2.1) (h29 : M.1 306 29 = nI 64) : gX12_knot S 306 M = some (zsI (zsI M 306 24 2) 306 25 (nI tk.2.2.1)) := by
  have w := m_wrong (tk := tk) (f := 2) hS h24 h21
  simp (disch := first | omega | simp only [qI2, qL2, qC2, qF2]) only [gX12_knot, ↓mH hS, h24, if_true, h29, li64, ↓bind_of w]
theorem m_knotO (hS : pMs S M.2.2) (h24 : M.1 306 24 = 0) (h29 : M.1 306 29 = nI c) (hc : c < 64) : gX12_knot S 306 M = some (zsI M 306 29 (nI (c + 1))) := by
  have n64 : ¬ c = 64 := by omega
  simp (disch := first | omega | simp only [qI2, qL2, qC2, qF2]) only [gX12_knot, ↓mH hS, h24, if_true, h29, li64, nI_eq, if_neg n64, nI_1]
theorem m_puts (hS : pMs S M.2.2) (h24 : M.1 306 24 = 0) {kn : Nat} {x1 x2 : Int32} (hk : M.1 308 13 = nI kn) (h : kn < 64) : gX12_puts S 306 x1 x2 M = some (zsI (zsI (zsI M 320 (64 + kn) x1) 321 (64 + kn) x2) 308 13 (nI (kn + 1))) := by
  have fr1 : ∀ M' : zM, M'.2.2 = M.2.2 → M'.1 308 13 = nI kn → gX12_fresher S 306 6 M' = some (nI kn) := fun M' r hv => by
    simp (disch := first | omega | simp only [qI2, r]) only [gX12_fresher, li7, li6, nI_add, ↓mH hS]
    simp (disch := first | omega | simp only [qI2, r]) only [↓mG hS, hv]
  have rd : ∀ M' : zM, M'.2.2 = M.2.2 → gX12_reads S 306 6 (nI (kn + 1)) M' = some (zsI M' 308 13 (nI (kn + 1))) := fun M' r => by
    simp (disch := first | omega | simp only [qI2, r]) only [gX12_reads, li7, li6, nI_add, ↓mH hS]
    simp (disch := first | omega | simp only [qI2, r]) only [↓mG hS]
  have a0 := fr1 M rfl hk
  have a1 := fr1 (zsI M 320 (64 + kn) x1) rfl (by rw [zsI_ne (by omega)]; exact hk)
  have a2 := fr1 (zsI (zsI M 320 (64 + kn) x1) 321 (64 + kn) x2) rfl (by rw [zsI_ne (by omega), zsI_ne (by omega)]; exact hk)
  have r2 := rd (zsI (zsI M 320 (64 + kn) x1) 321 (64 + kn) x2) rfl
  simp (disch := first | omega | simp only [qI2, qL2, qC2, qF2]) only [gX12_puts, ↓mH hS, h24, if_true, ↓bind_of a0]
  rw [show (64 : Int32) + nI kn = nI (64 + kn) from nI_add 64 kn]
  simp (disch := first | omega | simp only [qI2, qL2, qC2, qF2]) only [↓mG hS, ↓mH hS, ↓bind_of a1]
  rw [show (64 : Int32) + nI kn = nI (64 + kn) from nI_add 64 kn]
  simp (disch := first | omega | simp only [qI2, qL2, qC2, qF2]) only [↓mG hS, ↓mH hS, ↓bind_of a2, nI_1, ↓bind_of r2]
theorem m_goOn (h : mTx S M.2.2 M.1 T n) (h24 : M.1 306 24 = 0) {at' : Nat} (ha : at' ≤ n) (h20 : M.1 306 20 = nI at') : ∃ M', gX12_goOn S 306 M = some M' ∧ M'.2.2 = M.2.2 ∧ (∀ x y, ¬ qTk x y → M'.1 x y = M.1 x y) ∧ mTk M'.1 (tokS T n at') := by
  obtain ⟨M', e1, e2⟩ := m_token h ha h20
  refine ⟨M', ?_, e2⟩
  simp (disch := first | omega | simp only [qI2, qL2, qC2, qF2]) only [gX12_goOn, ↓mH h.1, h24, if_true, ↓bind_of e1]
/-- once there is a fault nothing goes on -/
theorem d_isWord (hS : pMs S M.2.2) (hd : ¬ M.1 306 24 = 0) (x : Int32) : gX12_isWord S 306 x M = some 0 := by simp (disch := first | omega | simp only [qI2, qL2, qC2, qF2]) only [gX12_isWord, ↓mH hS, if_neg hd]
theorem d_isSign (hS : pMs S M.2.2) (hd : ¬ M.1 306 24 = 0) (x : Int32) : gX12_isSign S 306 x M = some 0 := by simp (disch := first | omega | simp only [qI2, qL2, qC2, qF2]) only [gX12_isSign, ↓mH hS, if_neg hd]
theorem d_knot (hS : pMs S M.2.2) (hd : ¬ M.1 306 24 = 0) : gX12_knot S 306 M = some M := by simp (disch := first | omega | simp only [qI2, qL2, qC2, qF2]) only [gX12_knot, ↓mH hS, if_neg hd]
theorem d_goOn (hS : pMs S M.2.2) (hd : ¬ M.1 306 24 = 0) : gX12_goOn S 306 M = some M := by simp (disch := first | omega | simp only [qI2, qL2, qC2, qF2]) only [gX12_goOn, ↓mH hS, if_neg hd]
theorem d_puts (hS : pMs S M.2.2) (hd : ¬ M.1 306 24 = 0) (x y : Int32) : gX12_puts S 306 x y M = some M := by simp (disch := first | omega | simp only [qI2, qL2, qC2, qF2]) only [gX12_puts, ↓mH hS, if_neg hd]
theorem d_primary (hS : pMs S M.2.2) (hd : ¬ M.1 306 24 = 0) {rk : Nat → zM → Option zM} : gX12_primary S rk 306 M = some M := by simp (disch := first | omega | simp only [qI2, qL2, qC2, qF2]) only [gX12_primary, ↓mH hS, if_neg hd]
theorem d_product4 (hS : pMs S M.2.2) (hd : ¬ M.1 306 24 = 0) {rk : Nat → zM → Option zM} {fu : Nat} : gX12_product_4 S rk (fu + 1) 306 M = some M := by
  have a := d_isSign hS hd 42
  have b := d_isSign hS hd 47
  simp (disch := first | omega | simp only [qI2, qL2, qC2, qF2]) only [gX12_product_4, ↓mH hS, ↓bind_of a, ↓bind_of b, if_true]
theorem d_product (hS : pMs S M.2.2) (hd : ¬ M.1 306 24 = 0) {rk : Nat → zM → Option zM} : gX12_product S rk 306 M = some M := by
  obtain ⟨z, hz⟩ : ∃ z, zfu = z + 1 := ⟨zfu - 1, by unfold zfu; omega⟩
  have a := d_primary hS hd (rk := rk)
  have b := d_product4 hS hd (rk := rk) (fu := z)
  simp (disch := first | omega | simp only [qI2, qL2, qC2, qF2]) only [gX12_product, ↓mH hS, ↓bind_of a, hz, b]
theorem d_sum4 (hS : pMs S M.2.2) (hd : ¬ M.1 306 24 = 0) {rk : Nat → zM → Option zM} {fu : Nat} : gX12_sum_4 S rk (fu + 1) 306 M = some M := by
  have a := d_isSign hS hd 43
  have b := d_isSign hS hd 45
  simp (disch := first | omega | simp only [qI2, qL2, qC2, qF2]) only [gX12_sum_4, ↓mH hS, ↓bind_of a, ↓bind_of b, if_true]
theorem d_sum (hS : pMs S M.2.2) (hd : ¬ M.1 306 24 = 0) {rk : Nat → zM → Option zM} : gX12_sum S rk 306 M = some M := by
  obtain ⟨z, hz⟩ : ∃ z, zfu = z + 1 := ⟨zfu - 1, by unfold zfu; omega⟩
  have a := d_product hS hd (rk := rk)
  have b := d_sum4 hS hd (rk := rk) (fu := z)
  simp (disch := first | omega | simp only [qI2, qL2, qC2, qF2]) only [gX12_sum, ↓mH hS, ↓bind_of a, hz, b]
theorem d_negation (hS : pMs S M.2.2) (hd : ¬ M.1 306 24 = 0) {rk : Nat → zM → Option zM} {fu : Nat} : gX12_negation S rk (fu + 1) 306 M = some M := by
  have a := d_isWord hS hd 12
  have b := d_sum hS hd (rk := rk)
  show gX12_negationB S rk (gX12_negation S rk fu) 306 M = some M
  simp (disch := first | omega | simp only [qI2, qL2, qC2, qF2]) only [gX12_negationB, ↓mH hS, ↓bind_of a, if_true, ↓bind_of b, if_neg hd]
theorem d_conj4 (hS : pMs S M.2.2) (hd : ¬ M.1 306 24 = 0) {rk : Nat → zM → Option zM} {fu : Nat} : gX12_conjunction_4 S rk (fu + 1) 306 M = some M := by
  have a := d_isWord hS hd 11
  simp (disch := first | omega | simp only [qI2, qL2, qC2, qF2]) only [gX12_conjunction_4, ↓mH hS, ↓bind_of a, if_true]
theorem d_conj (hS : pMs S M.2.2) (hd : ¬ M.1 306 24 = 0) {rk : Nat → zM → Option zM} : gX12_conjunction S rk 306 M = some M := by
  obtain ⟨z, hz⟩ : ∃ z, zfu = z + 1 := ⟨zfu - 1, by unfold zfu; omega⟩
  have a := d_negation hS hd (rk := rk) (fu := 69)
  have b := d_conj4 hS hd (rk := rk) (fu := z)
  simp (disch := first | omega | simp only [qI2, qL2, qC2, qF2]) only [gX12_conjunction, ↓mH hS, ↓bind_of a, hz, b]
theorem d_expr4 (hS : pMs S M.2.2) (hd : ¬ M.1 306 24 = 0) {rk : Nat → zM → Option zM} {fu : Nat} : gX12_expression_4 S rk (fu + 1) 306 M = some M := by
  have a := d_isWord hS hd 10
  simp (disch := first | omega | simp only [qI2, qL2, qC2, qF2]) only [gX12_expression_4, ↓mH hS, ↓bind_of a, if_true]
end SMALL
