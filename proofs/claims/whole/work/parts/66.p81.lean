/-! pure part 81: lines: the model's line -/
section ML2
variable {S : List (Nat × Nat)} {M : zM} {T : Nat → Nat} {n : Nat} {tk : zTk} {E : zEn} {sl sd : Bool} {ln : Nat}
theorem l_full {x : Int32} (h : mPp S M T n tk E sl sd ln) (s0 : M.1 306 22 = 0) (v : M.1 306 23 = x) (x6 : x ≤ (6 : Int32)) (fu : gX12_isFull S 306 x M = some 1) : gX12_line S 306 M = some (wFm M 2 tk.2.2.1) := by
  obtain ⟨hS, h24, h21, tsv⟩ := mPp_t h
  have w2 : gX12_wrong S 306 2 M = some (wFm M 2 tk.2.2.1) := m_wrg h 2
  have d := d_l70 (S := S) (M := wFm M 2 tk.2.2.1) hS (wFm_d (by omega)) x
  simp (disch := first | omega | simp only [qI2, qL2, qC2, qF2]) only [gX12_line, ↓mH hS, s0, if_true, v, if_pos x6, ↓bind_of fu, if_neg (show ¬ (1 : Int32) = 0 by decide), ↓bind_of w2, d]
theorem l_open {x : Int32} (h : mPp S M T n tk E sl sd ln) (s0 : M.1 306 22 = 0) (v : M.1 306 23 = x) (x6 : x ≤ (6 : Int32)) (fu : gX12_isFull S 306 x M = some 0) (n4 : ¬ x = 4) (n5 : ¬ x = 5) : gX12_line S 306 M = gX12_line_70 S 306 x M := by
  obtain ⟨hS, h24, h21, tsv⟩ := mPp_t h
  simp (disch := first | omega | simp only [qI2, qL2, qC2, qF2]) only [gX12_line, ↓mH hS, s0, if_true, v, if_pos x6, ↓bind_of fu, if_neg n4, if_neg n5]
theorem l_bit4 (h : mPp S M T n tk E sl sd ln) (s0 : M.1 306 22 = 0) (v : M.1 306 23 = 4) : gX12_line S 306 M = if sl = true then some (wFm M 3 tk.2.2.1) else gX12_line_70 S 306 4 M := by
  obtain ⟨hS, h24, h21, tsv⟩ := mPp_t h
  obtain ⟨p, b1, b2, b3, b4⟩ := id h.2.2.2
  have w3 : gX12_wrong S 306 3 M = some (wFm M 3 tk.2.2.1) := m_wrg h 3
  have d := d_l70 (S := S) (M := wFm M 3 tk.2.2.1) hS (wFm_d (by omega)) 4
  have bt := bsb1 (p := p) (h := 4) (by omega)
  rw [← b1, b2] at bt
  have fu : gX12_isFull S 306 4 M = some 0 := by
    unfold gX12_isFull
    rw [if_neg (by decide), if_neg (by decide), if_neg (by decide), if_neg (by decide)]
  by_cases q : sl = true
  · have bt' : (M.1 306 17 >>> ((4 : Int32) &&& 31)) &&& 1 = (1 : Int32) := bt.2 q
    rw [if_pos q]
    simp (disch := first | omega | simp only [qI2, qL2, qC2, qF2]) only [gX12_line, ↓mH hS, s0, if_true, v, if_pos (show (4 : Int32) ≤ 6 by decide), ↓bind_of fu, if_pos bt', ↓bind_of w3, d]
  · have bt' : ¬ ((M.1 306 17 >>> ((4 : Int32) &&& 31)) &&& 1 = (1 : Int32)) := fun z => q (bt.1 z)
    rw [if_neg q]
    simp (disch := first | omega | simp only [qI2, qL2, qC2, qF2]) only [gX12_line, ↓mH hS, s0, if_true, v, if_pos (show (4 : Int32) ≤ 6 by decide), ↓bind_of fu, if_neg bt']
theorem l_bit5 (h : mPp S M T n tk E sl sd ln) (s0 : M.1 306 22 = 0) (v : M.1 306 23 = 5) : gX12_line S 306 M = if sd = true then some (wFm M 3 tk.2.2.1) else gX12_line_70 S 306 5 M := by
  obtain ⟨hS, h24, h21, tsv⟩ := mPp_t h
  obtain ⟨p, b1, b2, b3, b4⟩ := id h.2.2.2
  have w3 : gX12_wrong S 306 3 M = some (wFm M 3 tk.2.2.1) := m_wrg h 3
  have d := d_l70 (S := S) (M := wFm M 3 tk.2.2.1) hS (wFm_d (by omega)) 5
  have bt := bsb1 (p := p) (h := 5) (by omega)
  rw [← b1, b3] at bt
  have fu : gX12_isFull S 306 5 M = some 0 := by
    unfold gX12_isFull
    rw [if_neg (by decide), if_neg (by decide), if_neg (by decide), if_neg (by decide)]
  by_cases q : sd = true
  · have bt' : (M.1 306 17 >>> ((5 : Int32) &&& 31)) &&& 1 = (1 : Int32) := bt.2 q
    rw [if_pos q]
    simp (disch := first | omega | simp only [qI2, qL2, qC2, qF2]) only [gX12_line, ↓mH hS, s0, if_true, v, if_pos (show (5 : Int32) ≤ 6 by decide), ↓bind_of fu, if_neg (show ¬ (5 : Int32) = 4 by decide), if_pos bt', ↓bind_of w3, d]
  · have bt' : ¬ ((M.1 306 17 >>> ((5 : Int32) &&& 31)) &&& 1 = (1 : Int32)) := fun z => q (bt.1 z)
    rw [if_neg q]
    simp (disch := first | omega | simp only [qI2, qL2, qC2, qF2]) only [gX12_line, ↓mH hS, s0, if_true, v, if_pos (show (5 : Int32) ≤ 6 by decide), ↓bind_of fu, if_neg (show ¬ (5 : Int32) = 4 by decide), if_neg bt']
theorem m_line (h : mPp S M T n tk E sl sd ln) (hn : n ≤ 700) (ho : tkOk n 0 tk) (wE : wfE E) : ∃ M', gX12_line S 306 M = some M' ∧ mKr S T n (ln + 1) M (lineS T n tk E sl sd) M' := by
  obtain ⟨hS, h24, h21, tsv⟩ := mPp_t h
  have fault : ∀ f, 1 ≤ f ∧ f ≤ 4 → mKr S T n (ln + 1) M (.inl (f, tk.2.2.1)) (wFm M f tk.2.2.1) := fun f hf => mK_i hf rfl (fun x y z => by unfold wFm; rw [zsI_ne (by unfold mPq at z; omega), zsI_ne (by unfold mPq at z; omega)]) (by unfold wFm; rw [zsI_ne (by omega), zsI_at]) (zsI_at _ _ _ _)
  by_cases c : tk.1 = 3 ∧ tk.2.1 ≤ 6
  rotate_left
  · have ls : lineS T n tk E sl sd = .inl (1, tk.2.2.1) := if_neg c
    rw [ls]
    have w1 : gX12_wrong S 306 1 M = some (wFm M 1 tk.2.2.1) := m_wrg h 1
    refine ⟨_, ?_, fault 1 (by omega)⟩
    have li6' : (6 : Int32) = nI 6 := rfl
    by_cases q : M.1 306 22 = 0
    · have sc : ∃ m, M.1 306 23 = nI m ∧ m < 100 ∧ 6 < m := by
        rcases (m_sort1 tsv ho).2.1 q with z | ⟨z1, z2⟩
        · have := ho.2.2.2.1 z
          exact ⟨_, (tsv.2.2.2.1 z).2, by omega, by omega⟩
        · have := ho.2.2.1 z1
          exact ⟨_, ((tsv.2.2.2.2.2.2.2.2 z1).1 z2).2, by omega, by omega⟩
      obtain ⟨m, q2, q3, q4⟩ := sc
      simp (disch := first | omega | simp only [qI2, qL2, qC2, qF2]) only [gX12_line, ↓mH hS, if_pos q, q2, li6', nI_leI, if_neg (show ¬ m ≤ 6 by omega), ↓bind_of w1]
    · simp (disch := first | omega | simp only [qI2, qL2, qC2, qF2]) only [gX12_line, ↓mH hS, if_neg q, ↓bind_of w1]
  obtain ⟨c3, c6⟩ := c
  have ls : lineS T n tk E sl sd = finL T n (kndL T n tk E sl sd) := if_pos ⟨c3, c6⟩
  rw [ls]
  have s0 := (tsv.2.2.2.1 c3).1
  have v := (tsv.2.2.2.1 c3).2
  unfold kndL
  rcases (show tk.2.1 = 0 ∨ tk.2.1 = 1 ∨ tk.2.1 = 2 ∨ tk.2.1 = 3 ∨ tk.2.1 = 4 ∨ tk.2.1 = 5 ∨ tk.2.1 = 6 by omega) with e | e | e | e | e | e | e
  · rw [if_pos e]
    have v' : M.1 306 23 = (0 : Int32) := by rw [v, e]; rfl
    have fr : gX12_fresher S 306 0 M = some (nI (eT E)) := (m_frs (S := S) (M := M) (k := 0) (x := 0) hS rfl (by omega)).trans (congrArg some h.2.2.1.1.1)
    by_cases q : 6 ≤ eT E
    · have : lnT T n tk E sl sd = .inl (2, tk.2.2.1) := if_pos q
      rw [this]
      have e6 : eT E = 6 := by have := wE.1; omega
      rw [e6] at fr
      have fu : gX12_isFull S 306 0 M = some 1 := by
        unfold gX12_isFull
        rw [if_pos rfl, fr]
        simp (disch := first | omega | simp only [qI2, qL2, qC2, qF2]) only [↓mH hS, Option.bind_some]
        rfl
      exact ⟨_, l_full h s0 v' (by decide) fu, fault 2 (by omega)⟩
    · have fu : gX12_isFull S 306 0 M = some 0 := by
        unfold gX12_isFull
        rw [if_pos rfl, fr]
        have q' : ¬ nI (eT E) = (6 : Int32) := fun z => q (Nat.le_of_eq ((nI_eq (b := 6) (by omega) (by decide)).1 z).symm)
        simp (disch := first | omega | simp only [qI2, qL2, qC2, qF2]) only [↓mH hS, Option.bind_some, if_neg q']
      obtain ⟨M', a1, a2⟩ := m_trades h hn ho wE (by omega)
      exact ⟨M', (l_open h s0 v' (by decide) fu (by decide) (by decide)).trans a1, a2⟩
  · rw [if_neg (by omega), if_pos e]
    have v' : M.1 306 23 = (1 : Int32) := by rw [v, e]; rfl
    have fr : gX12_fresher S 306 1 M = some (nI (eP E)) := (m_frs (S := S) (M := M) (k := 1) (x := 1) hS rfl (by omega)).trans (congrArg some h.2.2.1.1.2.1)
    by_cases q : 12 ≤ eP E
    · have : lnP T n tk E sl sd = .inl (2, tk.2.2.1) := if_pos q
      rw [this]
      have e6 : eP E = 12 := by have := wE.2.1; omega
      rw [e6] at fr
      have fu : gX12_isFull S 306 1 M = some 1 := by
        unfold gX12_isFull
        rw [if_neg (by decide), if_pos rfl, fr]
        simp (disch := first | omega | simp only [qI2, qL2, qC2, qF2]) only [↓mH hS, Option.bind_some]
        rfl
      exact ⟨_, l_full h s0 v' (by decide) fu, fault 2 (by omega)⟩
    · have fu : gX12_isFull S 306 1 M = some 0 := by
        unfold gX12_isFull
        rw [if_neg (by decide), if_pos rfl, fr]
        have q' : ¬ nI (eP E) = (12 : Int32) := fun z => q (Nat.le_of_eq ((nI_eq (b := 12) (by omega) (by decide)).1 z).symm)
        simp (disch := first | omega | simp only [qI2, qL2, qC2, qF2]) only [↓mH hS, Option.bind_some, if_neg q']
      obtain ⟨M', a1, a2⟩ := m_turns h hn ho wE (by omega)
      exact ⟨M', (l_open h s0 v' (by decide) fu (by decide) (by decide)).trans a1, a2⟩
  · rw [if_neg (by omega), if_neg (by omega), if_pos e]
    have v' : M.1 306 23 = (2 : Int32) := by rw [v, e]; rfl
    have fr : gX12_fresher S 306 2 M = some (nI (eC E)) := (m_frs (S := S) (M := M) (k := 2) (x := 2) hS rfl (by omega)).trans (congrArg some h.2.2.1.1.2.2.1)
    by_cases q : 10 ≤ eC E
    · have : lnC T n tk E sl sd = .inl (2, tk.2.2.1) := if_pos q
      rw [this]
      have e6 : eC E = 10 := by have := wE.2.2.1; omega
      rw [e6] at fr
      have fu : gX12_isFull S 306 2 M = some 1 := by
        unfold gX12_isFull
        rw [if_neg (by decide), if_neg (by decide), if_pos rfl, fr]
        simp (disch := first | omega | simp only [qI2, qL2, qC2, qF2]) only [↓mH hS, Option.bind_some]
        rfl
      exact ⟨_, l_full h s0 v' (by decide) fu, fault 2 (by omega)⟩
    · have fu : gX12_isFull S 306 2 M = some 0 := by
        unfold gX12_isFull
        rw [if_neg (by decide), if_neg (by decide), if_pos rfl, fr]
        have q' : ¬ nI (eC E) = (10 : Int32) := fun z => q (Nat.le_of_eq ((nI_eq (b := 10) (by omega) (by decide)).1 z).symm)
        simp (disch := first | omega | simp only [qI2, qL2, qC2, qF2]) only [↓mH hS, Option.bind_some, if_neg q']
      obtain ⟨M', a1, a2⟩ := m_claims h hn ho wE (by omega)
      exact ⟨M', (l_open h s0 v' (by decide) fu (by decide) (by decide)).trans a1, a2⟩
  · rw [if_neg (by omega), if_neg (by omega), if_neg (by omega), if_pos e]
    have v' : M.1 306 23 = (3 : Int32) := by rw [v, e]; rfl
    have fr : gX12_fresher S 306 3 M = some (nI (eW E)) := (m_frs (S := S) (M := M) (k := 3) (x := 3) hS rfl (by omega)).trans (congrArg some h.2.2.1.1.2.2.2.1)
    by_cases q : 5 ≤ eW E
    · have : lnW T n tk E sl sd = .inl (2, tk.2.2.1) := if_pos q
      rw [this]
      have e6 : eW E = 5 := by have := wE.2.2.2.1; omega
      rw [e6] at fr
      have fu : gX12_isFull S 306 3 M = some 1 := by
        unfold gX12_isFull
        rw [if_neg (by decide), if_neg (by decide), if_neg (by decide), if_pos rfl, fr]
        simp (disch := first | omega | simp only [qI2, qL2, qC2, qF2]) only [↓mH hS, Option.bind_some]
        rfl
      exact ⟨_, l_full h s0 v' (by decide) fu, fault 2 (by omega)⟩
    · have fu : gX12_isFull S 306 3 M = some 0 := by
        unfold gX12_isFull
        rw [if_neg (by decide), if_neg (by decide), if_neg (by decide), if_pos rfl, fr]
        have q' : ¬ nI (eW E) = (5 : Int32) := fun z => q (Nat.le_of_eq ((nI_eq (b := 5) (by omega) (by decide)).1 z).symm)
        simp (disch := first | omega | simp only [qI2, qL2, qC2, qF2]) only [↓mH hS, Option.bind_some, if_neg q']
      obtain ⟨M', a1, a2⟩ := m_works h hn ho wE (by omega)
      exact ⟨M', (l_open h s0 v' (by decide) fu (by decide) (by decide)).trans a1, a2⟩
  · rw [if_neg (by omega), if_neg (by omega), if_neg (by omega), if_neg (by omega), if_pos e]
    have v' : M.1 306 23 = (4 : Int32) := by rw [v, e]; rfl
    have lb := l_bit4 h s0 v'
    by_cases q : sl = true
    · have : lnS T n tk E sl sd = .inl (3, tk.2.2.1) := if_pos q
      rw [this]
      rw [if_pos q] at lb
      exact ⟨_, lb, fault 3 (by omega)⟩
    · rw [if_neg q] at lb
      obtain ⟨M', a1, a2⟩ := m_slips h hn ho wE (Bool.eq_false_iff.2 q)
      exact ⟨M', lb.trans a1, a2⟩
  · rw [if_neg (by omega), if_neg (by omega), if_neg (by omega), if_neg (by omega), if_neg (by omega), if_pos e]
    have v' : M.1 306 23 = (5 : Int32) := by rw [v, e]; rfl
    have lb := l_bit5 h s0 v'
    by_cases q : sd = true
    · have : lnD T n tk E sl sd = .inl (3, tk.2.2.1) := if_pos q
      rw [this]
      rw [if_pos q] at lb
      exact ⟨_, lb, fault 3 (by omega)⟩
    · rw [if_neg q] at lb
      obtain ⟨M', a1, a2⟩ := m_seeds h hn ho wE (Bool.eq_false_iff.2 q)
      exact ⟨M', lb.trans a1, a2⟩
  · rw [if_neg (by omega), if_neg (by omega), if_neg (by omega), if_neg (by omega), if_neg (by omega), if_neg (by omega)]
    have v' : M.1 306 23 = (6 : Int32) := by rw [v, e]; rfl
    have fu : gX12_isFull S 306 6 M = some 0 := by
      unfold gX12_isFull
      rw [if_neg (by decide), if_neg (by decide), if_neg (by decide), if_neg (by decide)]
    obtain ⟨M', a1, a2⟩ := m_laws h hn ho wE
    exact ⟨M', (l_open h s0 v' (by decide) fu (by decide) (by decide)).trans a1, a2⟩
end ML2
