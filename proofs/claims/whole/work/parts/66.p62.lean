/-! pure part 62: the tokens; the class's signs; next -/
theorem lt40 : (40 : Int32) = nI 40 := rfl
theorem lt41 : (41 : Int32) = nI 41 := rfl
theorem lt42 : (42 : Int32) = nI 42 := rfl
theorem lt43 : (43 : Int32) = nI 43 := rfl
theorem lt44 : (44 : Int32) = nI 44 := rfl
theorem lt45 : (45 : Int32) = nI 45 := rfl
theorem lt46 : (46 : Int32) = nI 46 := rfl
theorem lt47 : (47 : Int32) = nI 47 := rfl
theorem lt48 : (48 : Int32) = nI 48 := rfl
theorem lt49 : (49 : Int32) = nI 49 := rfl
theorem lt50 : (50 : Int32) = nI 50 := rfl
theorem lt51 : (51 : Int32) = nI 51 := rfl
theorem lt52 : (52 : Int32) = nI 52 := rfl
theorem lt53 : (53 : Int32) = nI 53 := rfl
theorem lt54 : (54 : Int32) = nI 54 := rfl
theorem lt55 : (55 : Int32) = nI 55 := rfl
theorem lt56 : (56 : Int32) = nI 56 := rfl
theorem lt57 : (57 : Int32) = nI 57 := rfl
theorem lt58 : (58 : Int32) = nI 58 := rfl
theorem lt59 : (59 : Int32) = nI 59 := rfl
theorem lt60 : (60 : Int32) = nI 60 := rfl
theorem lt61 : (61 : Int32) = nI 61 := rfl
theorem lt62 : (62 : Int32) = nI 62 := rfl
theorem sgT_b {c b p : Nat} : (sgT c b p).2.2.1 = p := by
  unfold sgT
  repeat' split
  all_goals rfl
theorem c_36 {S : List (Nat × Nat)} {M : zM} {c b p : Nat} (hS : zShp S) (hR : pRf M.2.2) (hc : c < 256) (hb : b < 256) (h3 : M.1 4 3 = nI (p + 1)) (h4 : M.1 4 4 = nI p) : ∃ M', gX9_nextSign_36 S 4 (nI c) (nI b) M = some M' ∧ M'.2.2 = M.2.2 ∧ (∀ x y, ¬ q43 x y → M'.1 x y = M.1 x y) ∧ cTk M'.1 (sgT c b p) := by
  have P := cP hS hR
  have z0 : ∀ (a : Nat), nI a + (0 : Int32) = nI a := fun a => Int32.add_zero _
  have g4 : ∀ (x y : Int32) (k1 k2 : Nat), k1 ≠ 4 → k2 ≠ 4 → (zsI (zsI M 4 k1 x) 4 k2 y).1 4 4 = nI p := fun x y k1 k2 h1 h2 => by rw [zsI_ne (by omega), zsI_ne (by omega)]; exact h4
  by_cases h40 : c = 40
  · skip
    have e : sgT c b p = (6, 0, p, p + 1) := by unfold sgT; rw [if_pos h40]
    rw [e]
    have m41 : ¬ c = 41 := by omega
    have m42 : ¬ c = 42 := by omega
    have m43 : ¬ c = 43 := by omega
    have m44 : ¬ c = 44 := by omega
    have m45 : ¬ c = 45 := by omega
    have m46 : ¬ c = 46 := by omega
    have m47 : ¬ c = 47 := by omega
    have m48 : ¬ c = 48 := by omega
    have m49 : ¬ c = 49 := by omega
    have m50 : ¬ c = 50 := by omega
    have m51 : ¬ c = 51 := by omega
    have m52 : ¬ c = 52 := by omega
    have m53 : ¬ c = 53 := by omega
    have m54 : ¬ c = 54 := by omega
    have m55 : ¬ c = 55 := by omega
    have m56 : ¬ c = 56 := by omega
    have m57 : ¬ c = 57 := by omega
    have m58 : ¬ c = 58 := by omega
    have m59 : ¬ c = 59 := by omega
    have m60 : ¬ c = 60 := by omega
    have m61 : ¬ c = 61 := by omega
    have m62 : ¬ c = 62 := by omega
    refine ⟨zsI (zsI M 4 5 8) 4 5 6, ?_, rfl, fun x y q => by unfold q43 at q; rw [zsI_ne (by omega), zsI_ne (by omega)], ?_, g4 _ _ _ _ (by decide) (by decide), ?_, fun q => ?_⟩
    · simp (disch := first | omega | simp only [qI2, qL2, qC2, qF2]) only [gX9_nextSign_36, lt40, lt41, lt42, lt43, lt44, lt45, lt46, lt47, lt48, lt49, lt50, lt51, lt52, lt53, lt54, lt55, lt56, lt57, lt58, lt59, lt60, lt61, lt62, nI_eq, ↓P, if_neg m41, if_neg m42, if_neg m43, if_neg m44, if_neg m45, if_neg m46, if_neg m47, if_neg m48, if_neg m49, if_neg m50, if_neg m51, if_neg m52, if_neg m53, if_neg m54, if_neg m55, if_neg m56, if_neg m57, if_neg m58, if_neg m59, if_neg m60, if_neg m61, if_neg m62, if_pos h40]
    · rw [zsI_ne (by omega), zsI_ne (by omega)]; exact h3
    · rw [zsI_at]; rfl
    · rcases q with q | q | q | q <;> cases q
  have n40 := h40
  by_cases h41 : c = 41
  · skip
    have e : sgT c b p = (7, 0, p, p + 1) := by unfold sgT; rw [if_neg n40, if_pos h41]
    rw [e]
    have m40 : ¬ c = 40 := by omega
    have m42 : ¬ c = 42 := by omega
    have m43 : ¬ c = 43 := by omega
    have m44 : ¬ c = 44 := by omega
    have m45 : ¬ c = 45 := by omega
    have m46 : ¬ c = 46 := by omega
    have m47 : ¬ c = 47 := by omega
    have m48 : ¬ c = 48 := by omega
    have m49 : ¬ c = 49 := by omega
    have m50 : ¬ c = 50 := by omega
    have m51 : ¬ c = 51 := by omega
    have m52 : ¬ c = 52 := by omega
    have m53 : ¬ c = 53 := by omega
    have m54 : ¬ c = 54 := by omega
    have m55 : ¬ c = 55 := by omega
    have m56 : ¬ c = 56 := by omega
    have m57 : ¬ c = 57 := by omega
    have m58 : ¬ c = 58 := by omega
    have m59 : ¬ c = 59 := by omega
    have m60 : ¬ c = 60 := by omega
    have m61 : ¬ c = 61 := by omega
    have m62 : ¬ c = 62 := by omega
    refine ⟨zsI (zsI M 4 5 8) 4 5 7, ?_, rfl, fun x y q => by unfold q43 at q; rw [zsI_ne (by omega), zsI_ne (by omega)], ?_, g4 _ _ _ _ (by decide) (by decide), ?_, fun q => ?_⟩
    · simp (disch := first | omega | simp only [qI2, qL2, qC2, qF2]) only [gX9_nextSign_36, lt40, lt41, lt42, lt43, lt44, lt45, lt46, lt47, lt48, lt49, lt50, lt51, lt52, lt53, lt54, lt55, lt56, lt57, lt58, lt59, lt60, lt61, lt62, nI_eq, ↓P, if_neg m40, if_neg m42, if_neg m43, if_neg m44, if_neg m45, if_neg m46, if_neg m47, if_neg m48, if_neg m49, if_neg m50, if_neg m51, if_neg m52, if_neg m53, if_neg m54, if_neg m55, if_neg m56, if_neg m57, if_neg m58, if_neg m59, if_neg m60, if_neg m61, if_neg m62, if_pos h41]
    · rw [zsI_ne (by omega), zsI_ne (by omega)]; exact h3
    · rw [zsI_at]; rfl
    · rcases q with q | q | q | q <;> cases q
  have n41 := h41
  by_cases h42 : c = 42
  · skip
    have e : sgT c b p = (8, 14, p, p + 1) := by unfold sgT; rw [if_neg n40, if_neg n41, if_pos h42]
    rw [e]
    have m40 : ¬ c = 40 := by omega
    have m41 : ¬ c = 41 := by omega
    have m43 : ¬ c = 43 := by omega
    have m44 : ¬ c = 44 := by omega
    have m45 : ¬ c = 45 := by omega
    have m46 : ¬ c = 46 := by omega
    have m47 : ¬ c = 47 := by omega
    have m48 : ¬ c = 48 := by omega
    have m49 : ¬ c = 49 := by omega
    have m50 : ¬ c = 50 := by omega
    have m51 : ¬ c = 51 := by omega
    have m52 : ¬ c = 52 := by omega
    have m53 : ¬ c = 53 := by omega
    have m54 : ¬ c = 54 := by omega
    have m55 : ¬ c = 55 := by omega
    have m56 : ¬ c = 56 := by omega
    have m57 : ¬ c = 57 := by omega
    have m58 : ¬ c = 58 := by omega
    have m59 : ¬ c = 59 := by omega
    have m60 : ¬ c = 60 := by omega
    have m61 : ¬ c = 61 := by omega
    have m62 : ¬ c = 62 := by omega
    refine ⟨zsI (zsI M 4 5 8) 4 6 14, ?_, rfl, fun x y q => by unfold q43 at q; rw [zsI_ne (by omega), zsI_ne (by omega)], ?_, g4 _ _ _ _ (by decide) (by decide), ?_, fun _ => ?_⟩
    · simp (disch := first | omega | simp only [qI2, qL2, qC2, qF2]) only [gX9_nextSign_36, lt40, lt41, lt42, lt43, lt44, lt45, lt46, lt47, lt48, lt49, lt50, lt51, lt52, lt53, lt54, lt55, lt56, lt57, lt58, lt59, lt60, lt61, lt62, nI_eq, ↓P, if_neg m40, if_neg m41, if_neg m43, if_neg m44, if_neg m45, if_neg m46, if_neg m47, if_neg m48, if_neg m49, if_neg m50, if_neg m51, if_neg m52, if_neg m53, if_neg m54, if_neg m55, if_neg m56, if_neg m57, if_neg m58, if_neg m59, if_neg m60, if_neg m61, if_neg m62, if_pos h42]
    · rw [zsI_ne (by omega), zsI_ne (by omega)]; exact h3
    · rw [zsI_ne (by omega), zsI_at]; rfl
    · rw [zsI_at]; rfl
  have n42 := h42
  by_cases h43 : c = 43
  · skip
    have e : sgT c b p = (8, 12, p, p + 1) := by unfold sgT; rw [if_neg n40, if_neg n41, if_neg n42, if_pos h43]
    rw [e]
    have m40 : ¬ c = 40 := by omega
    have m41 : ¬ c = 41 := by omega
    have m42 : ¬ c = 42 := by omega
    have m44 : ¬ c = 44 := by omega
    have m45 : ¬ c = 45 := by omega
    have m46 : ¬ c = 46 := by omega
    have m47 : ¬ c = 47 := by omega
    have m48 : ¬ c = 48 := by omega
    have m49 : ¬ c = 49 := by omega
    have m50 : ¬ c = 50 := by omega
    have m51 : ¬ c = 51 := by omega
    have m52 : ¬ c = 52 := by omega
    have m53 : ¬ c = 53 := by omega
    have m54 : ¬ c = 54 := by omega
    have m55 : ¬ c = 55 := by omega
    have m56 : ¬ c = 56 := by omega
    have m57 : ¬ c = 57 := by omega
    have m58 : ¬ c = 58 := by omega
    have m59 : ¬ c = 59 := by omega
    have m60 : ¬ c = 60 := by omega
    have m61 : ¬ c = 61 := by omega
    have m62 : ¬ c = 62 := by omega
    refine ⟨zsI (zsI M 4 5 8) 4 6 12, ?_, rfl, fun x y q => by unfold q43 at q; rw [zsI_ne (by omega), zsI_ne (by omega)], ?_, g4 _ _ _ _ (by decide) (by decide), ?_, fun _ => ?_⟩
    · simp (disch := first | omega | simp only [qI2, qL2, qC2, qF2]) only [gX9_nextSign_36, lt40, lt41, lt42, lt43, lt44, lt45, lt46, lt47, lt48, lt49, lt50, lt51, lt52, lt53, lt54, lt55, lt56, lt57, lt58, lt59, lt60, lt61, lt62, nI_eq, ↓P, if_neg m40, if_neg m41, if_neg m42, if_neg m44, if_neg m45, if_neg m46, if_neg m47, if_neg m48, if_neg m49, if_neg m50, if_neg m51, if_neg m52, if_neg m53, if_neg m54, if_neg m55, if_neg m56, if_neg m57, if_neg m58, if_neg m59, if_neg m60, if_neg m61, if_neg m62, if_pos h43]
    · rw [zsI_ne (by omega), zsI_ne (by omega)]; exact h3
    · rw [zsI_ne (by omega), zsI_at]; rfl
    · rw [zsI_at]; rfl
  have n43 := h43
  by_cases h45 : c = 45
  · skip
    have e : sgT c b p = (8, 13, p, p + 1) := by unfold sgT; rw [if_neg n40, if_neg n41, if_neg n42, if_neg n43, if_pos h45]
    rw [e]
    have m40 : ¬ c = 40 := by omega
    have m41 : ¬ c = 41 := by omega
    have m42 : ¬ c = 42 := by omega
    have m43 : ¬ c = 43 := by omega
    have m44 : ¬ c = 44 := by omega
    have m46 : ¬ c = 46 := by omega
    have m47 : ¬ c = 47 := by omega
    have m48 : ¬ c = 48 := by omega
    have m49 : ¬ c = 49 := by omega
    have m50 : ¬ c = 50 := by omega
    have m51 : ¬ c = 51 := by omega
    have m52 : ¬ c = 52 := by omega
    have m53 : ¬ c = 53 := by omega
    have m54 : ¬ c = 54 := by omega
    have m55 : ¬ c = 55 := by omega
    have m56 : ¬ c = 56 := by omega
    have m57 : ¬ c = 57 := by omega
    have m58 : ¬ c = 58 := by omega
    have m59 : ¬ c = 59 := by omega
    have m60 : ¬ c = 60 := by omega
    have m61 : ¬ c = 61 := by omega
    have m62 : ¬ c = 62 := by omega
    refine ⟨zsI (zsI M 4 5 8) 4 6 13, ?_, rfl, fun x y q => by unfold q43 at q; rw [zsI_ne (by omega), zsI_ne (by omega)], ?_, g4 _ _ _ _ (by decide) (by decide), ?_, fun _ => ?_⟩
    · simp (disch := first | omega | simp only [qI2, qL2, qC2, qF2]) only [gX9_nextSign_36, lt40, lt41, lt42, lt43, lt44, lt45, lt46, lt47, lt48, lt49, lt50, lt51, lt52, lt53, lt54, lt55, lt56, lt57, lt58, lt59, lt60, lt61, lt62, nI_eq, ↓P, if_neg m40, if_neg m41, if_neg m42, if_neg m43, if_neg m44, if_neg m46, if_neg m47, if_neg m48, if_neg m49, if_neg m50, if_neg m51, if_neg m52, if_neg m53, if_neg m54, if_neg m55, if_neg m56, if_neg m57, if_neg m58, if_neg m59, if_neg m60, if_neg m61, if_neg m62, if_pos h45]
    · rw [zsI_ne (by omega), zsI_ne (by omega)]; exact h3
    · rw [zsI_ne (by omega), zsI_at]; rfl
    · rw [zsI_at]; rfl
  have n45 := h45
  by_cases h47 : c = 47
  · skip
    have e : sgT c b p = (8, 15, p, p + 1) := by unfold sgT; rw [if_neg n40, if_neg n41, if_neg n42, if_neg n43, if_neg n45, if_pos h47]
    rw [e]
    have m40 : ¬ c = 40 := by omega
    have m41 : ¬ c = 41 := by omega
    have m42 : ¬ c = 42 := by omega
    have m43 : ¬ c = 43 := by omega
    have m44 : ¬ c = 44 := by omega
    have m45 : ¬ c = 45 := by omega
    have m46 : ¬ c = 46 := by omega
    have m48 : ¬ c = 48 := by omega
    have m49 : ¬ c = 49 := by omega
    have m50 : ¬ c = 50 := by omega
    have m51 : ¬ c = 51 := by omega
    have m52 : ¬ c = 52 := by omega
    have m53 : ¬ c = 53 := by omega
    have m54 : ¬ c = 54 := by omega
    have m55 : ¬ c = 55 := by omega
    have m56 : ¬ c = 56 := by omega
    have m57 : ¬ c = 57 := by omega
    have m58 : ¬ c = 58 := by omega
    have m59 : ¬ c = 59 := by omega
    have m60 : ¬ c = 60 := by omega
    have m61 : ¬ c = 61 := by omega
    have m62 : ¬ c = 62 := by omega
    refine ⟨zsI (zsI M 4 5 8) 4 6 15, ?_, rfl, fun x y q => by unfold q43 at q; rw [zsI_ne (by omega), zsI_ne (by omega)], ?_, g4 _ _ _ _ (by decide) (by decide), ?_, fun _ => ?_⟩
    · simp (disch := first | omega | simp only [qI2, qL2, qC2, qF2]) only [gX9_nextSign_36, lt40, lt41, lt42, lt43, lt44, lt45, lt46, lt47, lt48, lt49, lt50, lt51, lt52, lt53, lt54, lt55, lt56, lt57, lt58, lt59, lt60, lt61, lt62, nI_eq, ↓P, if_neg m40, if_neg m41, if_neg m42, if_neg m43, if_neg m44, if_neg m45, if_neg m46, if_neg m48, if_neg m49, if_neg m50, if_neg m51, if_neg m52, if_neg m53, if_neg m54, if_neg m55, if_neg m56, if_neg m57, if_neg m58, if_neg m59, if_neg m60, if_neg m61, if_neg m62, if_pos h47]
    · rw [zsI_ne (by omega), zsI_ne (by omega)]; exact h3
    · rw [zsI_ne (by omega), zsI_at]; rfl
    · rw [zsI_at]; rfl
  have n47 := h47
  by_cases h59 : c = 59
  · skip
    have e : sgT c b p = (5, 0, p, p + 1) := by unfold sgT; rw [if_neg n40, if_neg n41, if_neg n42, if_neg n43, if_neg n45, if_neg n47, if_pos h59]
    rw [e]
    have m40 : ¬ c = 40 := by omega
    have m41 : ¬ c = 41 := by omega
    have m42 : ¬ c = 42 := by omega
    have m43 : ¬ c = 43 := by omega
    have m44 : ¬ c = 44 := by omega
    have m45 : ¬ c = 45 := by omega
    have m46 : ¬ c = 46 := by omega
    have m47 : ¬ c = 47 := by omega
    have m48 : ¬ c = 48 := by omega
    have m49 : ¬ c = 49 := by omega
    have m50 : ¬ c = 50 := by omega
    have m51 : ¬ c = 51 := by omega
    have m52 : ¬ c = 52 := by omega
    have m53 : ¬ c = 53 := by omega
    have m54 : ¬ c = 54 := by omega
    have m55 : ¬ c = 55 := by omega
    have m56 : ¬ c = 56 := by omega
    have m57 : ¬ c = 57 := by omega
    have m58 : ¬ c = 58 := by omega
    have m60 : ¬ c = 60 := by omega
    have m61 : ¬ c = 61 := by omega
    have m62 : ¬ c = 62 := by omega
    refine ⟨zsI (zsI M 4 5 8) 4 5 5, ?_, rfl, fun x y q => by unfold q43 at q; rw [zsI_ne (by omega), zsI_ne (by omega)], ?_, g4 _ _ _ _ (by decide) (by decide), ?_, fun q => ?_⟩
    · simp (disch := first | omega | simp only [qI2, qL2, qC2, qF2]) only [gX9_nextSign_36, lt40, lt41, lt42, lt43, lt44, lt45, lt46, lt47, lt48, lt49, lt50, lt51, lt52, lt53, lt54, lt55, lt56, lt57, lt58, lt59, lt60, lt61, lt62, nI_eq, ↓P, if_neg m40, if_neg m41, if_neg m42, if_neg m43, if_neg m44, if_neg m45, if_neg m46, if_neg m47, if_neg m48, if_neg m49, if_neg m50, if_neg m51, if_neg m52, if_neg m53, if_neg m54, if_neg m55, if_neg m56, if_neg m57, if_neg m58, if_neg m60, if_neg m61, if_neg m62, if_pos h59]
    · rw [zsI_ne (by omega), zsI_ne (by omega)]; exact h3
    · rw [zsI_at]; rfl
    · rcases q with q | q | q | q <;> cases q
  have n59 := h59
  by_cases h60 : c = 60
  · skip
    have m40 : ¬ c = 40 := by omega
    have m41 : ¬ c = 41 := by omega
    have m42 : ¬ c = 42 := by omega
    have m43 : ¬ c = 43 := by omega
    have m44 : ¬ c = 44 := by omega
    have m45 : ¬ c = 45 := by omega
    have m46 : ¬ c = 46 := by omega
    have m47 : ¬ c = 47 := by omega
    have m48 : ¬ c = 48 := by omega
    have m49 : ¬ c = 49 := by omega
    have m50 : ¬ c = 50 := by omega
    have m51 : ¬ c = 51 := by omega
    have m52 : ¬ c = 52 := by omega
    have m53 : ¬ c = 53 := by omega
    have m54 : ¬ c = 54 := by omega
    have m55 : ¬ c = 55 := by omega
    have m56 : ¬ c = 56 := by omega
    have m57 : ¬ c = 57 := by omega
    have m58 : ¬ c = 58 := by omega
    have m59 : ¬ c = 59 := by omega
    have m61 : ¬ c = 61 := by omega
    have m62 : ¬ c = 62 := by omega
    by_cases b61 : b = 61
    · skip
      have e : sgT c b p = (8, 7, p, p + 2) := by unfold sgT; rw [if_neg n40, if_neg n41, if_neg n42, if_neg n43, if_neg n45, if_neg n47, if_neg n59, if_pos h60, if_pos b61]
      rw [e]
      refine ⟨zsI (zsI (zsI M 4 5 8) 4 6 7) 4 3 (nI (p + 2)), ?_, rfl, fun x y q => by unfold q43 at q; rw [zsI_ne (by omega), zsI_ne (by omega), zsI_ne (by omega)], zsI_at _ _ _ _, ?_, ?_, fun _ => ?_⟩
      · simp (disch := first | omega | simp only [qI2, qL2, qC2, qF2]) only [gX9_nextSign_36, lt40, lt41, lt42, lt43, lt44, lt45, lt46, lt47, lt48, lt49, lt50, lt51, lt52, lt53, lt54, lt55, lt56, lt57, lt58, lt59, lt60, lt61, lt62, nI_eq, ↓P, if_neg m40, if_neg m41, if_neg m42, if_neg m43, if_neg m44, if_neg m45, if_neg m46, if_neg m47, if_neg m48, if_neg m49, if_neg m50, if_neg m51, if_neg m52, if_neg m53, if_neg m54, if_neg m55, if_neg m56, if_neg m57, if_neg m58, if_neg m59, if_neg m61, if_neg m62, if_pos h60, if_pos b61]
        simp (disch := first | omega | simp only [qI2, qL2, qC2, qF2]) only [gX9_nextSign_248, ↓P, zsI_ne, zsI_at, h3, if_neg (show ¬ (7 : Int32) = 6 by decide), nI_1, z0]
      · rw [zsI_ne (by omega)]; exact g4 _ _ _ _ (by decide) (by decide)
      · rw [zsI_ne (by omega), zsI_ne (by omega), zsI_at]; rfl
      · rw [zsI_ne (by omega), zsI_at]; rfl
    by_cases b62 : b = 62
    · skip
      have e : sgT c b p = (8, 9, p, p + 2) := by unfold sgT; rw [if_neg n40, if_neg n41, if_neg n42, if_neg n43, if_neg n45, if_neg n47, if_neg n59, if_pos h60, if_neg b61, if_pos b62]
      rw [e]
      refine ⟨zsI (zsI (zsI M 4 5 8) 4 6 9) 4 3 (nI (p + 2)), ?_, rfl, fun x y q => by unfold q43 at q; rw [zsI_ne (by omega), zsI_ne (by omega), zsI_ne (by omega)], zsI_at _ _ _ _, ?_, ?_, fun _ => ?_⟩
      · simp (disch := first | omega | simp only [qI2, qL2, qC2, qF2]) only [gX9_nextSign_36, lt40, lt41, lt42, lt43, lt44, lt45, lt46, lt47, lt48, lt49, lt50, lt51, lt52, lt53, lt54, lt55, lt56, lt57, lt58, lt59, lt60, lt61, lt62, nI_eq, ↓P, if_neg m40, if_neg m41, if_neg m42, if_neg m43, if_neg m44, if_neg m45, if_neg m46, if_neg m47, if_neg m48, if_neg m49, if_neg m50, if_neg m51, if_neg m52, if_neg m53, if_neg m54, if_neg m55, if_neg m56, if_neg m57, if_neg m58, if_neg m59, if_neg m61, if_neg m62, if_pos h60, if_neg b61, if_pos b62]
        simp (disch := first | omega | simp only [qI2, qL2, qC2, qF2]) only [gX9_nextSign_248, ↓P, zsI_ne, zsI_at, h3, if_neg (show ¬ (9 : Int32) = 6 by decide), nI_1, z0]
      · rw [zsI_ne (by omega)]; exact g4 _ _ _ _ (by decide) (by decide)
      · rw [zsI_ne (by omega), zsI_ne (by omega), zsI_at]; rfl
      · rw [zsI_ne (by omega), zsI_at]; rfl
    · skip
      have e : sgT c b p = (8, 6, p, p + 1) := by unfold sgT; rw [if_neg n40, if_neg n41, if_neg n42, if_neg n43, if_neg n45, if_neg n47, if_neg n59, if_pos h60, if_neg b61, if_neg b62]
      rw [e]
      refine ⟨zsI (zsI (zsI M 4 5 8) 4 6 6) 4 3 (nI (p + 1)), ?_, rfl, fun x y q => by unfold q43 at q; rw [zsI_ne (by omega), zsI_ne (by omega), zsI_ne (by omega)], zsI_at _ _ _ _, ?_, ?_, fun _ => ?_⟩
      · simp (disch := first | omega | simp only [qI2, qL2, qC2, qF2]) only [gX9_nextSign_36, lt40, lt41, lt42, lt43, lt44, lt45, lt46, lt47, lt48, lt49, lt50, lt51, lt52, lt53, lt54, lt55, lt56, lt57, lt58, lt59, lt60, lt61, lt62, nI_eq, ↓P, if_neg m40, if_neg m41, if_neg m42, if_neg m43, if_neg m44, if_neg m45, if_neg m46, if_neg m47, if_neg m48, if_neg m49, if_neg m50, if_neg m51, if_neg m52, if_neg m53, if_neg m54, if_neg m55, if_neg m56, if_neg m57, if_neg m58, if_neg m59, if_neg m61, if_neg m62, if_pos h60, if_neg b61, if_neg b62]
        simp (disch := first | omega | simp only [qI2, qL2, qC2, qF2]) only [gX9_nextSign_248, ↓P, zsI_ne, zsI_at, h3, if_true, nI_1, z0]
      · rw [zsI_ne (by omega)]; exact g4 _ _ _ _ (by decide) (by decide)
      · rw [zsI_ne (by omega), zsI_ne (by omega), zsI_at]; rfl
      · rw [zsI_ne (by omega), zsI_at]; rfl
  have n60 := h60
  by_cases h61 : c = 61
  · skip
    have e : sgT c b p = (8, 8, p, p + 1) := by unfold sgT; rw [if_neg n40, if_neg n41, if_neg n42, if_neg n43, if_neg n45, if_neg n47, if_neg n59, if_neg n60, if_pos h61]
    rw [e]
    have m40 : ¬ c = 40 := by omega
    have m41 : ¬ c = 41 := by omega
    have m42 : ¬ c = 42 := by omega
    have m43 : ¬ c = 43 := by omega
    have m44 : ¬ c = 44 := by omega
    have m45 : ¬ c = 45 := by omega
    have m46 : ¬ c = 46 := by omega
    have m47 : ¬ c = 47 := by omega
    have m48 : ¬ c = 48 := by omega
    have m49 : ¬ c = 49 := by omega
    have m50 : ¬ c = 50 := by omega
    have m51 : ¬ c = 51 := by omega
    have m52 : ¬ c = 52 := by omega
    have m53 : ¬ c = 53 := by omega
    have m54 : ¬ c = 54 := by omega
    have m55 : ¬ c = 55 := by omega
    have m56 : ¬ c = 56 := by omega
    have m57 : ¬ c = 57 := by omega
    have m58 : ¬ c = 58 := by omega
    have m59 : ¬ c = 59 := by omega
    have m60 : ¬ c = 60 := by omega
    have m62 : ¬ c = 62 := by omega
    refine ⟨zsI (zsI M 4 5 8) 4 6 8, ?_, rfl, fun x y q => by unfold q43 at q; rw [zsI_ne (by omega), zsI_ne (by omega)], ?_, g4 _ _ _ _ (by decide) (by decide), ?_, fun _ => ?_⟩
    · simp (disch := first | omega | simp only [qI2, qL2, qC2, qF2]) only [gX9_nextSign_36, lt40, lt41, lt42, lt43, lt44, lt45, lt46, lt47, lt48, lt49, lt50, lt51, lt52, lt53, lt54, lt55, lt56, lt57, lt58, lt59, lt60, lt61, lt62, nI_eq, ↓P, if_neg m40, if_neg m41, if_neg m42, if_neg m43, if_neg m44, if_neg m45, if_neg m46, if_neg m47, if_neg m48, if_neg m49, if_neg m50, if_neg m51, if_neg m52, if_neg m53, if_neg m54, if_neg m55, if_neg m56, if_neg m57, if_neg m58, if_neg m59, if_neg m60, if_neg m62, if_pos h61]
    · rw [zsI_ne (by omega), zsI_ne (by omega)]; exact h3
    · rw [zsI_ne (by omega), zsI_at]; rfl
    · rw [zsI_at]; rfl
  have n61 := h61
  by_cases h62 : c = 62
  · skip
    have m40 : ¬ c = 40 := by omega
    have m41 : ¬ c = 41 := by omega
    have m42 : ¬ c = 42 := by omega
    have m43 : ¬ c = 43 := by omega
    have m44 : ¬ c = 44 := by omega
    have m45 : ¬ c = 45 := by omega
    have m46 : ¬ c = 46 := by omega
    have m47 : ¬ c = 47 := by omega
    have m48 : ¬ c = 48 := by omega
    have m49 : ¬ c = 49 := by omega
    have m50 : ¬ c = 50 := by omega
    have m51 : ¬ c = 51 := by omega
    have m52 : ¬ c = 52 := by omega
    have m53 : ¬ c = 53 := by omega
    have m54 : ¬ c = 54 := by omega
    have m55 : ¬ c = 55 := by omega
    have m56 : ¬ c = 56 := by omega
    have m57 : ¬ c = 57 := by omega
    have m58 : ¬ c = 58 := by omega
    have m59 : ¬ c = 59 := by omega
    have m60 : ¬ c = 60 := by omega
    have m61 : ¬ c = 61 := by omega
    by_cases b61 : b = 61
    · skip
      have e : sgT c b p = (8, 10, p, p + 2) := by unfold sgT; rw [if_neg n40, if_neg n41, if_neg n42, if_neg n43, if_neg n45, if_neg n47, if_neg n59, if_neg n60, if_neg n61, if_pos h62, if_pos b61]
      rw [e]
      refine ⟨zsI (zsI (zsI M 4 5 8) 4 6 10) 4 3 (nI (p + 2)), ?_, rfl, fun x y q => by unfold q43 at q; rw [zsI_ne (by omega), zsI_ne (by omega), zsI_ne (by omega)], zsI_at _ _ _ _, ?_, ?_, fun _ => ?_⟩
      · simp (disch := first | omega | simp only [qI2, qL2, qC2, qF2]) only [gX9_nextSign_36, lt40, lt41, lt42, lt43, lt44, lt45, lt46, lt47, lt48, lt49, lt50, lt51, lt52, lt53, lt54, lt55, lt56, lt57, lt58, lt59, lt60, lt61, lt62, nI_eq, ↓P, if_neg m40, if_neg m41, if_neg m42, if_neg m43, if_neg m44, if_neg m45, if_neg m46, if_neg m47, if_neg m48, if_neg m49, if_neg m50, if_neg m51, if_neg m52, if_neg m53, if_neg m54, if_neg m55, if_neg m56, if_neg m57, if_neg m58, if_neg m59, if_neg m60, if_neg m61, if_pos h62, if_pos b61]
        simp (disch := first | omega | simp only [qI2, qL2, qC2, qF2]) only [gX9_nextSign_291, ↓P, zsI_ne, zsI_at, h3, if_neg (show ¬ (10 : Int32) = 11 by decide), nI_1, z0]
      · rw [zsI_ne (by omega)]; exact g4 _ _ _ _ (by decide) (by decide)
      · rw [zsI_ne (by omega), zsI_ne (by omega), zsI_at]; rfl
      · rw [zsI_ne (by omega), zsI_at]; rfl
    · skip
      have e : sgT c b p = (8, 11, p, p + 1) := by unfold sgT; rw [if_neg n40, if_neg n41, if_neg n42, if_neg n43, if_neg n45, if_neg n47, if_neg n59, if_neg n60, if_neg n61, if_pos h62, if_neg b61]
      rw [e]
      refine ⟨zsI (zsI (zsI M 4 5 8) 4 6 11) 4 3 (nI (p + 1)), ?_, rfl, fun x y q => by unfold q43 at q; rw [zsI_ne (by omega), zsI_ne (by omega), zsI_ne (by omega)], zsI_at _ _ _ _, ?_, ?_, fun _ => ?_⟩
      · simp (disch := first | omega | simp only [qI2, qL2, qC2, qF2]) only [gX9_nextSign_36, lt40, lt41, lt42, lt43, lt44, lt45, lt46, lt47, lt48, lt49, lt50, lt51, lt52, lt53, lt54, lt55, lt56, lt57, lt58, lt59, lt60, lt61, lt62, nI_eq, ↓P, if_neg m40, if_neg m41, if_neg m42, if_neg m43, if_neg m44, if_neg m45, if_neg m46, if_neg m47, if_neg m48, if_neg m49, if_neg m50, if_neg m51, if_neg m52, if_neg m53, if_neg m54, if_neg m55, if_neg m56, if_neg m57, if_neg m58, if_neg m59, if_neg m60, if_neg m61, if_pos h62, if_neg b61]
        simp (disch := first | omega | simp only [qI2, qL2, qC2, qF2]) only [gX9_nextSign_291, ↓P, zsI_ne, zsI_at, h3, if_true, nI_1, z0]
      · rw [zsI_ne (by omega)]; exact g4 _ _ _ _ (by decide) (by decide)
      · rw [zsI_ne (by omega), zsI_ne (by omega), zsI_at]; rfl
      · rw [zsI_ne (by omega), zsI_at]; rfl
  have n62 := h62
  have e : sgT c b p = (1, 0, p, p + 1) := by unfold sgT; rw [if_neg n40, if_neg n41, if_neg n42, if_neg n43, if_neg n45, if_neg n47, if_neg n59, if_neg n60, if_neg n61, if_neg n62]
  rw [e]
  refine ⟨zsI (zsI M 4 5 8) 4 5 1, ?_, rfl, fun x y q => by unfold q43 at q; rw [zsI_ne (by omega), zsI_ne (by omega)], ?_, g4 _ _ _ _ (by decide) (by decide), ?_, fun q => ?_⟩
  · simp (disch := first | omega | simp only [qI2, qL2, qC2, qF2]) only [gX9_nextSign_36, lt40, lt41, lt42, lt43, lt44, lt45, lt46, lt47, lt48, lt49, lt50, lt51, lt52, lt53, lt54, lt55, lt56, lt57, lt58, lt59, lt60, lt61, lt62, nI_eq, ↓P, if_neg n40, if_neg n41, if_neg n42, if_neg n43, if_neg n45, if_neg n47, if_neg n59, if_neg n60, if_neg n61, if_neg n62, ite_self]
  · rw [zsI_ne (by omega), zsI_ne (by omega)]; exact h3
  · rw [zsI_at]; rfl
  · rcases q with q | q | q | q <;> cases q
theorem c_sign {S : List (Nat × Nat)} {M : zM} {T : Nat → Nat} {n p : Nat} (hx : cTx S M.2.2 M.1 T n) (hp : p < n) (h3 : M.1 4 3 = nI p) (h4 : M.1 4 4 = nI p) : ∃ M', gX9_nextSign S 4 (nI (T p)) M = some M' ∧ M'.2.2 = M.2.2 ∧ (∀ x y, ¬ q43 x y → M'.1 x y = M.1 x y) ∧ cTk M'.1 (sgT (T p) (if p + 1 < n then T (p + 1) else 0) p) := by
  obtain ⟨⟨hS, hR, h41⟩, hn, hn7, hT, hW⟩ := hx
  have P := cP hS hR
  have gB : ∀ (ρ : Type) (M' : zM) (f : Nat → Option ρ), M'.2.2 = M.2.2 → zgR S M' 4 9 7 1 f = f 1 := fun ρ M' f h => zgR_of ((hS 4 (by decide)).trans rfl) h41 M' f h
  have tp := hT p hp
  by_cases h : p + 1 < n
  · have hc : ¬ n ≤ p + 1 := by omega
    have tq := hT (p + 1) h
    have tq1 := tq.1
    obtain ⟨M', e1, e2, e3, e4⟩ := c_36 (S := S) (M := zsI M 4 3 (nI (p + 1))) (c := T p) (b := T (p + 1)) (p := p) hS hR tp.2 tq.2 (zsI_at _ _ _ _) (by rw [zsI_ne (by omega)]; exact h4)
    rw [if_pos h]
    refine ⟨M', ?_, e2, fun x y q => by rw [e3 x y q, zsI_ne (by unfold q43 at q; omega)], e4⟩
    rw [← e1]
    simp (disch := first | omega | simp only [qI2, qL2, qC2, qF2]) only [gX9_nextSign, ↓P, h3, nI_1, zsI_at, zsI_ne, hn, nI_leI, if_neg hc, ↓gB, tq1]
  · have hc : n ≤ p + 1 := by omega
    obtain ⟨M', e1, e2, e3, e4⟩ := c_36 (S := S) (M := zsI M 4 3 (nI (p + 1))) (c := T p) (b := 0) (p := p) hS hR tp.2 (by decide) (zsI_at _ _ _ _) (by rw [zsI_ne (by omega)]; exact h4)
    rw [if_neg h]
    refine ⟨M', ?_, e2, fun x y q => by rw [e3 x y q, zsI_ne (by unfold q43 at q; omega)], e4⟩
    rw [← e1]
    simp (disch := first | omega | simp only [qI2, qL2, qC2, qF2]) only [gX9_nextSign, ↓P, h3, nI_1, zsI_at, zsI_ne, hn, nI_leI, if_pos hc]
    rfl
theorem c_next {S : List (Nat × Nat)} {M : zM} {T : Nat → Nat} {n a : Nat} (hx : cTx S M.2.2 M.1 T n) (ha : a ≤ n) (h3 : M.1 4 3 = nI a) : ∃ M', gX9_next S 4 M = some M' ∧ M'.2.2 = M.2.2 ∧ (∀ x y, ¬ q43 x y → M'.1 x y = M.1 x y) ∧ cTk M'.1 (tokS T n a) := by
  obtain ⟨⟨hS, hR, h41⟩, hn, hn7, hT, hW⟩ := id hx
  obtain ⟨M1, a1, a2, a3, a4⟩ := c_blank hx (n - a) zfu a M (by omega) (by unfold zfu; omega) rfl (fun _ _ _ => rfl) h3
  obtain ⟨b1, b2, b3, b4⟩ := endR_b (p := isBl) (T := T) ha
  unfold tokS
  generalize endR isBl T n a = p at a4 b1 b2 b3 b4
  have hR1 : pRf M1.2.2 := a2 ▸ hR
  have P := cP hS hR1
  have h41' : M1.2.2 4 1 = some 1 := by rw [a2]; exact h41
  have gB : ∀ (ρ : Type) (M' : zM) (f : Nat → Option ρ), M'.2.2 = M1.2.2 → zgR S M' 4 9 7 1 f = f 1 := fun ρ M' f h => zgR_of ((hS 4 (by decide)).trans rfl) h41' M' f h
  have hn1 : M1.1 4 2 = nI n := (a3 4 2 (by unfold q43; omega)).trans hn
  have hr1 := row_of hS hR1 1 700 (by decide)
  have hx2 : cTx S (zsI M1 4 4 (nI p)).2.2 (zsI M1 4 4 (nI p)).1 T n := by
    rw [qI2, a2]
    exact cTx_cg (fun x y q _ _ => by rw [zsI_ne (by omega)]; exact a3 x y q) hx
  have e3' : (zsI M1 4 4 (nI p)).1 4 3 = nI p := by rw [zsI_ne (by omega)]; exact a4
  have off : ∀ M' : zM, (∀ x y, ¬ q43 x y → M'.1 x y = (zsI M1 4 4 (nI p)).1 x y) → ∀ x y, ¬ q43 x y → M'.1 x y = M.1 x y := fun M' h x y q => by
    rw [h x y q, zsI_ne (by unfold q43 at q; omega)]
    exact a3 x y q
  have nx : gX9_next S 4 M = gX9_next_41 S 4 M1 := a1
  rw [nx]
  unfold tkP
  by_cases c1 : n ≤ p
  · have pn : p = n := by omega
    have hc : ¬ p < n := by omega
    rw [if_pos c1]
    have gv : ∃ v, gX5_get S 1 (nI p) (zsI M1 4 4 (nI p)) = some v := by
      by_cases h7 : p < 700
      · exact ⟨_, e_getR hr1 h7 (zsI M1 4 4 (nI p)) rfl⟩
      · exact ⟨0, e_getN (M := zsI M1 4 4 (nI p)) hr1 (by omega) (by omega)⟩
    obtain ⟨v, hv⟩ := gv
    refine ⟨zsI (zsI M1 4 4 (nI p)) 4 5 0, ?_, a2, off _ (fun x y q => zsI_ne (by unfold q43 at q; omega)), ?_, ?_, zsI_at _ _ _ _, fun q => ?_⟩
    · simp (disch := first | omega | simp only [qI2, qL2, qC2, qF2]) only [gX9_next_41, ↓P, a4, ↓gB, zsI_ne, ↓bind_of hv, hn1, nI_ltI, if_neg hc]
    · rw [zsI_ne (by omega)]; exact e3'
    · rw [zsI_ne (by omega), zsI_at]
    · rcases q with q | q | q | q <;> cases q
  · have hp : p < n := by omega
    have tp := hT p hp
    have gt : M1.1 2 p = nI (T p) := (a3 2 p (by unfold q43; omega)).trans tp.1
    rw [if_neg c1]
    have il := e_isLt (S := S) (M := zsI M1 4 4 (nI p)) tp.2
    have ig := e_isDg (S := S) (M := zsI M1 4 4 (nI p)) tp.2
    cases q1 : isLt (T p) with
    | true =>
      rw [q1] at il
      rw [if_pos rfl]
      have cd0 : nI (cdS T p (min (p - p) 6)) = 0 := by
        rw [Nat.sub_self]
        show nI (0 * 2 ^ 30) = 0
        rw [Nat.zero_mul]
        rfl
      obtain ⟨M2, w1, w2, w3, w4⟩ := c_w2 (p := p) hx2 (n - p) zfu p (zsI M1 4 4 (nI p)) (by omega) (by unfold zfu; omega) (Nat.le_refl _) (fun j h1 h2 => by omega) rfl (fun _ _ _ => rfl) e3' (zsI_at _ _ _ _)
      rw [cd0] at w1
      have w1' : gX9_nextWord S 4 (zsI M1 4 4 (nI p)) = some M2 := w1
      refine ⟨M2, ?_, w2.trans a2, off M2 w3, w4⟩
      simp (disch := first | omega | simp only [qI2, qL2, qC2, qF2]) only [gX9_next_41, ↓P, a4, ↓gB, zsI_ne, gt, hn1, nI_ltI, if_pos hp, ↓bind_of il, if_neg bIt, ↓bind_of w1']
    | false =>
      rw [q1] at il
      rw [if_neg Bool.false_ne_true]
      cases q2 : isDg (T p) with
      | true =>
        rw [q2] at ig
        rw [if_pos rfl]
        obtain ⟨M2, w1, w2, w3, w4, w5⟩ := c_number (I := (zsI (zsI (zsI M1 4 4 (nI p)) 4 5 4) 4 6 0).1) (R := (zsI M1 4 4 (nI p)).2.2) (T := T) (n := n) (cTx_cg (fun x y q _ _ => by rw [zsI_ne (by omega), zsI_ne (by omega)]) hx2) (n - p) zfu p 0 (zsI (zsI (zsI M1 4 4 (nI p)) 4 5 4) 4 6 0) (by omega) (by unfold zfu; omega) (Nat.zero_le _) rfl (fun _ _ _ => rfl) (by rw [zsI_ne (by omega), zsI_ne (by omega)]; exact e3') (zsI_at _ _ _ _)
        have w1' : gX9_nextNumber S 4 (zsI M1 4 4 (nI p)) = some M2 := by
          simp (disch := first | omega | simp only [qI2, qL2, qC2, qF2]) only [gX9_nextNumber, ↓P]
          exact w1
        refine ⟨M2, ?_, w2.trans a2, off M2 (fun x y q => by rw [w3 x y (by unfold q43 at q; omega), zsI_ne (by unfold q43 at q; omega), zsI_ne (by unfold q43 at q; omega)]), w4, ?_, ?_, fun _ => w5⟩
        · simp (disch := first | omega | simp only [qI2, qL2, qC2, qF2]) only [gX9_next_41, ↓P, a4, ↓gB, zsI_ne, gt, hn1, nI_ltI, if_pos hp, ↓bind_of il, bIf, if_true, ↓bind_of ig, if_neg bIt, ↓bind_of w1']
        · rw [w3 4 4 (by omega), zsI_ne (by omega), zsI_ne (by omega), zsI_at]
        · rw [w3 4 5 (by omega), zsI_ne (by omega), zsI_at]; rfl
      | false =>
        rw [q2] at ig
        rw [if_neg Bool.false_ne_true]
        obtain ⟨M2, w1, w2, w3, w4⟩ := c_sign hx2 hp e3' (zsI_at _ _ _ _)
        refine ⟨M2, ?_, w2.trans a2, off M2 w3, w4⟩
        simp (disch := first | omega | simp only [qI2, qL2, qC2, qF2]) only [gX9_next_41, ↓P, a4, ↓gB, zsI_ne, gt, hn1, nI_ltI, if_pos hp, ↓bind_of il, bIf, if_true, ↓bind_of ig, ↓bind_of w1]
