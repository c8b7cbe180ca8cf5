/-! the two strings among the words that the entry gives -/
set_option maxRecDepth 100000 in
set_option maxHeartbeats 4000000 in
theorem zseg_1 : ((flatC (Jvm.Cond.and given_1 narrow_1)).drop 43).take 103 = (List.range 103).map (fun j => Cond.eq (.elem (.field (.string "DayOpeners$Tokens" 23) "java/lang/String" "value" "[B") (.int (Int32.ofNat j))) (.int (zT1.getD j 0))) := by rfl
theorem zsegs_1 : ∀ j : Nat, j < zT1.length → (Cond.eq (.elem (.field (.string "DayOpeners$Tokens" 23) "java/lang/String" "value" "[B") (.int (Int32.ofNat j))) (.int (zT1.getD j 0))) ∈ flatC (Jvm.Cond.and given_1 narrow_1) := by
  intro j hj
  have hl : zT1.length = 103 := rfl
  have h1 : (Cond.eq (.elem (.field (.string "DayOpeners$Tokens" 23) "java/lang/String" "value" "[B") (.int (Int32.ofNat j))) (.int (zT1.getD j 0))) ∈ ((flatC (Jvm.Cond.and given_1 narrow_1)).drop 43).take 103 := by
    rw [zseg_1]
    exact List.mem_map.mpr ⟨j, List.mem_range.mpr (hl ▸ hj), rfl⟩
  exact List.mem_of_mem_drop (List.mem_of_mem_take h1)
set_option maxRecDepth 100000 in
set_option maxHeartbeats 4000000 in
theorem zseg_2 : ((flatC (Jvm.Cond.and given_1 narrow_1)).drop 150).take 104 = (List.range 104).map (fun j => Cond.eq (.elem (.field (.string "DayOpenersModel" 194) "java/lang/String" "value" "[B") (.int (Int32.ofNat j))) (.int (zT2.getD j 0))) := by rfl
theorem zsegs_2 : ∀ j : Nat, j < zT2.length → (Cond.eq (.elem (.field (.string "DayOpenersModel" 194) "java/lang/String" "value" "[B") (.int (Int32.ofNat j))) (.int (zT2.getD j 0))) ∈ flatC (Jvm.Cond.and given_1 narrow_1) := by
  intro j hj
  have hl : zT2.length = 104 := rfl
  have h1 : (Cond.eq (.elem (.field (.string "DayOpenersModel" 194) "java/lang/String" "value" "[B") (.int (Int32.ofNat j))) (.int (zT2.getD j 0))) ∈ ((flatC (Jvm.Cond.and given_1 narrow_1)).drop 150).take 104 := by
    rw [zseg_2]
    exact List.mem_map.mpr ⟨j, List.mem_range.mpr (hl ▸ hj), rfl⟩
  exact List.mem_of_mem_drop (List.mem_of_mem_take h1)
