/-! rows of AJ that leave the heap alone: written by wip/whole/gen/mkrows.py -/
def zst (ls : List (Nat × Value)) (i : Nat) (v : Value) : List (Nat × Value) := (i, v) :: ls.filter (fun q => !(q.1 == i) && !(q.1 + 1 == i && q.2.category == 2))
def zst2 (ls : List (Nat × Value)) (i : Nat) (v : Value) : List (Nat × Value) := (i, v) :: ls.filter (fun q => !(q.1 == i) && (!(q.1 == i + 1) && !(q.1 + 1 == i && q.2.category == 2)))
theorem zv_cat (B : Nat) (v : Value) : (zv B v).category = v.category := by cases v <;> rfl
theorem zst_map (B : Nat) (ls : List (Nat × Value)) (i : Nat) (v : Value) : (i, zv B v) :: (zls B ls).filter (fun q => !(q.1 == i) && !(q.1 + 1 == i && q.2.category == 2)) = zls B (zst ls i v) := by
  simp only [zst, zls, List.map_cons, List.filter_map, Function.comp_def, zv_cat]
theorem zst2_map (B : Nat) (ls : List (Nat × Value)) (i : Nat) (v : Value) : (i, zv B v) :: (zls B ls).filter (fun q => !(q.1 == i) && (!(q.1 == i + 1) && !(q.1 + 1 == i && q.2.category == 2))) = zls B (zst2 ls i v) := by
  simp only [zst2, zls, List.map_cons, List.filter_map, Function.comp_def, zv_cat]
theorem zls_get {B : Nat} {ls : List (Nat × Value)} {k i : Nat} {v : Value} (h : ls[k]? = some (i, v)) : (zls B ls)[k]? = some (i, zv B v) := by
  simp [zls, h]
theorem zrest (B : Nat) (st : List Value) : ((st.map (zv B)).map fun v => v.category).sum = (st.map fun v => v.category).sum := by
  simp [Function.comp_def, zv_cat]
theorem aj_iconst {ρ : Type} {fin : ρ → Option Value × zH} {w : zWd} {d : Nat} {mi : zMI} {pc : Nat} {ls : List (Nat × Value)} {st : List Value} {σ : zH} {o : Option ρ} {n : Int} {v : Int32} (hdg : decode mi.2.1 pc = .ok (.iconst n, 1)) (hv : Int32.ofInt n = v) (k : AJ fin w d mi (pc + 1) ls (.int v :: st) σ o) : AJ fin w d mi (pc) ls (st) σ o := by
  intro r hr p e R s m args below meth c H locs cells slots c0 s0 lsr hA hD hl
  exact lv_iconst hA.1 hA.2.1 hdg hv (k r hr p e R s m args below meth c H locs cells slots c0 s0 lsr hA hD hl)
theorem aj_bipush {ρ : Type} {fin : ρ → Option Value × zH} {w : zWd} {d : Nat} {mi : zMI} {pc : Nat} {ls : List (Nat × Value)} {st : List Value} {σ : zH} {o : Option ρ} {n : Int} {v : Int32} (hdg : decode mi.2.1 pc = .ok (.bipush n, 2)) (hv : (Int8.ofInt n).toInt32 = v) (k : AJ fin w d mi (pc + 2) ls (.int v :: st) σ o) : AJ fin w d mi (pc) ls (st) σ o := by
  intro r hr p e R s m args below meth c H locs cells slots c0 s0 lsr hA hD hl
  exact lv_bipush hA.1 hA.2.1 hdg hv (k r hr p e R s m args below meth c H locs cells slots c0 s0 lsr hA hD hl)
theorem aj_sipush {ρ : Type} {fin : ρ → Option Value × zH} {w : zWd} {d : Nat} {mi : zMI} {pc : Nat} {ls : List (Nat × Value)} {st : List Value} {σ : zH} {o : Option ρ} {n : Int} {v : Int32} (hdg : decode mi.2.1 pc = .ok (.sipush n, 3)) (hv : (Int16.ofInt n).toInt32 = v) (k : AJ fin w d mi (pc + 3) ls (.int v :: st) σ o) : AJ fin w d mi (pc) ls (st) σ o := by
  intro r hr p e R s m args below meth c H locs cells slots c0 s0 lsr hA hD hl
  exact lv_sipush hA.1 hA.2.1 hdg hv (k r hr p e R s m args below meth c H locs cells slots c0 s0 lsr hA hD hl)
theorem aj_lconst {ρ : Type} {fin : ρ → Option Value × zH} {w : zWd} {d : Nat} {mi : zMI} {pc : Nat} {ls : List (Nat × Value)} {st : List Value} {σ : zH} {o : Option ρ} {n : Fin 2} {v : Int64} (hdg : decode mi.2.1 pc = .ok (.lconst n, 1)) (hv : Int64.ofNat (n : Nat) = v) (k : AJ fin w d mi (pc + 1) ls (.long v :: st) σ o) : AJ fin w d mi (pc) ls (st) σ o := by
  intro r hr p e R s m args below meth c H locs cells slots c0 s0 lsr hA hD hl
  exact lv_lconst hA.1 hA.2.1 hdg hv (k r hr p e R s m args below meth c H locs cells slots c0 s0 lsr hA hD hl)
theorem aj_ldc {ρ : Type} {fin : ρ → Option Value × zH} {w : zWd} {d : Nat} {mi : zMI} {pc : Nat} {ls : List (Nat × Value)} {st : List Value} {σ : zH} {o : Option ρ} {i : Nat} {v : Int32} (hdg : decode mi.2.1 pc = .ok (.ldc i, 2)) (hv : Cond.constant mi.1.cls i v ∈ zG) (k : AJ fin w d mi (pc + 2) ls (.int v :: st) σ o) : AJ fin w d mi (pc) ls (st) σ o := by
  intro r hr p e R s m args below meth c H locs cells slots c0 s0 lsr hA hD hl
  exact lv_ldc hA.1 hA.2.1 hA.2.2.2.2.1 (hA.2.2.2.2.2.2.1 _ hv) hdg (k r hr p e R s m args below meth c H locs cells slots c0 s0 lsr hA hD hl)
theorem aj_ldcw {ρ : Type} {fin : ρ → Option Value × zH} {w : zWd} {d : Nat} {mi : zMI} {pc : Nat} {ls : List (Nat × Value)} {st : List Value} {σ : zH} {o : Option ρ} {i : Nat} {v : Int32} (hdg : decode mi.2.1 pc = .ok (.ldc_w i, 3)) (hv : Cond.constant mi.1.cls i v ∈ zG) (k : AJ fin w d mi (pc + 3) ls (.int v :: st) σ o) : AJ fin w d mi (pc) ls (st) σ o := by
  intro r hr p e R s m args below meth c H locs cells slots c0 s0 lsr hA hD hl
  exact lv_ldcw hA.1 hA.2.1 hA.2.2.2.2.1 (hA.2.2.2.2.2.2.1 _ hv) hdg (k r hr p e R s m args below meth c H locs cells slots c0 s0 lsr hA hD hl)
theorem aj_ldc2 {ρ : Type} {fin : ρ → Option Value × zH} {w : zWd} {d : Nat} {mi : zMI} {pc : Nat} {ls : List (Nat × Value)} {st : List Value} {σ : zH} {o : Option ρ} {i : Nat} {v : Int64} (hdg : decode mi.2.1 pc = .ok (.ldc2_w i, 3)) (hv : Cond.constantLong mi.1.cls i v ∈ zG) (k : AJ fin w d mi (pc + 3) ls (.long v :: st) σ o) : AJ fin w d mi (pc) ls (st) σ o := by
  intro r hr p e R s m args below meth c H locs cells slots c0 s0 lsr hA hD hl
  exact lv_ldc2 hA.1 hA.2.1 hA.2.2.2.2.1 (hA.2.2.2.2.2.2.1 _ hv) hdg (k r hr p e R s m args below meth c H locs cells slots c0 s0 lsr hA hD hl)
theorem aj_iload_n {ρ : Type} {fin : ρ → Option Value × zH} {w : zWd} {d : Nat} {mi : zMI} {pc : Nat} {ls : List (Nat × Value)} {st : List Value} {σ : zH} {o : Option ρ} {k : Fin 4} {i : Nat} {x : Int32} (j : Nat) (hdg : decode mi.2.1 pc = .ok (.iload_n k, 1)) (hi : (k : Nat) = i) (hg : ls[j]? = some (i, .int x)) (k : AJ fin w d mi (pc + 1) ls (.int x :: st) σ o) : AJ fin w d mi (pc) ls (st) σ o := by
  intro r hr p e R s m args below meth c H locs cells slots c0 s0 lsr hA hD hl
  exact lv_iload_n hA.1 hA.2.1 hdg hi (lv_at hl j (zls_get hg)) (k r hr p e R s m args below meth c H locs cells slots c0 s0 lsr hA hD hl)
theorem aj_iload {ρ : Type} {fin : ρ → Option Value × zH} {w : zWd} {d : Nat} {mi : zMI} {pc : Nat} {ls : List (Nat × Value)} {st : List Value} {σ : zH} {o : Option ρ} {i : Nat} {x : Int32} (j : Nat) (hdg : decode mi.2.1 pc = .ok (.iload i, 2)) (hg : ls[j]? = some (i, .int x)) (k : AJ fin w d mi (pc + 2) ls (.int x :: st) σ o) : AJ fin w d mi (pc) ls (st) σ o := by
  intro r hr p e R s m args below meth c H locs cells slots c0 s0 lsr hA hD hl
  exact lv_iload hA.1 hA.2.1 hdg (lv_at hl j (zls_get hg)) (k r hr p e R s m args below meth c H locs cells slots c0 s0 lsr hA hD hl)
theorem aj_lload_n {ρ : Type} {fin : ρ → Option Value × zH} {w : zWd} {d : Nat} {mi : zMI} {pc : Nat} {ls : List (Nat × Value)} {st : List Value} {σ : zH} {o : Option ρ} {k : Fin 4} {i : Nat} {x : Int64} (j : Nat) (hdg : decode mi.2.1 pc = .ok (.lload_n k, 1)) (hi : (k : Nat) = i) (hg : ls[j]? = some (i, .long x)) (k : AJ fin w d mi (pc + 1) ls (.long x :: st) σ o) : AJ fin w d mi (pc) ls (st) σ o := by
  intro r hr p e R s m args below meth c H locs cells slots c0 s0 lsr hA hD hl
  exact lv_lload_n hA.1 hA.2.1 hdg hi (lv_at hl j (zls_get hg)) (k r hr p e R s m args below meth c H locs cells slots c0 s0 lsr hA hD hl)
theorem aj_lload {ρ : Type} {fin : ρ → Option Value × zH} {w : zWd} {d : Nat} {mi : zMI} {pc : Nat} {ls : List (Nat × Value)} {st : List Value} {σ : zH} {o : Option ρ} {i : Nat} {x : Int64} (j : Nat) (hdg : decode mi.2.1 pc = .ok (.lload i, 2)) (hg : ls[j]? = some (i, .long x)) (k : AJ fin w d mi (pc + 2) ls (.long x :: st) σ o) : AJ fin w d mi (pc) ls (st) σ o := by
  intro r hr p e R s m args below meth c H locs cells slots c0 s0 lsr hA hD hl
  exact lv_lload hA.1 hA.2.1 hdg (lv_at hl j (zls_get hg)) (k r hr p e R s m args below meth c H locs cells slots c0 s0 lsr hA hD hl)
theorem aj_aload_n {ρ : Type} {fin : ρ → Option Value × zH} {w : zWd} {d : Nat} {mi : zMI} {pc : Nat} {ls : List (Nat × Value)} {st : List Value} {σ : zH} {o : Option ρ} {k : Fin 4} {i : Nat} {x : Nat} (j : Nat) (hdg : decode mi.2.1 pc = .ok (.aload_n k, 1)) (hi : (k : Nat) = i) (hg : ls[j]? = some (i, .ref x)) (k : AJ fin w d mi (pc + 1) ls (.ref x :: st) σ o) : AJ fin w d mi (pc) ls (st) σ o := by
  intro r hr p e R s m args below meth c H locs cells slots c0 s0 lsr hA hD hl
  exact lv_aload_n hA.1 hA.2.1 hdg hi (lv_at hl j (zls_get hg)) (k r hr p e R s m args below meth c H locs cells slots c0 s0 lsr hA hD hl)
theorem aj_aload {ρ : Type} {fin : ρ → Option Value × zH} {w : zWd} {d : Nat} {mi : zMI} {pc : Nat} {ls : List (Nat × Value)} {st : List Value} {σ : zH} {o : Option ρ} {i : Nat} {x : Nat} (j : Nat) (hdg : decode mi.2.1 pc = .ok (.aload i, 2)) (hg : ls[j]? = some (i, .ref x)) (k : AJ fin w d mi (pc + 2) ls (.ref x :: st) σ o) : AJ fin w d mi (pc) ls (st) σ o := by
  intro r hr p e R s m args below meth c H locs cells slots c0 s0 lsr hA hD hl
  exact lv_aload hA.1 hA.2.1 hdg (lv_at hl j (zls_get hg)) (k r hr p e R s m args below meth c H locs cells slots c0 s0 lsr hA hD hl)
theorem aj_istore_n {ρ : Type} {fin : ρ → Option Value × zH} {w : zWd} {d : Nat} {mi : zMI} {pc : Nat} {ls : List (Nat × Value)} {st : List Value} {σ : zH} {o : Option ρ} {k : Fin 4} {i : Nat} {x : Int32} {ls2 : List (Nat × Value)} (hdg : decode mi.2.1 pc = .ok (.istore_n k, 1)) (hi : (k : Nat) = i) (hn : i < mi.2.2.1) (h2 : zst ls i (.int x) = ls2) (k : AJ fin w d mi (pc + 1) ls2 (st) σ o) : AJ fin w d mi (pc) ls (.int x :: st) σ o := by
  intro r hr p e R s m args below meth c H locs cells slots c0 s0 lsr hA hD hl
  subst h2
  exact lv_istore_n hA.1 hA.2.1 hdg hi hl hn (zst_map _ ls i (.int x)) (fun ls9 hl9 => k r hr p e R s m args below meth c H locs cells slots c0 s0 ls9 hA hD hl9)
theorem aj_istore {ρ : Type} {fin : ρ → Option Value × zH} {w : zWd} {d : Nat} {mi : zMI} {pc : Nat} {ls : List (Nat × Value)} {st : List Value} {σ : zH} {o : Option ρ} {i : Nat} {x : Int32} {ls2 : List (Nat × Value)} (hdg : decode mi.2.1 pc = .ok (.istore i, 2)) (hn : i < mi.2.2.1) (h2 : zst ls i (.int x) = ls2) (k : AJ fin w d mi (pc + 2) ls2 (st) σ o) : AJ fin w d mi (pc) ls (.int x :: st) σ o := by
  intro r hr p e R s m args below meth c H locs cells slots c0 s0 lsr hA hD hl
  subst h2
  exact lv_istore hA.1 hA.2.1 hdg hl hn (zst_map _ ls i (.int x)) (fun ls9 hl9 => k r hr p e R s m args below meth c H locs cells slots c0 s0 ls9 hA hD hl9)
theorem aj_lstore_n {ρ : Type} {fin : ρ → Option Value × zH} {w : zWd} {d : Nat} {mi : zMI} {pc : Nat} {ls : List (Nat × Value)} {st : List Value} {σ : zH} {o : Option ρ} {k : Fin 4} {i : Nat} {x : Int64} {ls2 : List (Nat × Value)} (hdg : decode mi.2.1 pc = .ok (.lstore_n k, 1)) (hi : (k : Nat) = i) (hn : i + 1 < mi.2.2.1) (h2 : zst2 ls i (.long x) = ls2) (k : AJ fin w d mi (pc + 1) ls2 (st) σ o) : AJ fin w d mi (pc) ls (.long x :: st) σ o := by
  intro r hr p e R s m args below meth c H locs cells slots c0 s0 lsr hA hD hl
  subst h2
  exact lv_lstore_n hA.1 hA.2.1 hdg hi hl hn (zst2_map _ ls i (.long x)) (fun ls9 hl9 => k r hr p e R s m args below meth c H locs cells slots c0 s0 ls9 hA hD hl9)
theorem aj_lstore {ρ : Type} {fin : ρ → Option Value × zH} {w : zWd} {d : Nat} {mi : zMI} {pc : Nat} {ls : List (Nat × Value)} {st : List Value} {σ : zH} {o : Option ρ} {i : Nat} {x : Int64} {ls2 : List (Nat × Value)} (hdg : decode mi.2.1 pc = .ok (.lstore i, 2)) (hn : i + 1 < mi.2.2.1) (h2 : zst2 ls i (.long x) = ls2) (k : AJ fin w d mi (pc + 2) ls2 (st) σ o) : AJ fin w d mi (pc) ls (.long x :: st) σ o := by
  intro r hr p e R s m args below meth c H locs cells slots c0 s0 lsr hA hD hl
  subst h2
  exact lv_lstore hA.1 hA.2.1 hdg hl hn (zst2_map _ ls i (.long x)) (fun ls9 hl9 => k r hr p e R s m args below meth c H locs cells slots c0 s0 ls9 hA hD hl9)
theorem aj_astore_n {ρ : Type} {fin : ρ → Option Value × zH} {w : zWd} {d : Nat} {mi : zMI} {pc : Nat} {ls : List (Nat × Value)} {st : List Value} {σ : zH} {o : Option ρ} {k : Fin 4} {i : Nat} {x : Nat} {ls2 : List (Nat × Value)} (hdg : decode mi.2.1 pc = .ok (.astore_n k, 1)) (hi : (k : Nat) = i) (hn : i < mi.2.2.1) (h2 : zst ls i (.ref x) = ls2) (k : AJ fin w d mi (pc + 1) ls2 (st) σ o) : AJ fin w d mi (pc) ls (.ref x :: st) σ o := by
  intro r hr p e R s m args below meth c H locs cells slots c0 s0 lsr hA hD hl
  subst h2
  exact lv_astore_n hA.1 hA.2.1 hdg hi hl hn (zst_map _ ls i (.ref x)) (fun ls9 hl9 => k r hr p e R s m args below meth c H locs cells slots c0 s0 ls9 hA hD hl9)
theorem aj_astore {ρ : Type} {fin : ρ → Option Value × zH} {w : zWd} {d : Nat} {mi : zMI} {pc : Nat} {ls : List (Nat × Value)} {st : List Value} {σ : zH} {o : Option ρ} {i : Nat} {x : Nat} {ls2 : List (Nat × Value)} (hdg : decode mi.2.1 pc = .ok (.astore i, 2)) (hn : i < mi.2.2.1) (h2 : zst ls i (.ref x) = ls2) (k : AJ fin w d mi (pc + 2) ls2 (st) σ o) : AJ fin w d mi (pc) ls (.ref x :: st) σ o := by
  intro r hr p e R s m args below meth c H locs cells slots c0 s0 lsr hA hD hl
  subst h2
  exact lv_astore hA.1 hA.2.1 hdg hl hn (zst_map _ ls i (.ref x)) (fun ls9 hl9 => k r hr p e R s m args below meth c H locs cells slots c0 s0 ls9 hA hD hl9)
theorem aj_iinc {ρ : Type} {fin : ρ → Option Value × zH} {w : zWd} {d : Nat} {mi : zMI} {pc : Nat} {ls : List (Nat × Value)} {st : List Value} {σ : zH} {o : Option ρ} {i j : Nat} {n : Int} {x v : Int32} {ls2 : List (Nat × Value)} (hdg : decode mi.2.1 pc = .ok (.iinc i n, 3)) (hg : ls[j]? = some (i, .int x)) (hv : x + Int32.ofInt n = v) (hn : i < mi.2.2.1) (h2 : zst ls i (.int v) = ls2) (k : AJ fin w d mi (pc + 3) ls2 (st) σ o) : AJ fin w d mi (pc) ls (st) σ o := by
  intro r hr p e R s m args below meth c H locs cells slots c0 s0 lsr hA hD hl
  subst h2
  exact lv_iinc hA.1 hA.2.1 hdg hl (zls_get hg) hv hn (zst_map _ ls i (.int v)) (fun ls9 hl9 => k r hr p e R s m args below meth c H locs cells slots c0 s0 ls9 hA hD hl9)
theorem aj_iadd {ρ : Type} {fin : ρ → Option Value × zH} {w : zWd} {d : Nat} {mi : zMI} {pc : Nat} {ls : List (Nat × Value)} {st : List Value} {σ : zH} {o : Option ρ} {x y : Int32} (hdg : decode mi.2.1 pc = .ok (.iadd, 1)) (k : AJ fin w d mi (pc + 1) ls (.int (x + y) :: st) σ o) : AJ fin w d mi (pc) ls (.int y :: .int x :: st) σ o := by
  intro r hr p e R s m args below meth c H locs cells slots c0 s0 lsr hA hD hl
  exact lv_iadd hA.1 hA.2.1 hdg (k r hr p e R s m args below meth c H locs cells slots c0 s0 lsr hA hD hl)
theorem aj_isub {ρ : Type} {fin : ρ → Option Value × zH} {w : zWd} {d : Nat} {mi : zMI} {pc : Nat} {ls : List (Nat × Value)} {st : List Value} {σ : zH} {o : Option ρ} {x y : Int32} (hdg : decode mi.2.1 pc = .ok (.isub, 1)) (k : AJ fin w d mi (pc + 1) ls (.int (x - y) :: st) σ o) : AJ fin w d mi (pc) ls (.int y :: .int x :: st) σ o := by
  intro r hr p e R s m args below meth c H locs cells slots c0 s0 lsr hA hD hl
  exact lv_isub hA.1 hA.2.1 hdg (k r hr p e R s m args below meth c H locs cells slots c0 s0 lsr hA hD hl)
theorem aj_imul {ρ : Type} {fin : ρ → Option Value × zH} {w : zWd} {d : Nat} {mi : zMI} {pc : Nat} {ls : List (Nat × Value)} {st : List Value} {σ : zH} {o : Option ρ} {x y : Int32} (hdg : decode mi.2.1 pc = .ok (.imul, 1)) (k : AJ fin w d mi (pc + 1) ls (.int (x * y) :: st) σ o) : AJ fin w d mi (pc) ls (.int y :: .int x :: st) σ o := by
  intro r hr p e R s m args below meth c H locs cells slots c0 s0 lsr hA hD hl
  exact lv_imul hA.1 hA.2.1 hdg (k r hr p e R s m args below meth c H locs cells slots c0 s0 lsr hA hD hl)
theorem aj_iand {ρ : Type} {fin : ρ → Option Value × zH} {w : zWd} {d : Nat} {mi : zMI} {pc : Nat} {ls : List (Nat × Value)} {st : List Value} {σ : zH} {o : Option ρ} {x y : Int32} (hdg : decode mi.2.1 pc = .ok (.iand, 1)) (k : AJ fin w d mi (pc + 1) ls (.int (x &&& y) :: st) σ o) : AJ fin w d mi (pc) ls (.int y :: .int x :: st) σ o := by
  intro r hr p e R s m args below meth c H locs cells slots c0 s0 lsr hA hD hl
  exact lv_iand hA.1 hA.2.1 hdg (k r hr p e R s m args below meth c H locs cells slots c0 s0 lsr hA hD hl)
theorem aj_ior {ρ : Type} {fin : ρ → Option Value × zH} {w : zWd} {d : Nat} {mi : zMI} {pc : Nat} {ls : List (Nat × Value)} {st : List Value} {σ : zH} {o : Option ρ} {x y : Int32} (hdg : decode mi.2.1 pc = .ok (.ior, 1)) (k : AJ fin w d mi (pc + 1) ls (.int (x ||| y) :: st) σ o) : AJ fin w d mi (pc) ls (.int y :: .int x :: st) σ o := by
  intro r hr p e R s m args below meth c H locs cells slots c0 s0 lsr hA hD hl
  exact lv_ior hA.1 hA.2.1 hdg (k r hr p e R s m args below meth c H locs cells slots c0 s0 lsr hA hD hl)
theorem aj_ixor {ρ : Type} {fin : ρ → Option Value × zH} {w : zWd} {d : Nat} {mi : zMI} {pc : Nat} {ls : List (Nat × Value)} {st : List Value} {σ : zH} {o : Option ρ} {x y : Int32} (hdg : decode mi.2.1 pc = .ok (.ixor, 1)) (k : AJ fin w d mi (pc + 1) ls (.int (x ^^^ y) :: st) σ o) : AJ fin w d mi (pc) ls (.int y :: .int x :: st) σ o := by
  intro r hr p e R s m args below meth c H locs cells slots c0 s0 lsr hA hD hl
  exact lv_ixor hA.1 hA.2.1 hdg (k r hr p e R s m args below meth c H locs cells slots c0 s0 lsr hA hD hl)
theorem aj_ishl {ρ : Type} {fin : ρ → Option Value × zH} {w : zWd} {d : Nat} {mi : zMI} {pc : Nat} {ls : List (Nat × Value)} {st : List Value} {σ : zH} {o : Option ρ} {x y : Int32} (hdg : decode mi.2.1 pc = .ok (.ishl, 1)) (k : AJ fin w d mi (pc + 1) ls (.int (x <<< (y &&& 31)) :: st) σ o) : AJ fin w d mi (pc) ls (.int y :: .int x :: st) σ o := by
  intro r hr p e R s m args below meth c H locs cells slots c0 s0 lsr hA hD hl
  exact lv_ishl hA.1 hA.2.1 hdg (k r hr p e R s m args below meth c H locs cells slots c0 s0 lsr hA hD hl)
theorem aj_ishr {ρ : Type} {fin : ρ → Option Value × zH} {w : zWd} {d : Nat} {mi : zMI} {pc : Nat} {ls : List (Nat × Value)} {st : List Value} {σ : zH} {o : Option ρ} {x y : Int32} (hdg : decode mi.2.1 pc = .ok (.ishr, 1)) (k : AJ fin w d mi (pc + 1) ls (.int (x >>> (y &&& 31)) :: st) σ o) : AJ fin w d mi (pc) ls (.int y :: .int x :: st) σ o := by
  intro r hr p e R s m args below meth c H locs cells slots c0 s0 lsr hA hD hl
  exact lv_ishr hA.1 hA.2.1 hdg (k r hr p e R s m args below meth c H locs cells slots c0 s0 lsr hA hD hl)
theorem aj_ladd {ρ : Type} {fin : ρ → Option Value × zH} {w : zWd} {d : Nat} {mi : zMI} {pc : Nat} {ls : List (Nat × Value)} {st : List Value} {σ : zH} {o : Option ρ} {x y : Int64} (hdg : decode mi.2.1 pc = .ok (.ladd, 1)) (k : AJ fin w d mi (pc + 1) ls (.long (x + y) :: st) σ o) : AJ fin w d mi (pc) ls (.long y :: .long x :: st) σ o := by
  intro r hr p e R s m args below meth c H locs cells slots c0 s0 lsr hA hD hl
  exact lv_ladd hA.1 hA.2.1 hdg (k r hr p e R s m args below meth c H locs cells slots c0 s0 lsr hA hD hl)
theorem aj_lsub {ρ : Type} {fin : ρ → Option Value × zH} {w : zWd} {d : Nat} {mi : zMI} {pc : Nat} {ls : List (Nat × Value)} {st : List Value} {σ : zH} {o : Option ρ} {x y : Int64} (hdg : decode mi.2.1 pc = .ok (.lsub, 1)) (k : AJ fin w d mi (pc + 1) ls (.long (x - y) :: st) σ o) : AJ fin w d mi (pc) ls (.long y :: .long x :: st) σ o := by
  intro r hr p e R s m args below meth c H locs cells slots c0 s0 lsr hA hD hl
  exact lv_lsub hA.1 hA.2.1 hdg (k r hr p e R s m args below meth c H locs cells slots c0 s0 lsr hA hD hl)
theorem aj_lmul {ρ : Type} {fin : ρ → Option Value × zH} {w : zWd} {d : Nat} {mi : zMI} {pc : Nat} {ls : List (Nat × Value)} {st : List Value} {σ : zH} {o : Option ρ} {x y : Int64} (hdg : decode mi.2.1 pc = .ok (.lmul, 1)) (k : AJ fin w d mi (pc + 1) ls (.long (x * y) :: st) σ o) : AJ fin w d mi (pc) ls (.long y :: .long x :: st) σ o := by
  intro r hr p e R s m args below meth c H locs cells slots c0 s0 lsr hA hD hl
  exact lv_lmul hA.1 hA.2.1 hdg (k r hr p e R s m args below meth c H locs cells slots c0 s0 lsr hA hD hl)
theorem aj_idiv {ρ : Type} {fin : ρ → Option Value × zH} {w : zWd} {d : Nat} {mi : zMI} {pc : Nat} {ls : List (Nat × Value)} {st : List Value} {σ : zH} {o : Option ρ} {x y : Int32} (hdg : decode mi.2.1 pc = .ok (.idiv, 1)) (k : AJ fin w d mi (pc + 1) ls (.int (x / y) :: st) σ o) : AJ fin w d mi (pc) ls (.int y :: .int x :: st) σ (if y = 0 then none else o) := by
  intro r hr p e R s m args below meth c H locs cells slots c0 s0 lsr hA hD hl
  by_cases hy : y = 0
  · rw [if_pos hy] at hr; cases hr
  · rw [if_neg hy] at hr
    exact lv_idiv hA.1 hA.2.1 hdg hy (k r hr p e R s m args below meth c H locs cells slots c0 s0 lsr hA hD hl)
theorem aj_idivc {ρ : Type} {fin : ρ → Option Value × zH} {w : zWd} {d : Nat} {mi : zMI} {pc : Nat} {ls : List (Nat × Value)} {st : List Value} {σ : zH} {o : Option ρ} {x y : Int32} (hdg : decode mi.2.1 pc = .ok (.idiv, 1)) (hy : ¬ y = 0) (k : AJ fin w d mi (pc + 1) ls (.int (x / y) :: st) σ o) : AJ fin w d mi (pc) ls (.int y :: .int x :: st) σ o := by
  intro r hr p e R s m args below meth c H locs cells slots c0 s0 lsr hA hD hl
  exact lv_idiv hA.1 hA.2.1 hdg hy (k r hr p e R s m args below meth c H locs cells slots c0 s0 lsr hA hD hl)
theorem aj_irem {ρ : Type} {fin : ρ → Option Value × zH} {w : zWd} {d : Nat} {mi : zMI} {pc : Nat} {ls : List (Nat × Value)} {st : List Value} {σ : zH} {o : Option ρ} {x y : Int32} (hdg : decode mi.2.1 pc = .ok (.irem, 1)) (k : AJ fin w d mi (pc + 1) ls (.int (x - x / y * y) :: st) σ o) : AJ fin w d mi (pc) ls (.int y :: .int x :: st) σ (if y = 0 then none else o) := by
  intro r hr p e R s m args below meth c H locs cells slots c0 s0 lsr hA hD hl
  by_cases hy : y = 0
  · rw [if_pos hy] at hr; cases hr
  · rw [if_neg hy] at hr
    exact lv_irem hA.1 hA.2.1 hdg hy (k r hr p e R s m args below meth c H locs cells slots c0 s0 lsr hA hD hl)
theorem aj_iremc {ρ : Type} {fin : ρ → Option Value × zH} {w : zWd} {d : Nat} {mi : zMI} {pc : Nat} {ls : List (Nat × Value)} {st : List Value} {σ : zH} {o : Option ρ} {x y : Int32} (hdg : decode mi.2.1 pc = .ok (.irem, 1)) (hy : ¬ y = 0) (k : AJ fin w d mi (pc + 1) ls (.int (x - x / y * y) :: st) σ o) : AJ fin w d mi (pc) ls (.int y :: .int x :: st) σ o := by
  intro r hr p e R s m args below meth c H locs cells slots c0 s0 lsr hA hD hl
  exact lv_irem hA.1 hA.2.1 hdg hy (k r hr p e R s m args below meth c H locs cells slots c0 s0 lsr hA hD hl)
theorem aj_ldiv {ρ : Type} {fin : ρ → Option Value × zH} {w : zWd} {d : Nat} {mi : zMI} {pc : Nat} {ls : List (Nat × Value)} {st : List Value} {σ : zH} {o : Option ρ} {x y : Int64} (hdg : decode mi.2.1 pc = .ok (.ldiv, 1)) (k : AJ fin w d mi (pc + 1) ls (.long (x / y) :: st) σ o) : AJ fin w d mi (pc) ls (.long y :: .long x :: st) σ (if y = 0 then none else o) := by
  intro r hr p e R s m args below meth c H locs cells slots c0 s0 lsr hA hD hl
  by_cases hy : y = 0
  · rw [if_pos hy] at hr; cases hr
  · rw [if_neg hy] at hr
    exact lv_ldiv hA.1 hA.2.1 hdg hy (k r hr p e R s m args below meth c H locs cells slots c0 s0 lsr hA hD hl)
theorem aj_ldivc {ρ : Type} {fin : ρ → Option Value × zH} {w : zWd} {d : Nat} {mi : zMI} {pc : Nat} {ls : List (Nat × Value)} {st : List Value} {σ : zH} {o : Option ρ} {x y : Int64} (hdg : decode mi.2.1 pc = .ok (.ldiv, 1)) (hy : ¬ y = 0) (k : AJ fin w d mi (pc + 1) ls (.long (x / y) :: st) σ o) : AJ fin w d mi (pc) ls (.long y :: .long x :: st) σ o := by
  intro r hr p e R s m args below meth c H locs cells slots c0 s0 lsr hA hD hl
  exact lv_ldiv hA.1 hA.2.1 hdg hy (k r hr p e R s m args below meth c H locs cells slots c0 s0 lsr hA hD hl)
theorem aj_lrem {ρ : Type} {fin : ρ → Option Value × zH} {w : zWd} {d : Nat} {mi : zMI} {pc : Nat} {ls : List (Nat × Value)} {st : List Value} {σ : zH} {o : Option ρ} {x y : Int64} (hdg : decode mi.2.1 pc = .ok (.lrem, 1)) (k : AJ fin w d mi (pc + 1) ls (.long (x - x / y * y) :: st) σ o) : AJ fin w d mi (pc) ls (.long y :: .long x :: st) σ (if y = 0 then none else o) := by
  intro r hr p e R s m args below meth c H locs cells slots c0 s0 lsr hA hD hl
  by_cases hy : y = 0
  · rw [if_pos hy] at hr; cases hr
  · rw [if_neg hy] at hr
    exact lv_lrem hA.1 hA.2.1 hdg hy (k r hr p e R s m args below meth c H locs cells slots c0 s0 lsr hA hD hl)
theorem aj_lremc {ρ : Type} {fin : ρ → Option Value × zH} {w : zWd} {d : Nat} {mi : zMI} {pc : Nat} {ls : List (Nat × Value)} {st : List Value} {σ : zH} {o : Option ρ} {x y : Int64} (hdg : decode mi.2.1 pc = .ok (.lrem, 1)) (hy : ¬ y = 0) (k : AJ fin w d mi (pc + 1) ls (.long (x - x / y * y) :: st) σ o) : AJ fin w d mi (pc) ls (.long y :: .long x :: st) σ o := by
  intro r hr p e R s m args below meth c H locs cells slots c0 s0 lsr hA hD hl
  exact lv_lrem hA.1 hA.2.1 hdg hy (k r hr p e R s m args below meth c H locs cells slots c0 s0 lsr hA hD hl)
theorem aj_lcmp {ρ : Type} {fin : ρ → Option Value × zH} {w : zWd} {d : Nat} {mi : zMI} {pc : Nat} {ls : List (Nat × Value)} {st : List Value} {σ : zH} {o : Option ρ} {x y : Int64} (hdg : decode mi.2.1 pc = .ok (.lcmp, 1)) (k : AJ fin w d mi (pc + 1) ls (.int (lg_cmp x y) :: st) σ o) : AJ fin w d mi (pc) ls (.long y :: .long x :: st) σ o := by
  intro r hr p e R s m args below meth c H locs cells slots c0 s0 lsr hA hD hl
  exact W.lcmp hA.1 hA.2.1 hdg (k r hr p e R s m args below meth c H locs cells slots c0 s0 lsr hA hD hl)
theorem aj_i2l {ρ : Type} {fin : ρ → Option Value × zH} {w : zWd} {d : Nat} {mi : zMI} {pc : Nat} {ls : List (Nat × Value)} {st : List Value} {σ : zH} {o : Option ρ} {x : Int32} (hdg : decode mi.2.1 pc = .ok (.i2l, 1)) (k : AJ fin w d mi (pc + 1) ls (.long x.toInt64 :: st) σ o) : AJ fin w d mi (pc) ls (.int x :: st) σ o := by
  intro r hr p e R s m args below meth c H locs cells slots c0 s0 lsr hA hD hl
  exact lv_i2l hA.1 hA.2.1 hdg rfl (k r hr p e R s m args below meth c H locs cells slots c0 s0 lsr hA hD hl)
theorem aj_l2i {ρ : Type} {fin : ρ → Option Value × zH} {w : zWd} {d : Nat} {mi : zMI} {pc : Nat} {ls : List (Nat × Value)} {st : List Value} {σ : zH} {o : Option ρ} {x : Int64} (hdg : decode mi.2.1 pc = .ok (.l2i, 1)) (k : AJ fin w d mi (pc + 1) ls (.int x.toInt32 :: st) σ o) : AJ fin w d mi (pc) ls (.long x :: st) σ o := by
  intro r hr p e R s m args below meth c H locs cells slots c0 s0 lsr hA hD hl
  exact lv_l2i hA.1 hA.2.1 hdg rfl (k r hr p e R s m args below meth c H locs cells slots c0 s0 lsr hA hD hl)
theorem aj_dup {ρ : Type} {fin : ρ → Option Value × zH} {w : zWd} {d : Nat} {mi : zMI} {pc : Nat} {ls : List (Nat × Value)} {st : List Value} {σ : zH} {o : Option ρ} {v : Value} (hdg : decode mi.2.1 pc = .ok (.dup, 1)) (hv : v.category = 1) (k : AJ fin w d mi (pc + 1) ls (v :: v :: st) σ o) : AJ fin w d mi (pc) ls (v :: st) σ o := by
  intro r hr p e R s m args below meth c H locs cells slots c0 s0 lsr hA hD hl
  exact lv_dup hA.1 hA.2.1 hdg (by rw [zv_cat]; exact hv) (k r hr p e R s m args below meth c H locs cells slots c0 s0 lsr hA hD hl)
theorem aj_dup_x1 {ρ : Type} {fin : ρ → Option Value × zH} {w : zWd} {d : Nat} {mi : zMI} {pc : Nat} {ls : List (Nat × Value)} {st : List Value} {σ : zH} {o : Option ρ} {v v1 : Value} (hdg : decode mi.2.1 pc = .ok (.dup_x1, 1)) (hv : v.category = 1) (hv1 : v1.category = 1) (k : AJ fin w d mi (pc + 1) ls (v :: v1 :: v :: st) σ o) : AJ fin w d mi (pc) ls (v :: v1 :: st) σ o := by
  intro r hr p e R s m args below meth c H locs cells slots c0 s0 lsr hA hD hl
  exact lv_dup_x1 hA.1 hA.2.1 hdg (by rw [zv_cat]; exact hv) (by rw [zv_cat]; exact hv1) (k r hr p e R s m args below meth c H locs cells slots c0 s0 lsr hA hD hl)
theorem aj_dup2 {ρ : Type} {fin : ρ → Option Value × zH} {w : zWd} {d : Nat} {mi : zMI} {pc : Nat} {ls : List (Nat × Value)} {st : List Value} {σ : zH} {o : Option ρ} {v v1 : Value} (hdg : decode mi.2.1 pc = .ok (.dup2, 1)) (hv : v.category = 1) (hv1 : v1.category = 1) (k : AJ fin w d mi (pc + 1) ls (v :: v1 :: v :: v1 :: st) σ o) : AJ fin w d mi (pc) ls (v :: v1 :: st) σ o := by
  intro r hr p e R s m args below meth c H locs cells slots c0 s0 lsr hA hD hl
  exact lv_dup2_11 hA.1 hA.2.1 hdg (by rw [zv_cat]; exact hv) (by rw [zv_cat]; exact hv1) (k r hr p e R s m args below meth c H locs cells slots c0 s0 lsr hA hD hl)
theorem aj_null {ρ : Type} {fin : ρ → Option Value × zH} {w : zWd} {d : Nat} {mi : zMI} {pc : Nat} {ls : List (Nat × Value)} {st : List Value} {σ : zH} {o : Option ρ}  (hdg : decode mi.2.1 pc = .ok (.aconst_null, 1)) (k : AJ fin w d mi (pc + 1) ls (.null :: st) σ o) : AJ fin w d mi (pc) ls (st) σ o := by
  intro r hr p e R s m args below meth c H locs cells slots c0 s0 lsr hA hD hl
  exact lv_null hA.1 hA.2.1 hdg (k r hr p e R s m args below meth c H locs cells slots c0 s0 lsr hA hD hl)
theorem aj_goto {ρ : Type} {fin : ρ → Option Value × zH} {w : zWd} {d : Nat} {mi : zMI} {pc : Nat} {ls : List (Nat × Value)} {st : List Value} {σ : zH} {o : Option ρ} {off : Int} {tgt : Nat} (hdg : decode mi.2.1 pc = .ok (.goto off, 3)) (ht : (pc : Int) + off = (tgt : Int)) (k : AJ fin w d mi (tgt) ls (st) σ o) : AJ fin w d mi (pc) ls (st) σ o := by
  intro r hr p e R s m args below meth c H locs cells slots c0 s0 lsr hA hD hl
  exact lv_goto hA.1 hA.2.1 hdg ht (k r hr p e R s m args below meth c H locs cells slots c0 s0 lsr hA hD hl)
theorem aj_if_eq {ρ : Type} {fin : ρ → Option Value × zH} {w : zWd} {d : Nat} {mi : zMI} {pc : Nat} {ls : List (Nat × Value)} {st : List Value} {σ : zH} {o1 o2 : Option ρ} {x : Int32} {off : Int} {tgt : Nat} (hdg : decode mi.2.1 pc = .ok (.ifCond .eq off, 3)) (ht : (pc : Int) + off = (tgt : Int)) (k1 : x = 0 → AJ fin w d mi (tgt) ls (st) σ o1) (k2 : ¬ (x = 0) → AJ fin w d mi (pc + 3) ls (st) σ o2) : AJ fin w d mi (pc) ls (.int x :: st) σ (if x = 0 then o1 else o2) := by
  intro r hr p e R s m args below meth c H locs cells slots c0 s0 lsr hA hD hl
  exact lv_if_eq hA.1 hA.2.1 hdg ht (fun h => k1 h r (by rw [if_pos h] at hr; exact hr) p e R s m args below meth c H locs cells slots c0 s0 lsr hA hD hl) (fun h => k2 h r (by rw [if_neg h] at hr; exact hr) p e R s m args below meth c H locs cells slots c0 s0 lsr hA hD hl)
theorem aj_icmp_eq {ρ : Type} {fin : ρ → Option Value × zH} {w : zWd} {d : Nat} {mi : zMI} {pc : Nat} {ls : List (Nat × Value)} {st : List Value} {σ : zH} {o1 o2 : Option ρ} {x y : Int32} {off : Int} {tgt : Nat} (hdg : decode mi.2.1 pc = .ok (.if_icmp .eq off, 3)) (ht : (pc : Int) + off = (tgt : Int)) (k1 : x = y → AJ fin w d mi (tgt) ls (st) σ o1) (k2 : ¬ (x = y) → AJ fin w d mi (pc + 3) ls (st) σ o2) : AJ fin w d mi (pc) ls (.int y :: .int x :: st) σ (if x = y then o1 else o2) := by
  intro r hr p e R s m args below meth c H locs cells slots c0 s0 lsr hA hD hl
  exact lv_icmp_eq hA.1 hA.2.1 hdg ht (fun h => k1 h r (by rw [if_pos h] at hr; exact hr) p e R s m args below meth c H locs cells slots c0 s0 lsr hA hD hl) (fun h => k2 h r (by rw [if_neg h] at hr; exact hr) p e R s m args below meth c H locs cells slots c0 s0 lsr hA hD hl)
theorem aj_if_ne {ρ : Type} {fin : ρ → Option Value × zH} {w : zWd} {d : Nat} {mi : zMI} {pc : Nat} {ls : List (Nat × Value)} {st : List Value} {σ : zH} {o1 o2 : Option ρ} {x : Int32} {off : Int} {tgt : Nat} (hdg : decode mi.2.1 pc = .ok (.ifCond .ne off, 3)) (ht : (pc : Int) + off = (tgt : Int)) (k1 : ¬ (x = 0) → AJ fin w d mi (tgt) ls (st) σ o1) (k2 : x = 0 → AJ fin w d mi (pc + 3) ls (st) σ o2) : AJ fin w d mi (pc) ls (.int x :: st) σ (if x = 0 then o2 else o1) := by
  intro r hr p e R s m args below meth c H locs cells slots c0 s0 lsr hA hD hl
  exact lv_if_ne hA.1 hA.2.1 hdg ht (fun h => k1 h r (by rw [if_neg h] at hr; exact hr) p e R s m args below meth c H locs cells slots c0 s0 lsr hA hD hl) (fun h => k2 h r (by rw [if_pos h] at hr; exact hr) p e R s m args below meth c H locs cells slots c0 s0 lsr hA hD hl)
theorem aj_icmp_ne {ρ : Type} {fin : ρ → Option Value × zH} {w : zWd} {d : Nat} {mi : zMI} {pc : Nat} {ls : List (Nat × Value)} {st : List Value} {σ : zH} {o1 o2 : Option ρ} {x y : Int32} {off : Int} {tgt : Nat} (hdg : decode mi.2.1 pc = .ok (.if_icmp .ne off, 3)) (ht : (pc : Int) + off = (tgt : Int)) (k1 : ¬ (x = y) → AJ fin w d mi (tgt) ls (st) σ o1) (k2 : x = y → AJ fin w d mi (pc + 3) ls (st) σ o2) : AJ fin w d mi (pc) ls (.int y :: .int x :: st) σ (if x = y then o2 else o1) := by
  intro r hr p e R s m args below meth c H locs cells slots c0 s0 lsr hA hD hl
  exact lv_icmp_ne hA.1 hA.2.1 hdg ht (fun h => k1 h r (by rw [if_neg h] at hr; exact hr) p e R s m args below meth c H locs cells slots c0 s0 lsr hA hD hl) (fun h => k2 h r (by rw [if_pos h] at hr; exact hr) p e R s m args below meth c H locs cells slots c0 s0 lsr hA hD hl)
theorem aj_if_lt {ρ : Type} {fin : ρ → Option Value × zH} {w : zWd} {d : Nat} {mi : zMI} {pc : Nat} {ls : List (Nat × Value)} {st : List Value} {σ : zH} {o1 o2 : Option ρ} {x : Int32} {off : Int} {tgt : Nat} (hdg : decode mi.2.1 pc = .ok (.ifCond .lt off, 3)) (ht : (pc : Int) + off = (tgt : Int)) (k1 : x < 0 → AJ fin w d mi (tgt) ls (st) σ o1) (k2 : ¬ (x < 0) → AJ fin w d mi (pc + 3) ls (st) σ o2) : AJ fin w d mi (pc) ls (.int x :: st) σ (if x < 0 then o1 else o2) := by
  intro r hr p e R s m args below meth c H locs cells slots c0 s0 lsr hA hD hl
  exact lv_if_lt hA.1 hA.2.1 hdg ht (fun h => k1 h r (by rw [if_pos h] at hr; exact hr) p e R s m args below meth c H locs cells slots c0 s0 lsr hA hD hl) (fun h => k2 h r (by rw [if_neg h] at hr; exact hr) p e R s m args below meth c H locs cells slots c0 s0 lsr hA hD hl)
theorem aj_icmp_lt {ρ : Type} {fin : ρ → Option Value × zH} {w : zWd} {d : Nat} {mi : zMI} {pc : Nat} {ls : List (Nat × Value)} {st : List Value} {σ : zH} {o1 o2 : Option ρ} {x y : Int32} {off : Int} {tgt : Nat} (hdg : decode mi.2.1 pc = .ok (.if_icmp .lt off, 3)) (ht : (pc : Int) + off = (tgt : Int)) (k1 : x < y → AJ fin w d mi (tgt) ls (st) σ o1) (k2 : ¬ (x < y) → AJ fin w d mi (pc + 3) ls (st) σ o2) : AJ fin w d mi (pc) ls (.int y :: .int x :: st) σ (if x < y then o1 else o2) := by
  intro r hr p e R s m args below meth c H locs cells slots c0 s0 lsr hA hD hl
  exact lv_icmp_lt hA.1 hA.2.1 hdg ht (fun h => k1 h r (by rw [if_pos h] at hr; exact hr) p e R s m args below meth c H locs cells slots c0 s0 lsr hA hD hl) (fun h => k2 h r (by rw [if_neg h] at hr; exact hr) p e R s m args below meth c H locs cells slots c0 s0 lsr hA hD hl)
theorem aj_if_ge {ρ : Type} {fin : ρ → Option Value × zH} {w : zWd} {d : Nat} {mi : zMI} {pc : Nat} {ls : List (Nat × Value)} {st : List Value} {σ : zH} {o1 o2 : Option ρ} {x : Int32} {off : Int} {tgt : Nat} (hdg : decode mi.2.1 pc = .ok (.ifCond .ge off, 3)) (ht : (pc : Int) + off = (tgt : Int)) (k1 : 0 ≤ x → AJ fin w d mi (tgt) ls (st) σ o1) (k2 : ¬ (0 ≤ x) → AJ fin w d mi (pc + 3) ls (st) σ o2) : AJ fin w d mi (pc) ls (.int x :: st) σ (if 0 ≤ x then o1 else o2) := by
  intro r hr p e R s m args below meth c H locs cells slots c0 s0 lsr hA hD hl
  exact lv_if_ge hA.1 hA.2.1 hdg ht (fun h => k1 h r (by rw [if_pos h] at hr; exact hr) p e R s m args below meth c H locs cells slots c0 s0 lsr hA hD hl) (fun h => k2 h r (by rw [if_neg h] at hr; exact hr) p e R s m args below meth c H locs cells slots c0 s0 lsr hA hD hl)
theorem aj_icmp_ge {ρ : Type} {fin : ρ → Option Value × zH} {w : zWd} {d : Nat} {mi : zMI} {pc : Nat} {ls : List (Nat × Value)} {st : List Value} {σ : zH} {o1 o2 : Option ρ} {x y : Int32} {off : Int} {tgt : Nat} (hdg : decode mi.2.1 pc = .ok (.if_icmp .ge off, 3)) (ht : (pc : Int) + off = (tgt : Int)) (k1 : y ≤ x → AJ fin w d mi (tgt) ls (st) σ o1) (k2 : ¬ (y ≤ x) → AJ fin w d mi (pc + 3) ls (st) σ o2) : AJ fin w d mi (pc) ls (.int y :: .int x :: st) σ (if y ≤ x then o1 else o2) := by
  intro r hr p e R s m args below meth c H locs cells slots c0 s0 lsr hA hD hl
  exact lv_icmp_ge hA.1 hA.2.1 hdg ht (fun h => k1 h r (by rw [if_pos h] at hr; exact hr) p e R s m args below meth c H locs cells slots c0 s0 lsr hA hD hl) (fun h => k2 h r (by rw [if_neg h] at hr; exact hr) p e R s m args below meth c H locs cells slots c0 s0 lsr hA hD hl)
theorem aj_if_gt {ρ : Type} {fin : ρ → Option Value × zH} {w : zWd} {d : Nat} {mi : zMI} {pc : Nat} {ls : List (Nat × Value)} {st : List Value} {σ : zH} {o1 o2 : Option ρ} {x : Int32} {off : Int} {tgt : Nat} (hdg : decode mi.2.1 pc = .ok (.ifCond .gt off, 3)) (ht : (pc : Int) + off = (tgt : Int)) (k1 : 0 < x → AJ fin w d mi (tgt) ls (st) σ o1) (k2 : ¬ (0 < x) → AJ fin w d mi (pc + 3) ls (st) σ o2) : AJ fin w d mi (pc) ls (.int x :: st) σ (if 0 < x then o1 else o2) := by
  intro r hr p e R s m args below meth c H locs cells slots c0 s0 lsr hA hD hl
  exact lv_if_gt hA.1 hA.2.1 hdg ht (fun h => k1 h r (by rw [if_pos h] at hr; exact hr) p e R s m args below meth c H locs cells slots c0 s0 lsr hA hD hl) (fun h => k2 h r (by rw [if_neg h] at hr; exact hr) p e R s m args below meth c H locs cells slots c0 s0 lsr hA hD hl)
theorem aj_icmp_gt {ρ : Type} {fin : ρ → Option Value × zH} {w : zWd} {d : Nat} {mi : zMI} {pc : Nat} {ls : List (Nat × Value)} {st : List Value} {σ : zH} {o1 o2 : Option ρ} {x y : Int32} {off : Int} {tgt : Nat} (hdg : decode mi.2.1 pc = .ok (.if_icmp .gt off, 3)) (ht : (pc : Int) + off = (tgt : Int)) (k1 : y < x → AJ fin w d mi (tgt) ls (st) σ o1) (k2 : ¬ (y < x) → AJ fin w d mi (pc + 3) ls (st) σ o2) : AJ fin w d mi (pc) ls (.int y :: .int x :: st) σ (if y < x then o1 else o2) := by
  intro r hr p e R s m args below meth c H locs cells slots c0 s0 lsr hA hD hl
  exact lv_icmp_gt hA.1 hA.2.1 hdg ht (fun h => k1 h r (by rw [if_pos h] at hr; exact hr) p e R s m args below meth c H locs cells slots c0 s0 lsr hA hD hl) (fun h => k2 h r (by rw [if_neg h] at hr; exact hr) p e R s m args below meth c H locs cells slots c0 s0 lsr hA hD hl)
theorem aj_if_le {ρ : Type} {fin : ρ → Option Value × zH} {w : zWd} {d : Nat} {mi : zMI} {pc : Nat} {ls : List (Nat × Value)} {st : List Value} {σ : zH} {o1 o2 : Option ρ} {x : Int32} {off : Int} {tgt : Nat} (hdg : decode mi.2.1 pc = .ok (.ifCond .le off, 3)) (ht : (pc : Int) + off = (tgt : Int)) (k1 : x ≤ 0 → AJ fin w d mi (tgt) ls (st) σ o1) (k2 : ¬ (x ≤ 0) → AJ fin w d mi (pc + 3) ls (st) σ o2) : AJ fin w d mi (pc) ls (.int x :: st) σ (if x ≤ 0 then o1 else o2) := by
  intro r hr p e R s m args below meth c H locs cells slots c0 s0 lsr hA hD hl
  exact lv_if_le hA.1 hA.2.1 hdg ht (fun h => k1 h r (by rw [if_pos h] at hr; exact hr) p e R s m args below meth c H locs cells slots c0 s0 lsr hA hD hl) (fun h => k2 h r (by rw [if_neg h] at hr; exact hr) p e R s m args below meth c H locs cells slots c0 s0 lsr hA hD hl)
theorem aj_icmp_le {ρ : Type} {fin : ρ → Option Value × zH} {w : zWd} {d : Nat} {mi : zMI} {pc : Nat} {ls : List (Nat × Value)} {st : List Value} {σ : zH} {o1 o2 : Option ρ} {x y : Int32} {off : Int} {tgt : Nat} (hdg : decode mi.2.1 pc = .ok (.if_icmp .le off, 3)) (ht : (pc : Int) + off = (tgt : Int)) (k1 : x ≤ y → AJ fin w d mi (tgt) ls (st) σ o1) (k2 : ¬ (x ≤ y) → AJ fin w d mi (pc + 3) ls (st) σ o2) : AJ fin w d mi (pc) ls (.int y :: .int x :: st) σ (if x ≤ y then o1 else o2) := by
  intro r hr p e R s m args below meth c H locs cells slots c0 s0 lsr hA hD hl
  exact lv_icmp_le hA.1 hA.2.1 hdg ht (fun h => k1 h r (by rw [if_pos h] at hr; exact hr) p e R s m args below meth c H locs cells slots c0 s0 lsr hA hD hl) (fun h => k2 h r (by rw [if_neg h] at hr; exact hr) p e R s m args below meth c H locs cells slots c0 s0 lsr hA hD hl)
theorem aj_ite {ρ : Type} {fin : ρ → Option Value × zH} {w : zWd} {d : Nat} {mi : zMI} {pc : Nat} {ls : List (Nat × Value)} {st : List Value} {σ : zH} {o1 o2 : Option ρ} {q : Prop} {iq : Decidable q} (k1 : q → AJ fin w d mi (pc) ls (st) σ o1) (k2 : ¬ q → AJ fin w d mi (pc) ls (st) σ o2) : AJ fin w d mi (pc) ls (st) σ (@ite _ q iq o1 o2) := by
  intro r hr
  by_cases h : q
  · rw [if_pos h] at hr; exact k1 h r hr
  · rw [if_neg h] at hr; exact k2 h r hr
theorem aj_ckn {ρ : Type} {fin : ρ → Option Value × zH} {w : zWd} {d : Nat} {mi : zMI} {pc : Nat} {ls : List (Nat × Value)} {st : List Value} {σ : zH} {o : Option ρ} {q : Prop} {iq : Decidable q} (k1 : ¬ q → AJ fin w d mi (pc) ls (st) σ o) : AJ fin w d mi (pc) ls (st) σ (@ite _ q iq none o) := aj_ite (fun _ => AJ.none) k1
theorem aj_ckp {ρ : Type} {fin : ρ → Option Value × zH} {w : zWd} {d : Nat} {mi : zMI} {pc : Nat} {ls : List (Nat × Value)} {st : List Value} {σ : zH} {o : Option ρ} {q : Prop} {iq : Decidable q} (k1 : q → AJ fin w d mi (pc) ls (st) σ o) : AJ fin w d mi (pc) ls (st) σ (@ite _ q iq o none) := aj_ite k1 (fun _ => AJ.none)
theorem aj_tsw {ρ : Type} {fin : ρ → Option Value × zH} {w : zWd} {d : Nat} {mi : zMI} {pc : Nat} {ls : List (Nat × Value)} {st : List Value} {σ : zH} {o : Option ρ} {x : Int32} {dflt lo hi : Int} {offs : Array Int} {len : Nat} {off : Int} {tgt : Nat} (hdg : decode mi.2.1 pc = .ok (.tableswitch dflt lo hi offs, len)) (h1 : ¬ x.toInt < lo) (h2 : ¬ hi < x.toInt) (ho : offs[(x.toInt - lo).toNat]? = some off) (ht : (pc : Int) + off = (tgt : Int)) (k : AJ fin w d mi (tgt) ls (st) σ o) : AJ fin w d mi (pc) ls (.int x :: st) σ o := by
  intro r hr p e R s m args below meth c H locs cells slots c0 s0 lsr hA hD hl
  exact lv_tableIn hA.1 hA.2.1 hdg h1 h2 ho ht (k r hr p e R s m args below meth c H locs cells slots c0 s0 lsr hA hD hl)
theorem aj_tswO {ρ : Type} {fin : ρ → Option Value × zH} {w : zWd} {d : Nat} {mi : zMI} {pc : Nat} {ls : List (Nat × Value)} {st : List Value} {σ : zH} {o : Option ρ} {x : Int32} {dflt lo hi : Int} {offs : Array Int} {len : Nat} {tgt : Nat} (hdg : decode mi.2.1 pc = .ok (.tableswitch dflt lo hi offs, len)) (h : x.toInt < lo ∨ hi < x.toInt) (ht : (pc : Int) + dflt = (tgt : Int)) (k : AJ fin w d mi (tgt) ls (st) σ o) : AJ fin w d mi (pc) ls (.int x :: st) σ o := by
  intro r hr p e R s m args below meth c H locs cells slots c0 s0 lsr hA hD hl
  exact lv_tableOut hA.1 hA.2.1 hdg h ht (k r hr p e R s m args below meth c H locs cells slots c0 s0 lsr hA hD hl)
theorem aj_lsw {ρ : Type} {fin : ρ → Option Value × zH} {w : zWd} {d : Nat} {mi : zMI} {pc : Nat} {ls : List (Nat × Value)} {st : List Value} {σ : zH} {o : Option ρ} {x : Int32} {dflt : Int} {ps : Array (Int × Int)} {len : Nat} {off : Int} {tgt : Nat} (hdg : decode mi.2.1 pc = .ok (.lookupswitch dflt ps, len)) (hp : (ps.toList.zip (ps.toList.drop 1)).all (fun (a, next) => a.1 < next.1) = true) (ho : Op.lookupswitch.offset ps.toList dflt x.toInt = off) (ht : (pc : Int) + off = (tgt : Int)) (k : AJ fin w d mi (tgt) ls (st) σ o) : AJ fin w d mi (pc) ls (.int x :: st) σ o := by
  intro r hr p e R s m args below meth c H locs cells slots c0 s0 lsr hA hD hl
  exact lv_lookup hA.1 hA.2.1 hdg hp ho ht (k r hr p e R s m args below meth c H locs cells slots c0 s0 lsr hA hD hl)
theorem aj_ifnull {ρ : Type} {fin : ρ → Option Value × zH} {w : zWd} {d : Nat} {mi : zMI} {pc : Nat} {ls : List (Nat × Value)} {st : List Value} {σ : zH} {o : Option ρ} {x : Nat} {off : Int} (hdg : decode mi.2.1 pc = .ok (.ifnull off, 3)) (k : AJ fin w d mi (pc + 3) ls (st) σ o) : AJ fin w d mi (pc) ls (.ref x :: st) σ o := by
  intro r hr p e R s m args below meth c H locs cells slots c0 s0 lsr hA hD hl
  exact lv_ifnull hA.1 hA.2.1 hdg (k r hr p e R s m args below meth c H locs cells slots c0 s0 lsr hA hD hl)
theorem aj_ifnullN {ρ : Type} {fin : ρ → Option Value × zH} {w : zWd} {d : Nat} {mi : zMI} {pc : Nat} {ls : List (Nat × Value)} {st : List Value} {σ : zH} {o : Option ρ} {off : Int} {tgt : Nat} (hdg : decode mi.2.1 pc = .ok (.ifnull off, 3)) (ht : (pc : Int) + off = (tgt : Int)) (k : AJ fin w d mi (tgt) ls (st) σ o) : AJ fin w d mi (pc) ls (.null :: st) σ o := by
  intro r hr p e R s m args below meth c H locs cells slots c0 s0 lsr hA hD hl
  exact lv_ifnullN hA.1 hA.2.1 hdg ht (k r hr p e R s m args below meth c H locs cells slots c0 s0 lsr hA hD hl)
theorem aj_ifnonnull {ρ : Type} {fin : ρ → Option Value × zH} {w : zWd} {d : Nat} {mi : zMI} {pc : Nat} {ls : List (Nat × Value)} {st : List Value} {σ : zH} {o : Option ρ} {x : Nat} {off : Int} {tgt : Nat} (hdg : decode mi.2.1 pc = .ok (.ifnonnull off, 3)) (ht : (pc : Int) + off = (tgt : Int)) (k : AJ fin w d mi (tgt) ls (st) σ o) : AJ fin w d mi (pc) ls (.ref x :: st) σ o := by
  intro r hr p e R s m args below meth c H locs cells slots c0 s0 lsr hA hD hl
  exact lv_ifnonnull hA.1 hA.2.1 hdg ht (k r hr p e R s m args below meth c H locs cells slots c0 s0 lsr hA hD hl)
theorem aj_ifnonnullN {ρ : Type} {fin : ρ → Option Value × zH} {w : zWd} {d : Nat} {mi : zMI} {pc : Nat} {ls : List (Nat × Value)} {st : List Value} {σ : zH} {o : Option ρ} {off : Int} (hdg : decode mi.2.1 pc = .ok (.ifnonnull off, 3)) (k : AJ fin w d mi (pc + 3) ls (st) σ o) : AJ fin w d mi (pc) ls (.null :: st) σ o := by
  intro r hr p e R s m args below meth c H locs cells slots c0 s0 lsr hA hD hl
  exact lv_ifnonnullN hA.1 hA.2.1 hdg (k r hr p e R s m args below meth c H locs cells slots c0 s0 lsr hA hD hl)
theorem aj_astoreN {ρ : Type} {fin : ρ → Option Value × zH} {w : zWd} {d : Nat} {mi : zMI} {pc : Nat} {ls : List (Nat × Value)} {st : List Value} {σ : zH} {o : Option ρ} {i : Nat} {ls2 : List (Nat × Value)} (hdg : decode mi.2.1 pc = .ok (.astore i, 2)) (hn : i < mi.2.2.1) (h2 : zst ls i .null = ls2) (k : AJ fin w d mi (pc + 2) ls2 (st) σ o) : AJ fin w d mi (pc) ls (.null :: st) σ o := by
  intro r hr p e R s m args below meth c H locs cells slots c0 s0 lsr hA hD hl
  subst h2
  exact lv_astoreN hA.1 hA.2.1 hdg hl hn (zst_map _ ls i .null) (fun ls9 hl9 => k r hr p e R s m args below meth c H locs cells slots c0 s0 ls9 hA hD hl9)
theorem aj_astore_nN {ρ : Type} {fin : ρ → Option Value × zH} {w : zWd} {d : Nat} {mi : zMI} {pc : Nat} {ls : List (Nat × Value)} {st : List Value} {σ : zH} {o : Option ρ} {k9 : Fin 4} {i : Nat} {ls2 : List (Nat × Value)} (hdg : decode mi.2.1 pc = .ok (.astore_n k9, 1)) (hi : (k9 : Nat) = i) (hn : i < mi.2.2.1) (h2 : zst ls i .null = ls2) (k : AJ fin w d mi (pc + 1) ls2 (st) σ o) : AJ fin w d mi (pc) ls (.null :: st) σ o := by
  intro r hr p e R s m args below meth c H locs cells slots c0 s0 lsr hA hD hl
  subst h2
  exact lv_astore_nN hA.1 hA.2.1 hdg hi hl hn (zst_map _ ls i .null) (fun ls9 hl9 => k r hr p e R s m args below meth c H locs cells slots c0 s0 ls9 hA hD hl9)
theorem aj_aload_nN {ρ : Type} {fin : ρ → Option Value × zH} {w : zWd} {d : Nat} {mi : zMI} {pc : Nat} {ls : List (Nat × Value)} {st : List Value} {σ : zH} {o : Option ρ} {k9 : Fin 4} {i : Nat} (j : Nat) (hdg : decode mi.2.1 pc = .ok (.aload_n k9, 1)) (hi : (k9 : Nat) = i) (hg : ls[j]? = some (i, .null)) (k : AJ fin w d mi (pc + 1) ls (.null :: st) σ o) : AJ fin w d mi (pc) ls (st) σ o := by
  intro r hr p e R s m args below meth c H locs cells slots c0 s0 lsr hA hD hl
  exact lv_aload_nN hA.1 hA.2.1 hdg hi (lv_at hl j (zls_get hg)) (k r hr p e R s m args below meth c H locs cells slots c0 s0 lsr hA hD hl)
theorem aj_mmax {ρ : Type} {fin : ρ → Option Value × zH} {w : zWd} {d : Nat} {mi : zMI} {pc : Nat} {ls : List (Nat × Value)} {st : List Value} {σ : zH} {o : Option ρ} {x y : Int32} {i : Nat} (hlink : Cond.methodLink mi.1.cls i Lib.Math.max.name ∈ zG) (hstat : Cond.static Lib.Math.max.name ∈ zG) (hini : Cond.initialized "java/lang/Math" ∈ zG) (hcode : Cond.code Lib.Math.max.name Lib.Math.max.code 2 (some .int) ∈ zG) (hd : 1 ≤ d) (hst : (st.map fun v => v.category).sum ≤ 8) (hdg : decode mi.2.1 pc = .ok (.invokestatic i, 3)) (k : AJ fin w d mi (pc + 3) ls (.int (if x < y then y else x) :: st) σ o) : AJ fin w d mi (pc) ls (.int y :: .int x :: st) σ o := by
  intro r hr p e R s m args below meth c H locs cells slots c0 s0 lsr hA hD hl
  obtain ⟨hx, hb, -, hml, hown, -, hG, -, -, -, -, -, hfr, hlo, -⟩ := id hA
  obtain ⟨-, -, -, -, -, hce, hsl, -, -⟩ := id hD
  exact va_mmax hx hb (hml.trans hl.1.symm) hown (hG _ hlink) (hG _ hstat) (hG _ hini) (hG _ hcode) (by omega) (by rw [zrest]; omega) hce hsl hdg (k r hr p e R s m args below meth c H locs cells slots c0 s0 lsr hA hD hl)
theorem aj_mmin {ρ : Type} {fin : ρ → Option Value × zH} {w : zWd} {d : Nat} {mi : zMI} {pc : Nat} {ls : List (Nat × Value)} {st : List Value} {σ : zH} {o : Option ρ} {x y : Int32} {i : Nat} (hlink : Cond.methodLink mi.1.cls i Lib.Math.min.name ∈ zG) (hstat : Cond.static Lib.Math.min.name ∈ zG) (hini : Cond.initialized "java/lang/Math" ∈ zG) (hcode : Cond.code Lib.Math.min.name Lib.Math.min.code 2 (some .int) ∈ zG) (hd : 1 ≤ d) (hst : (st.map fun v => v.category).sum ≤ 8) (hdg : decode mi.2.1 pc = .ok (.invokestatic i, 3)) (k : AJ fin w d mi (pc + 3) ls (.int (if y < x then y else x) :: st) σ o) : AJ fin w d mi (pc) ls (.int y :: .int x :: st) σ o := by
  intro r hr p e R s m args below meth c H locs cells slots c0 s0 lsr hA hD hl
  obtain ⟨hx, hb, -, hml, hown, -, hG, -, -, -, -, -, hfr, hlo, -⟩ := id hA
  obtain ⟨-, -, -, -, -, hce, hsl, -, -⟩ := id hD
  exact va_mmin hx hb (hml.trans hl.1.symm) hown (hG _ hlink) (hG _ hstat) (hG _ hini) (hG _ hcode) (by omega) (by rw [zrest]; omega) hce hsl hdg (k r hr p e R s m args below meth c H locs cells slots c0 s0 lsr hA hD hl)
theorem aj_mabs {ρ : Type} {fin : ρ → Option Value × zH} {w : zWd} {d : Nat} {mi : zMI} {pc : Nat} {ls : List (Nat × Value)} {st : List Value} {σ : zH} {o : Option ρ} {x : Int32} {i : Nat} (hlink : Cond.methodLink mi.1.cls i Lib.Math.abs.name ∈ zG) (hstat : Cond.static Lib.Math.abs.name ∈ zG) (hini : Cond.initialized "java/lang/Math" ∈ zG) (hcode : Cond.code Lib.Math.abs.name Lib.Math.abs.code 1 (some .int) ∈ zG) (hd : 1 ≤ d) (hst : (st.map fun v => v.category).sum ≤ 8) (hdg : decode mi.2.1 pc = .ok (.invokestatic i, 3)) (k : AJ fin w d mi (pc + 3) ls (.int (if 0 ≤ x then x else 0 - x) :: st) σ o) : AJ fin w d mi (pc) ls (.int x :: st) σ o := by
  intro r hr p e R s m args below meth c H locs cells slots c0 s0 lsr hA hD hl
  obtain ⟨hx, hb, -, hml, hown, -, hG, -, -, -, -, -, hfr, hlo, -⟩ := id hA
  obtain ⟨-, -, -, -, -, hce, hsl, -, -⟩ := id hD
  exact va_mabs hx hb (hml.trans hl.1.symm) hown (hG _ hlink) (hG _ hstat) (hG _ hini) (hG _ hcode) (by omega) (by rw [zrest]; omega) hce hsl hdg (k r hr p e R s m args below meth c H locs cells slots c0 s0 lsr hA hD hl)
theorem aj_mmax_long {ρ : Type} {fin : ρ → Option Value × zH} {w : zWd} {d : Nat} {mi : zMI} {pc : Nat} {ls : List (Nat × Value)} {st : List Value} {σ : zH} {o : Option ρ} {x y : Int64} {i : Nat} (hlink : Cond.methodLink mi.1.cls i Lib.MathLoose.max_long.x ∈ zG) (hstat : Cond.static Lib.MathLoose.max_long.x ∈ zG) (hini : Cond.initialized "java/lang/Math" ∈ zG) (hcode : Cond.code Lib.MathLoose.max_long.x Lib.MathLoose.max_long.code 4 (some .long) ∈ zG) (hd : 1 ≤ d) (hst : (st.map fun v => v.category).sum ≤ 8) (hdg : decode mi.2.1 pc = .ok (.invokestatic i, 3)) (k : AJ fin w d mi (pc + 3) ls (.long (if y < x then x else y) :: st) σ o) : AJ fin w d mi (pc) ls (.long y :: .long x :: st) σ o := by
  intro r hr p e R s m args below meth c H locs cells slots c0 s0 lsr hA hD hl
  obtain ⟨hx, hb, -, hml, hown, -, hG, -, -, -, -, -, hfr, hlo, -⟩ := id hA
  obtain ⟨-, -, -, -, -, hce, hsl, -, -⟩ := id hD
  exact va_mmax_long hx hb (hml.trans hl.1.symm) hown (hG _ hlink) (hG _ hstat) (hG _ hini) (hG _ hcode) (by omega) (by rw [zrest]; omega) hce hsl hdg (k r hr p e R s m args below meth c H locs cells slots c0 s0 lsr hA hD hl)
theorem aj_mmin_long {ρ : Type} {fin : ρ → Option Value × zH} {w : zWd} {d : Nat} {mi : zMI} {pc : Nat} {ls : List (Nat × Value)} {st : List Value} {σ : zH} {o : Option ρ} {x y : Int64} {i : Nat} (hlink : Cond.methodLink mi.1.cls i Lib.MathLoose.min_long.x ∈ zG) (hstat : Cond.static Lib.MathLoose.min_long.x ∈ zG) (hini : Cond.initialized "java/lang/Math" ∈ zG) (hcode : Cond.code Lib.MathLoose.min_long.x Lib.MathLoose.min_long.code 4 (some .long) ∈ zG) (hd : 1 ≤ d) (hst : (st.map fun v => v.category).sum ≤ 8) (hdg : decode mi.2.1 pc = .ok (.invokestatic i, 3)) (k : AJ fin w d mi (pc + 3) ls (.long (if y < x then y else x) :: st) σ o) : AJ fin w d mi (pc) ls (.long y :: .long x :: st) σ o := by
  intro r hr p e R s m args below meth c H locs cells slots c0 s0 lsr hA hD hl
  obtain ⟨hx, hb, -, hml, hown, -, hG, -, -, -, -, -, hfr, hlo, -⟩ := id hA
  obtain ⟨-, -, -, -, -, hce, hsl, -, -⟩ := id hD
  exact va_mmin_long hx hb (hml.trans hl.1.symm) hown (hG _ hlink) (hG _ hstat) (hG _ hini) (hG _ hcode) (by omega) (by rw [zrest]; omega) hce hsl hdg (k r hr p e R s m args below meth c H locs cells slots c0 s0 lsr hA hD hl)
theorem aj_mabs_long {ρ : Type} {fin : ρ → Option Value × zH} {w : zWd} {d : Nat} {mi : zMI} {pc : Nat} {ls : List (Nat × Value)} {st : List Value} {σ : zH} {o : Option ρ} {x : Int64} {i : Nat} (hlink : Cond.methodLink mi.1.cls i Lib.MathLoose.abs_long.x ∈ zG) (hstat : Cond.static Lib.MathLoose.abs_long.x ∈ zG) (hini : Cond.initialized "java/lang/Math" ∈ zG) (hcode : Cond.code Lib.MathLoose.abs_long.x Lib.MathLoose.abs_long.code 2 (some .long) ∈ zG) (hd : 1 ≤ d) (hst : (st.map fun v => v.category).sum ≤ 8) (hdg : decode mi.2.1 pc = .ok (.invokestatic i, 3)) (k : AJ fin w d mi (pc + 3) ls (.long (if 0 < x then x else -x) :: st) σ o) : AJ fin w d mi (pc) ls (.long x :: st) σ o := by
  intro r hr p e R s m args below meth c H locs cells slots c0 s0 lsr hA hD hl
  obtain ⟨hx, hb, -, hml, hown, -, hG, -, -, -, -, -, hfr, hlo, -⟩ := id hA
  obtain ⟨-, -, -, -, -, hce, hsl, -, -⟩ := id hD
  exact va_mabs_long hx hb (hml.trans hl.1.symm) hown (hG _ hlink) (hG _ hstat) (hG _ hini) (hG _ hcode) (by omega) (by rw [zrest]; omega) hce hsl hdg (k r hr p e R s m args below meth c H locs cells slots c0 s0 lsr hA hD hl)
theorem aj_ret0 {ρ : Type} {fin : ρ → Option Value × zH} {w : zWd} {d : Nat} {mi : zMI} {pc : Nat} {ls : List (Nat × Value)} {σ : zH} {v : ρ} {ov : Option Value} (hf : fin v = (ov, σ)) {st : List Value} (hend : ∀ (p : Program) (e : Env) (R : Room) (s : State) (m : MethodId) (args : Array Value) (below : List Frame) (meth : Method) (c : Code) (H : Heap) (locs : List Loc) (lsr : Array Slot) (Qc : Array Value → State → Outcome → State → Prop) (cells slots : Nat), p.tables.exec = Jvm.exec → c.code = mi.2.1 → meth.sig.returnType = mi.2.2.2 → meth.locks = false → (∀ t : State, t.heap = H → s.WarmedH t.vm → Qc args s (.returned (ov.map (zv w.2.2.2.1))) t) → (∀ q ∈ locs, w.2.2.2.1 ≤ q.base) → W p w.1 e R s m args below meth c H locs cells slots (MQ below Qc args s cells slots (fun q => w.2.2.2.1 ≤ q)) (F0 m pc lsr (st.map (zv w.2.2.2.1)))) : AJ fin w d mi pc ls st σ (some v) := by
  intro r hr p e R s m args below meth c H locs cells slots c0 s0 lsr hA hD hl
  cases hr
  intro T hT X
  have hsz := zsize hD hT X
  obtain ⟨hx, hb, hr, hml, hown, hlocks, hG, hnm, hK, hN, hZ, hok, hfr, hlo, hBs⟩ := hA
  obtain ⟨hP, hS, h1, h2, h3, hce, hsl, h4, h5, -⟩ := hD
  rw [hf] at h4 h5
  have e1 : cells = R.cells := by have h4 : R.cells + c0 = σ.1.length := h4; omega
  have e2 : slots = R.slots := by have h5 : R.slots + s0 = zsl σ.1 := h5; omega
  subst e1; subst e2
  refine hend p e R s m args below meth c H locs lsr (zQ w (fin v)) R.cells R.slots hx hb hr hlocks ?_ hS.2.2 T hT X
  intro t ht hW
  refine ⟨by rw [hf], ?_, va_K.moved hW.alike hK, ?_, hS.F ht⟩
  · rw [ht, hf]; exact hP
  · rw [ht, hf]; exact hsz
theorem aj_iret {ρ : Type} {fin : ρ → Option Value × zH} {w : zWd} {d : Nat} {mi : zMI} {pc : Nat} {ls : List (Nat × Value)} {σ : zH} {v : ρ} {x : Int32} {ty : FieldType} (hdg : decode mi.2.1 pc = .ok (.ireturn, 1)) (hret : mi.2.2.2 = some ty) (hn : narrow ty (.int x) = .int x) (hf : fin v = (some (.int x), σ)) : AJ fin w d mi pc ls [.int x] σ (some v) :=
  aj_ret0 hf fun p e R s m args below meth c H locs lsr Qc cells slots hx hb hr hlocks hq hL => W.zret hx hb (hr.trans hret) hn hq hL hdg hlocks
theorem aj_lret {ρ : Type} {fin : ρ → Option Value × zH} {w : zWd} {d : Nat} {mi : zMI} {pc : Nat} {ls : List (Nat × Value)} {σ : zH} {v : ρ} {x : Int64} (hdg : decode mi.2.1 pc = .ok (.lreturn, 1)) (hret : mi.2.2.2 = some .long) (hf : fin v = (some (.long x), σ)) : AJ fin w d mi pc ls [.long x] σ (some v) :=
  aj_ret0 hf fun p e R s m args below meth c H locs lsr Qc cells slots hx hb hr hlocks hq hL => W.lret hx hb (hr.trans hret) hq hL hdg hlocks
theorem aj_vret {ρ : Type} {fin : ρ → Option Value × zH} {w : zWd} {d : Nat} {mi : zMI} {pc : Nat} {ls : List (Nat × Value)} {σ : zH} {v : ρ} (hdg : decode mi.2.1 pc = .ok (.return_, 1)) (hret : mi.2.2.2 = none) (hf : fin v = (none, σ)) : AJ fin w d mi pc ls [] σ (some v) :=
  aj_ret0 hf fun p e R s m args below meth c H locs lsr Qc cells slots hx hb hr hlocks hq hL => W.vret hx hb (hr.trans hret) hq hL hdg hlocks
theorem aj_aret {ρ : Type} {fin : ρ → Option Value × zH} {w : zWd} {d : Nat} {mi : zMI} {pc : Nat} {ls : List (Nat × Value)} {σ : zH} {v : ρ} {x : Option Nat} {C : String} (hdg : decode mi.2.1 pc = .ok (.areturn, 1)) (hret : mi.2.2.2 = some (.object C)) (hf : fin v = (some (va_rf x), σ)) : AJ fin w d mi pc ls [va_rf x] σ (some v) :=
  aj_ret0 hf fun p e R s m args below meth c H locs lsr Qc cells slots hx hb hr hlocks hq hL => by
    cases x with
    | none => exact W.aret hx hb (hr.trans hret) (Or.inl ⟨_, rfl⟩) (Or.inl rfl) hq hL hdg hlocks
    | some k => exact W.aret hx hb (hr.trans hret) (Or.inl ⟨_, rfl⟩) (Or.inr ⟨_, rfl⟩) hq hL hdg hlocks
