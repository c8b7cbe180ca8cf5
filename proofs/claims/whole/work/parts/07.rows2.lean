/-! rows as the walks use them: what is read, written or answered is a name -/
def zfI (S : List (Nat × Nat)) (M : zM) : Int32 → Option Value × zH := fun v => (some (.int v), (S, M))
def zfJ (S : List (Nat × Nat)) (M : zM) : Int64 → Option Value × zH := fun v => (some (.long v), (S, M))
def zfQ (S : List (Nat × Nat)) (M : zM) : Option Nat → Option Value × zH := fun v => (some (va_rf v), (S, M))
def zfIM (S : List (Nat × Nat)) : Int32 × zM → Option Value × zH := fun r => (some (.int r.1), (S, r.2))
def zfJM (S : List (Nat × Nat)) : Int64 × zM → Option Value × zH := fun r => (some (.long r.1), (S, r.2))
def zfVM (S : List (Nat × Nat)) : zM → Option Value × zH := fun r => (none, (S, r))
def zb2 {α ρ : Type} (o : Option (α × zM)) (f : α → zM → Option ρ) : Option ρ := o.bind (fun q => f q.1 q.2)
def zcs {ρ : Type} (q : Option Nat) (a : Option ρ) (f : Nat → Option ρ) : Option ρ := match q with | none => a | some k => f k
def zmk2 (S : List (Nat × Nat)) (o : Option zH) (f : List (Nat × Nat) → zM → Option zH) : Option zH := zmk S o (fun r => f r.1 r.2)
def zfu : Nat := 1000000
def zbo {ρ : Type} (v : Int32) (o : Option ρ) : Option ρ := if v = 0 ∨ v = 1 then o else none
def zMV (mi : zMI) (nA ci n : Nat) : Prop := zMF mi nA ∧ Cond.instanceMethod mi.1 ∈ zG ∧ Cond.selects mi.1.cls mi.1 mi.1 ∈ zG ∧ ∃ TX : u_T, zCl ci mi.1.cls TX n
def zMS (mi : zMI) (nA : Nat) : Prop := zMF mi nA ∧ Cond.static mi.1 ∈ zG
def zMC (mi : zMI) (nA : Nat) : Prop := zMF mi nA ∧ mi.2.2.2 = none ∧ mi.1.name = "<init>" ∧ Cond.instanceMethod mi.1 ∈ zG
section ZR2
variable {ρ : Type} {fin : ρ → Option Value × zH} {w : zWd} {d d' : Nat} {mi mi' : zMI} {pc : Nat} {ls : List (Nat × Value)} {st as : List Value} {S : List (Nat × Nat)} {M : zM} {o : Option ρ}
theorem r_getI {k ci n j idx : Nat} {C : String} {TX : u_T} {f : Int32 → Option ρ} (hcl : zCl ci C TX n) (hj : j < n) (ht : zk (zTyp ci j) = 0) (hl : zFl mi.1.cls idx TX j) (hdg : decode mi.2.1 pc = .ok (.getfield idx, 3)) (kk : ∀ v, AJ fin w d mi (pc + 3) ls (.int v :: st) (S, M) (f v)) : AJ fin w d mi pc ls (.ref k :: st) (S, M) (zgI S M k ci n j f) := aj_getI hcl hj ht hl hdg (kk _)
theorem r_getL {k ci n j idx : Nat} {C : String} {TX : u_T} {f : Int64 → Option ρ} (hcl : zCl ci C TX n) (hj : j < n) (ht : zk (zTyp ci j) = 1) (hl : zFl mi.1.cls idx TX j) (hdg : decode mi.2.1 pc = .ok (.getfield idx, 3)) (kk : ∀ v, AJ fin w d mi (pc + 3) ls (.long v :: st) (S, M) (f v)) : AJ fin w d mi pc ls (.ref k :: st) (S, M) (zgL S M k ci n j f) := aj_getL hcl hj ht hl hdg (kk _)
theorem r_putI {k ci n j idx : Nat} {C : String} {TX : u_T} {x : Int32} {f : zM → Option ρ} (hcl : zCl ci C TX n) (hj : j < n) (ht : zk (zTyp ci j) = 0) (hfin : (TX j).2.2.2 = false) (hn : narrow (zTyp ci j) (.int x) = .int x) (hf : fits (zTyp ci j) (.int x) = true) (hl : zFl mi.1.cls idx TX j) (hdg : decode mi.2.1 pc = .ok (.putfield idx, 3)) (kk : ∀ M', AJ fin w d mi (pc + 3) ls st (S, M') (f M')) : AJ fin w d mi pc ls (.int x :: .ref k :: st) (S, M) (zpI S M k ci n j x f) := aj_putI hcl hj ht hfin hn hf hl hdg (kk _)
theorem r_putL {k ci n j idx : Nat} {C : String} {TX : u_T} {x : Int64} {f : zM → Option ρ} (hcl : zCl ci C TX n) (hj : j < n) (ht : zk (zTyp ci j) = 1) (hfin : (TX j).2.2.2 = false) (hn : narrow (zTyp ci j) (.long x) = .long x) (hf : fits (zTyp ci j) (.long x) = true) (hl : zFl mi.1.cls idx TX j) (hdg : decode mi.2.1 pc = .ok (.putfield idx, 3)) (kk : ∀ M', AJ fin w d mi (pc + 3) ls st (S, M') (f M')) : AJ fin w d mi pc ls (.long x :: .ref k :: st) (S, M) (zpL S M k ci n j x f) := aj_putL hcl hj ht hfin hn hf hl hdg (kk _)
theorem r_putR {k ci n j idx : Nat} {C : String} {TX : u_T} {x : Nat} {f : zM → Option ρ} (hcl : zCl ci C TX n) (hj : j < n) (ht : zk (zTyp ci j) = 2) (hfin : (TX j).2.2.2 = false ∨ ((TX j).2.2.2 = true ∧ mi.1.name = "<init>" ∧ (TX j).1 = mi.1.cls ∧ Cond.fieldLink mi.1.cls idx (TX j).1 (TX j).2.1 (TX j).2.2.1 ∈ zG)) (hl : zFl mi.1.cls idx TX j) (hdg : decode mi.2.1 pc = .ok (.putfield idx, 3)) (kk : ∀ M', AJ fin w d mi (pc + 3) ls st (S, M') (f M')) : AJ fin w d mi pc ls (.ref x :: .ref k :: st) (S, M) (zpR S M k ci n j (some x) f) := aj_putR hcl hj ht hfin hl hdg (kk _)
theorem r_iald {k : Nat} {i : Int32} {f : Int32 → Option ρ} (hdg : decode mi.2.1 pc = .ok (.iaload, 1)) (kk : ∀ v, AJ fin w d mi (pc + 1) ls (.int v :: st) (S, M) (f v)) : AJ fin w d mi pc ls (.int i :: .ref k :: st) (S, M) (zaI S M 100 k i f) := aj_iald hdg (kk _)
theorem r_zald {k : Nat} {i : Int32} {f : Int32 → Option ρ} (hdg : decode mi.2.1 pc = .ok (.baload, 1)) (kk : ∀ v, AJ fin w d mi (pc + 1) ls (.int v :: st) (S, M) (f v)) : AJ fin w d mi pc ls (.int i :: .ref k :: st) (S, M) (zaI S M 102 k i f) := aj_zald hdg (kk _)
theorem r_lald {k : Nat} {i : Int32} {f : Int64 → Option ρ} (hdg : decode mi.2.1 pc = .ok (.laload, 1)) (kk : ∀ v, AJ fin w d mi (pc + 1) ls (.long v :: st) (S, M) (f v)) : AJ fin w d mi pc ls (.int i :: .ref k :: st) (S, M) (zaL S M k i f) := aj_lald hdg (kk _)
theorem r_iast {k : Nat} {i x : Int32} {f : zM → Option ρ} (hdg : decode mi.2.1 pc = .ok (.iastore, 1)) (kk : ∀ M', AJ fin w d mi (pc + 1) ls st (S, M') (f M')) : AJ fin w d mi pc ls (.int x :: .int i :: .ref k :: st) (S, M) (zbI S M k i x f) := aj_iast hdg (kk _)
theorem r_zast {k : Nat} {i x : Int32} {f : zM → Option ρ} (hdg : decode mi.2.1 pc = .ok (.bastore, 1)) (kk : ∀ M', AJ fin w d mi (pc + 1) ls st (S, M') (f M')) : AJ fin w d mi pc ls (.int x :: .int i :: .ref k :: st) (S, M) (zbZ S M k i x f) := aj_zast hdg (kk _)
theorem r_last {k : Nat} {i : Int32} {x : Int64} {f : zM → Option ρ} (hdg : decode mi.2.1 pc = .ok (.lastore, 1)) (kk : ∀ M', AJ fin w d mi (pc + 1) ls st (S, M') (f M')) : AJ fin w d mi pc ls (.long x :: .int i :: .ref k :: st) (S, M) (zbL S M k i x f) := aj_last hdg (kk _)
theorem r_aast {k q ci n : Nat} {i : Int32} {C : String} {TX : u_T} {f : zM → Option ρ} (hcl : zCl ci C TX n) (hC : C = "DayOpeners$State") (hdg : decode mi.2.1 pc = .ok (.aastore, 1)) (kk : ∀ M', AJ fin w d mi (pc + 1) ls st (S, M') (f M')) : AJ fin w d mi pc ls (.ref q :: .int i :: .ref k :: st) (S, M) (zbQ S M k i q ci n f) := aj_aast hcl hC hdg (kk _)
theorem r_alen {t k : Nat} {f : Int32 → Option ρ} (ht : t = 100 ∨ t = 101 ∨ t = 102 ∨ t = 103) (hdg : decode mi.2.1 pc = .ok (.arraylength, 1)) (kk : ∀ v, AJ fin w d mi (pc + 1) ls (.int v :: st) (S, M) (f v)) : AJ fin w d mi pc ls (.ref k :: st) (S, M) (zal S t k f) := aj_alen ht hdg (fun _ _ => kk _)
theorem r_cs {q : Option Nat} {a : Option ρ} {f : Nat → Option ρ} (k0 : AJ fin w d mi pc ls (.null :: st) (S, M) a) (k1 : ∀ k, AJ fin w d mi pc ls (.ref k :: st) (S, M) (f k)) : AJ fin w d mi pc ls (va_rf q :: st) (S, M) (zcs q a f) := by
  cases q with
  | none => exact k0
  | some k => exact k1 k
theorem r_bo {v : Int32} (hn : narrow .boolean (.int v) = .int v → AJ fin w d mi pc ls st (S, M) o) : AJ fin w d mi pc ls st (S, M) (zbo v o) := by
  unfold zbo
  refine aj_ckp fun h => hn ?_
  rcases h with rfl | rfl <;> decide +kernel
theorem rV_I {k ci n idx nA : Nat} {o' : Option Int32} {f : Int32 → Option ρ} (hc : CT (zfI S M) w d' mi' (.ref k :: as) (S, M) o') (hv : zMV mi' nA ci n) (hnA : as.length = nA) (hlink : Cond.methodLink mi.1.cls idx mi'.1 ∈ zG) (hd : d' + 1 ≤ d) (hst : (st.map fun v => v.category).sum ≤ 8) (hdg : decode mi.2.1 pc = .ok (.invokevirtual idx, 3)) (kk : ∀ v, AJ fin w d mi (pc + 3) ls (.int v :: st) (S, M) (f v)) : AJ fin w d mi pc ls (as.reverse ++ .ref k :: st) (S, M) (zrc S k ci n (o'.bind f)) := by
  obtain ⟨hmf, hi, hs, TX, hcl⟩ := hv
  exact aj_callV hc (fun _ => rfl) hcl rfl hmf hnA hi hs (Or.inl hlink) hd hst hdg kk
theorem rVN_I {k ci n idx nA : Nat} {o' : Option Int32} {f : Int32 → Option ρ} (hc : CT (zfI S M) w d' mi' (.ref k :: as) (S, M) o') (hv : zMV mi' nA ci n) (hnA : as.length = nA) (hlink : zMl mi.1.cls idx mi'.1) (hd : d' + 1 ≤ d) (hst : (st.map fun v => v.category).sum ≤ 8) (hdg : decode mi.2.1 pc = .ok (.invokevirtual idx, 3)) (kk : ∀ v, AJ fin w d mi (pc + 3) ls (.int v :: st) (S, M) (f v)) : AJ fin w d mi pc ls (as.reverse ++ .ref k :: st) (S, M) (zrc S k ci n (o'.bind f)) := by
  obtain ⟨hmf, hi, hs, TX, hcl⟩ := hv
  exact aj_callV hc (fun _ => rfl) hcl rfl hmf hnA hi hs hlink hd hst hdg kk
theorem rV_J {k ci n idx nA : Nat} {o' : Option Int64} {f : Int64 → Option ρ} (hc : CT (zfJ S M) w d' mi' (.ref k :: as) (S, M) o') (hv : zMV mi' nA ci n) (hnA : as.length = nA) (hlink : Cond.methodLink mi.1.cls idx mi'.1 ∈ zG) (hd : d' + 1 ≤ d) (hst : (st.map fun v => v.category).sum ≤ 8) (hdg : decode mi.2.1 pc = .ok (.invokevirtual idx, 3)) (kk : ∀ v, AJ fin w d mi (pc + 3) ls (.long v :: st) (S, M) (f v)) : AJ fin w d mi pc ls (as.reverse ++ .ref k :: st) (S, M) (zrc S k ci n (o'.bind f)) := by
  obtain ⟨hmf, hi, hs, TX, hcl⟩ := hv
  exact aj_callV hc (fun _ => rfl) hcl rfl hmf hnA hi hs (Or.inl hlink) hd hst hdg kk
theorem rVN_J {k ci n idx nA : Nat} {o' : Option Int64} {f : Int64 → Option ρ} (hc : CT (zfJ S M) w d' mi' (.ref k :: as) (S, M) o') (hv : zMV mi' nA ci n) (hnA : as.length = nA) (hlink : zMl mi.1.cls idx mi'.1) (hd : d' + 1 ≤ d) (hst : (st.map fun v => v.category).sum ≤ 8) (hdg : decode mi.2.1 pc = .ok (.invokevirtual idx, 3)) (kk : ∀ v, AJ fin w d mi (pc + 3) ls (.long v :: st) (S, M) (f v)) : AJ fin w d mi pc ls (as.reverse ++ .ref k :: st) (S, M) (zrc S k ci n (o'.bind f)) := by
  obtain ⟨hmf, hi, hs, TX, hcl⟩ := hv
  exact aj_callV hc (fun _ => rfl) hcl rfl hmf hnA hi hs hlink hd hst hdg kk
theorem rV_Q {k ci n idx nA : Nat} {o' : Option (Option Nat)} {f : Option Nat → Option ρ} (hc : CT (zfQ S M) w d' mi' (.ref k :: as) (S, M) o') (hv : zMV mi' nA ci n) (hnA : as.length = nA) (hlink : Cond.methodLink mi.1.cls idx mi'.1 ∈ zG) (hd : d' + 1 ≤ d) (hst : (st.map fun v => v.category).sum ≤ 8) (hdg : decode mi.2.1 pc = .ok (.invokevirtual idx, 3)) (kk : ∀ v, AJ fin w d mi (pc + 3) ls (va_rf v :: st) (S, M) (f v)) : AJ fin w d mi pc ls (as.reverse ++ .ref k :: st) (S, M) (zrc S k ci n (o'.bind f)) := by
  obtain ⟨hmf, hi, hs, TX, hcl⟩ := hv
  exact aj_callV hc (fun _ => rfl) hcl rfl hmf hnA hi hs (Or.inl hlink) hd hst hdg kk
theorem rVN_Q {k ci n idx nA : Nat} {o' : Option (Option Nat)} {f : Option Nat → Option ρ} (hc : CT (zfQ S M) w d' mi' (.ref k :: as) (S, M) o') (hv : zMV mi' nA ci n) (hnA : as.length = nA) (hlink : zMl mi.1.cls idx mi'.1) (hd : d' + 1 ≤ d) (hst : (st.map fun v => v.category).sum ≤ 8) (hdg : decode mi.2.1 pc = .ok (.invokevirtual idx, 3)) (kk : ∀ v, AJ fin w d mi (pc + 3) ls (va_rf v :: st) (S, M) (f v)) : AJ fin w d mi pc ls (as.reverse ++ .ref k :: st) (S, M) (zrc S k ci n (o'.bind f)) := by
  obtain ⟨hmf, hi, hs, TX, hcl⟩ := hv
  exact aj_callV hc (fun _ => rfl) hcl rfl hmf hnA hi hs hlink hd hst hdg kk
theorem rV_IM {k ci n idx nA : Nat} {o' : Option (Int32 × zM)} {f : Int32 → zM → Option ρ} (hc : CT (zfIM S) w d' mi' (.ref k :: as) (S, M) o') (hv : zMV mi' nA ci n) (hnA : as.length = nA) (hlink : Cond.methodLink mi.1.cls idx mi'.1 ∈ zG) (hd : d' + 1 ≤ d) (hst : (st.map fun v => v.category).sum ≤ 8) (hdg : decode mi.2.1 pc = .ok (.invokevirtual idx, 3)) (kk : ∀ v M', AJ fin w d mi (pc + 3) ls (.int v :: st) (S, M') (f v M')) : AJ fin w d mi pc ls (as.reverse ++ .ref k :: st) (S, M) (zrc S k ci n (zb2 o' f)) := by
  obtain ⟨hmf, hi, hs, TX, hcl⟩ := hv
  exact aj_callV hc (fun _ => rfl) hcl rfl hmf hnA hi hs (Or.inl hlink) hd hst hdg (fun r => kk r.1 r.2)
theorem rVN_IM {k ci n idx nA : Nat} {o' : Option (Int32 × zM)} {f : Int32 → zM → Option ρ} (hc : CT (zfIM S) w d' mi' (.ref k :: as) (S, M) o') (hv : zMV mi' nA ci n) (hnA : as.length = nA) (hlink : zMl mi.1.cls idx mi'.1) (hd : d' + 1 ≤ d) (hst : (st.map fun v => v.category).sum ≤ 8) (hdg : decode mi.2.1 pc = .ok (.invokevirtual idx, 3)) (kk : ∀ v M', AJ fin w d mi (pc + 3) ls (.int v :: st) (S, M') (f v M')) : AJ fin w d mi pc ls (as.reverse ++ .ref k :: st) (S, M) (zrc S k ci n (zb2 o' f)) := by
  obtain ⟨hmf, hi, hs, TX, hcl⟩ := hv
  exact aj_callV hc (fun _ => rfl) hcl rfl hmf hnA hi hs hlink hd hst hdg (fun r => kk r.1 r.2)
theorem rV_JM {k ci n idx nA : Nat} {o' : Option (Int64 × zM)} {f : Int64 → zM → Option ρ} (hc : CT (zfJM S) w d' mi' (.ref k :: as) (S, M) o') (hv : zMV mi' nA ci n) (hnA : as.length = nA) (hlink : Cond.methodLink mi.1.cls idx mi'.1 ∈ zG) (hd : d' + 1 ≤ d) (hst : (st.map fun v => v.category).sum ≤ 8) (hdg : decode mi.2.1 pc = .ok (.invokevirtual idx, 3)) (kk : ∀ v M', AJ fin w d mi (pc + 3) ls (.long v :: st) (S, M') (f v M')) : AJ fin w d mi pc ls (as.reverse ++ .ref k :: st) (S, M) (zrc S k ci n (zb2 o' f)) := by
  obtain ⟨hmf, hi, hs, TX, hcl⟩ := hv
  exact aj_callV hc (fun _ => rfl) hcl rfl hmf hnA hi hs (Or.inl hlink) hd hst hdg (fun r => kk r.1 r.2)
theorem rVN_JM {k ci n idx nA : Nat} {o' : Option (Int64 × zM)} {f : Int64 → zM → Option ρ} (hc : CT (zfJM S) w d' mi' (.ref k :: as) (S, M) o') (hv : zMV mi' nA ci n) (hnA : as.length = nA) (hlink : zMl mi.1.cls idx mi'.1) (hd : d' + 1 ≤ d) (hst : (st.map fun v => v.category).sum ≤ 8) (hdg : decode mi.2.1 pc = .ok (.invokevirtual idx, 3)) (kk : ∀ v M', AJ fin w d mi (pc + 3) ls (.long v :: st) (S, M') (f v M')) : AJ fin w d mi pc ls (as.reverse ++ .ref k :: st) (S, M) (zrc S k ci n (zb2 o' f)) := by
  obtain ⟨hmf, hi, hs, TX, hcl⟩ := hv
  exact aj_callV hc (fun _ => rfl) hcl rfl hmf hnA hi hs hlink hd hst hdg (fun r => kk r.1 r.2)
theorem rV_VM {k ci n idx nA : Nat} {o' : Option zM} {f : zM → Option ρ} (hc : CT (zfVM S) w d' mi' (.ref k :: as) (S, M) o') (hv : zMV mi' nA ci n) (hnA : as.length = nA) (hlink : Cond.methodLink mi.1.cls idx mi'.1 ∈ zG) (hd : d' + 1 ≤ d) (hst : (st.map fun v => v.category).sum ≤ 8) (hdg : decode mi.2.1 pc = .ok (.invokevirtual idx, 3)) (kk : ∀ M', AJ fin w d mi (pc + 3) ls st (S, M') (f M')) : AJ fin w d mi pc ls (as.reverse ++ .ref k :: st) (S, M) (zrc S k ci n (o'.bind f)) := by
  obtain ⟨hmf, hi, hs, TX, hcl⟩ := hv
  exact aj_callV hc (fun _ => rfl) hcl rfl hmf hnA hi hs (Or.inl hlink) hd hst hdg kk
theorem rVN_VM {k ci n idx nA : Nat} {o' : Option zM} {f : zM → Option ρ} (hc : CT (zfVM S) w d' mi' (.ref k :: as) (S, M) o') (hv : zMV mi' nA ci n) (hnA : as.length = nA) (hlink : zMl mi.1.cls idx mi'.1) (hd : d' + 1 ≤ d) (hst : (st.map fun v => v.category).sum ≤ 8) (hdg : decode mi.2.1 pc = .ok (.invokevirtual idx, 3)) (kk : ∀ M', AJ fin w d mi (pc + 3) ls st (S, M') (f M')) : AJ fin w d mi pc ls (as.reverse ++ .ref k :: st) (S, M) (zrc S k ci n (o'.bind f)) := by
  obtain ⟨hmf, hi, hs, TX, hcl⟩ := hv
  exact aj_callV hc (fun _ => rfl) hcl rfl hmf hnA hi hs hlink hd hst hdg kk
theorem rS_I {idx nA : Nat} {o' : Option Int32} {f : Int32 → Option ρ} (hc : CT (zfI S M) w d' mi' as (S, M) o') (hv : zMS mi' nA) (hnA : as.length = nA) (hlink : Cond.methodLink mi.1.cls idx mi'.1 ∈ zG) (hd : d' + 1 ≤ d) (hst : (st.map fun v => v.category).sum ≤ 8) (hdg : decode mi.2.1 pc = .ok (.invokestatic idx, 3)) (kk : ∀ v, AJ fin w d mi (pc + 3) ls (.int v :: st) (S, M) (f v)) : AJ fin w d mi pc ls (as.reverse ++ st) (S, M) (o'.bind f) := aj_callS hc (fun _ => rfl) hv.1 hnA hv.2 hlink hd hst hdg kk
theorem rS_J {idx nA : Nat} {o' : Option Int64} {f : Int64 → Option ρ} (hc : CT (zfJ S M) w d' mi' as (S, M) o') (hv : zMS mi' nA) (hnA : as.length = nA) (hlink : Cond.methodLink mi.1.cls idx mi'.1 ∈ zG) (hd : d' + 1 ≤ d) (hst : (st.map fun v => v.category).sum ≤ 8) (hdg : decode mi.2.1 pc = .ok (.invokestatic idx, 3)) (kk : ∀ v, AJ fin w d mi (pc + 3) ls (.long v :: st) (S, M) (f v)) : AJ fin w d mi pc ls (as.reverse ++ st) (S, M) (o'.bind f) := aj_callS hc (fun _ => rfl) hv.1 hnA hv.2 hlink hd hst hdg kk
theorem rS_VM {idx nA : Nat} {o' : Option zM} {f : zM → Option ρ} (hc : CT (zfVM S) w d' mi' as (S, M) o') (hv : zMS mi' nA) (hnA : as.length = nA) (hlink : Cond.methodLink mi.1.cls idx mi'.1 ∈ zG) (hd : d' + 1 ≤ d) (hst : (st.map fun v => v.category).sum ≤ 8) (hdg : decode mi.2.1 pc = .ok (.invokestatic idx, 3)) (kk : ∀ M', AJ fin w d mi (pc + 3) ls st (S, M') (f M')) : AJ fin w d mi pc ls (as.reverse ++ st) (S, M) (o'.bind f) := aj_callS hc (fun _ => rfl) hv.1 hnA hv.2 hlink hd hst hdg kk
theorem aj_aloadN {i : Nat} (j : Nat) (hdg : decode mi.2.1 pc = .ok (.aload i, 2)) (hg : ls[j]? = some (i, .null)) (k : AJ fin w d mi (pc + 2) ls (.null :: st) (S, M) o) : AJ fin w d mi pc ls st (S, M) o := by
  intro r hr p e R s m args below meth c H locs cells slots c0 s0 lsr hA hD hl
  exact lv_aloadN hA.1 hA.2.1 hdg (lv_at hl j (zls_get hg)) (k r hr p e R s m args below meth c H locs cells slots c0 s0 lsr hA hD hl)
theorem r_aload_nQ {k : Fin 4} {i : Nat} {q : Option Nat} (j : Nat) (hdg : decode mi.2.1 pc = .ok (.aload_n k, 1)) (hi : (k : Nat) = i) (hg : ls[j]? = some (i, va_rf q)) (kk : AJ fin w d mi (pc + 1) ls (va_rf q :: st) (S, M) o) : AJ fin w d mi pc ls st (S, M) o := by
  cases q with
  | none => exact aj_aload_nN j hdg hi hg kk
  | some q => exact aj_aload_n j hdg hi hg kk
theorem r_aloadQ {i : Nat} {q : Option Nat} (j : Nat) (hdg : decode mi.2.1 pc = .ok (.aload i, 2)) (hg : ls[j]? = some (i, va_rf q)) (kk : AJ fin w d mi (pc + 2) ls (va_rf q :: st) (S, M) o) : AJ fin w d mi pc ls st (S, M) o := by
  cases q with
  | none => exact aj_aloadN j hdg hg kk
  | some q => exact aj_aload j hdg hg kk
theorem r_astore_nQ {k : Fin 4} {i : Nat} {q : Option Nat} {ls2 : List (Nat × Value)} (hdg : decode mi.2.1 pc = .ok (.astore_n k, 1)) (hi : (k : Nat) = i) (hn : i < mi.2.2.1) (h2 : zst ls i (va_rf q) = ls2) (kk : AJ fin w d mi (pc + 1) ls2 st (S, M) o) : AJ fin w d mi pc ls (va_rf q :: st) (S, M) o := by
  cases q with
  | none => exact aj_astore_nN hdg hi hn h2 kk
  | some q => exact aj_astore_n hdg hi hn h2 kk
theorem r_astoreQ {i : Nat} {q : Option Nat} {ls2 : List (Nat × Value)} (hdg : decode mi.2.1 pc = .ok (.astore i, 2)) (hn : i < mi.2.2.1) (h2 : zst ls i (va_rf q) = ls2) (kk : AJ fin w d mi (pc + 2) ls2 st (S, M) o) : AJ fin w d mi pc ls (va_rf q :: st) (S, M) o := by
  cases q with
  | none => exact aj_astoreN hdg hn h2 kk
  | some q => exact aj_astore hdg hn h2 kk
theorem r_ifnullQ {L : Option Nat → List (Nat × Value)} {q : Option Nat} {off : Int} {tgt : Nat} {a : Option ρ} {f : Nat → Option ρ} (hdg : decode mi.2.1 pc = .ok (.ifnull off, 3)) (ht : (pc : Int) + off = (tgt : Int)) (k0 : AJ fin w d mi tgt (L none) st (S, M) a) (k1 : ∀ k, AJ fin w d mi (pc + 3) (L (some k)) st (S, M) (f k)) : AJ fin w d mi pc (L q) (va_rf q :: st) (S, M) (zcs q a f) := by
  cases q with
  | none => exact aj_ifnullN hdg ht k0
  | some k => exact aj_ifnull hdg (k1 k)
theorem r_ifnonnullQ {L : Option Nat → List (Nat × Value)} {q : Option Nat} {off : Int} {tgt : Nat} {a : Option ρ} {f : Nat → Option ρ} (hdg : decode mi.2.1 pc = .ok (.ifnonnull off, 3)) (ht : (pc : Int) + off = (tgt : Int)) (k0 : AJ fin w d mi (pc + 3) (L none) st (S, M) a) (k1 : ∀ k, AJ fin w d mi tgt (L (some k)) st (S, M) (f k)) : AJ fin w d mi pc (L q) (va_rf q :: st) (S, M) (zcs q a f) := by
  cases q with
  | none => exact aj_ifnonnullN hdg k0
  | some k => exact aj_ifnonnull hdg ht (k1 k)
end ZR2
section ZR3
variable {w : zWd} {d d' : Nat} {mi mi' : zMI} {pc : Nat} {ls : List (Nat × Value)} {st as : List Value} {S : List (Nat × Nat)} {M : zM}
theorem rC {k idx nA : Nat} {o' : Option zH} {f : List (Nat × Nat) → zM → Option zH} (hg : w.2.2.2.2.2 = 0) (hc : CT zfC w d' mi' (.ref k :: as) (S, M) o') (hv : zMC mi' nA) (hnA : as.length = nA) (hlink : zMl mi.1.cls idx mi'.1) (hd : d' + 1 ≤ d) (hst : (st.map fun v => v.category).sum ≤ 8) (hdg : decode mi.2.1 pc = .ok (.invokespecial idx, 3)) (kk : ∀ S' M', AJ zfC w d mi (pc + 3) ls st (S', M') (f S' M')) : AJ zfC w d mi pc ls (as.reverse ++ .ref k :: st) (S, M) (zmk2 S o' f) := aj_callI hg hc hv.1 hnA hv.2.1 hv.2.2.1 hv.2.2.2 hlink hd hst hdg (fun r => kk r.1 r.2)
theorem r_new {ci n idx : Nat} {C : String} {TX : u_T} {f : List (Nat × Nat) → zM → Nat → Option zH} (hg : w.2.2.2.2.2 = 0) (hcl : zCl ci C TX n) (hcls : Cond.classLink mi.1.cls idx C ∈ zG) (hinst : Cond.instantiable C n ∈ zG) (hini : Cond.initialized C ∈ zG) (hdg : decode mi.2.1 pc = .ok (.new idx, 3)) (kk : ∀ S' M' q, AJ zfC w d mi (pc + 3) ls (.ref q :: st) (S', M') (f S' M' q)) : AJ zfC w d mi pc ls st (S, M) (znew S M ci n f) := aj_new hg hcl hcls hinst hini hdg (kk _ _ _)
theorem r_newI {x : Int32} {f : List (Nat × Nat) → zM → Nat → Option zH} (hg : w.2.2.2.2.2 = 0) (harr : Cond.arrayClass .int ∈ zG) (hdg : decode mi.2.1 pc = .ok (.newarray .int, 2)) (kk : ∀ S' M' q, AJ zfC w d mi (pc + 2) ls (.ref q :: st) (S', M') (f S' M' q)) : AJ zfC w d mi pc ls (.int x :: st) (S, M) (znar S M 100 x f) := aj_newI hg harr hdg (kk _ _ _)
theorem r_newL {x : Int32} {f : List (Nat × Nat) → zM → Nat → Option zH} (hg : w.2.2.2.2.2 = 0) (harr : Cond.arrayClass .long ∈ zG) (hdg : decode mi.2.1 pc = .ok (.newarray .long, 2)) (kk : ∀ S' M' q, AJ zfC w d mi (pc + 2) ls (.ref q :: st) (S', M') (f S' M' q)) : AJ zfC w d mi pc ls (.int x :: st) (S, M) (znar S M 101 x f) := aj_newL hg harr hdg (kk _ _ _)
theorem r_newZ {x : Int32} {f : List (Nat × Nat) → zM → Nat → Option zH} (hg : w.2.2.2.2.2 = 0) (harr : Cond.arrayClass .boolean ∈ zG) (hdg : decode mi.2.1 pc = .ok (.newarray .boolean, 2)) (kk : ∀ S' M' q, AJ zfC w d mi (pc + 2) ls (.ref q :: st) (S', M') (f S' M' q)) : AJ zfC w d mi pc ls (.int x :: st) (S, M) (znar S M 102 x f) := aj_newZ hg harr hdg (kk _ _ _)
theorem r_newq {x : Int32} {idx : Nat} {f : List (Nat × Nat) → zM → Nat → Option zH} (hg : w.2.2.2.2.2 = 0) (hover : ∀ s : State, w.2.2.2.2.1 s → va_AO "DayOpeners$State" s) (hclink : Cond.classLink mi.1.cls idx "DayOpeners$State" ∈ zG) (hdg : decode mi.2.1 pc = .ok (.anewarray idx, 3)) (kk : ∀ S' M' q, AJ zfC w d mi (pc + 3) ls (.ref q :: st) (S', M') (f S' M' q)) : AJ zfC w d mi pc ls (.int x :: st) (S, M) (znar S M 103 x f) := aj_newq hg hover hclink hdg (kk _ _ _)
end ZR3
