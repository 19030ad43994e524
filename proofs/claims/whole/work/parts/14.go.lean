theorem MetP.go {M : MD} {tb : Nat → PI} (hs : SndF M tb) (stops : List Nat) (n : Nat) {as ls : List PV} {μ : Mem} {P : PV → Mem → Prop} (hy : plainName M.2.2.1.cls = true) (hno : noL as = true) (hle : Nat.ble as.length M.2.2.2.2.1 = true) (hls : ls = as ++ pads (M.2.2.2.2.1 - as.length)) (h : (∀ v ∈ as, VOK M.1 v) → Sym tb stops P (fun pc ls st μ => OkE M pc ls st μ P) n 0 ls [] μ) : MetP M as μ P :=
  MetP.of hy hno (Nat.le_of_ble_eq_true hle) hls (fun hv => Sym.ok hs n 0 ls [] μ (h hv))
/-- a run from a loop's head -/
theorem OkE.go {M : MD} {tb : Nat → PI} (hs : SndF M tb) (stops : List Nat) (n : Nat) {pc : Nat} {ls st : List PV} {μ : Mem} {P : PV → Mem → Prop} (h : Sym tb stops P (fun pc ls st μ => OkE M pc ls st μ P) n pc ls st μ) : OkE M pc ls st μ P := Sym.ok hs n pc ls st μ h
