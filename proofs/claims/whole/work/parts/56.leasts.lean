section T56
variable {N : Int} {μ ν : Mem} {g u : Int → Int} {v W : Mem} {Q : PV → Mem → Prop} {w t s r h : Int}
theorem qX5_leasts_loop (hr : 0 ≤ r ∧ r ≤ 12) (hn : 1 ≤ g 7 ∧ g 7 ≤ 4) (h : Q (0, sumI (fun s => v s 0) (g 7)) (wk μ r g v W)) : ∀ (d : Nat) (s a : Int), 0 ≤ s → s + d = g 7 → a = sumI (fun s => v s 0) s → OkE mX5_leasts 4 [(105, 0), (0, r), (0, a), (0, s)] [] (wk μ r g v W) Q
  | 0, s, a, h0, hd, ha => by
    refine OkE.go snX5_leasts [4] 100 ?_
    refine qX5_of 7 hr (by omega) ?_
    refine ⟨by omega, by omega, fun _ => ?_, fun q => absurd q (by omega)⟩
    have e : s = g 7 := by omega
    rw [ha, e]
    exact h
  | d + 1, s, a, h0, hd, ha => by
    refine OkE.go snX5_leasts [4] 100 ?_
    refine qX5_of 7 hr (by omega) ?_
    refine ⟨by omega, by omega, fun q => absurd q (by omega), fun _ => ?_⟩
    refine qX5_at ?_
    refine ⟨by omega, fun x e => ?_⟩
    obtain rfl := e.trans (rd_v s 0 rfl (by omega) (by omega))
    exact qX5_leasts_loop hr hn h d (s + 1) _ (by omega) (by omega) (by rw [sumI_succ _ h0, ha])
theorem qX5_leasts (hr : 0 ≤ r ∧ r ≤ 12) (hn : 1 ≤ g 7 ∧ g 7 ≤ 4) (h : Q (0, sumI (fun s => v s 0) (g 7)) (wk μ r g v W)) : MetP mX5_leasts [(105, 0), (0, r)] (wk μ r g v W) Q := by
  refine MetP.go snX5_leasts [4] 100 rfl rfl rfl rfl (fun _ => ?_)
  exact qX5_leasts_loop hr hn h (g 7).toNat 0 0 (by omega) (by omega) rfl
theorem qX0_leasts_loop {f : Int → Int} {n : Int} (hn : 1 ≤ n ∧ n ≤ 4) (h2 : μ h 2 = n) (hc : ∀ s, 0 ≤ s → s < n → μ (h + 2 + 1 + 12 * s + 1) 0 = f s) (hq : Q (0, sumI f n) μ) : ∀ (d : Nat) (s a : Int), 0 ≤ s → s + d = n → a = sumI f s → OkE mX0_leasts 4 [(100, h), (0, a), (0, s)] [] μ Q
  | 0, s, a, h0, hd, ha => by
    refine OkE.go snX0_leasts [4] 100 ?_
    intro x1 e1
    obtain rfl := e1.trans h2
    refine ⟨by omega, by omega, fun _ => ?_, fun q => absurd q (by omega)⟩
    rw [ha, show s = x1 by omega]
    exact hq
  | d + 1, s, a, h0, hd, ha => by
    refine OkE.go snX0_leasts [4] 100 ?_
    intro x1 e1
    obtain rfl := e1.trans h2
    refine ⟨by omega, by omega, fun q => absurd q (by omega), fun _ => ?_⟩
    refine ⟨by omega, ?_⟩
    refine ⟨by omega, fun x2 e2 => ?_⟩
    obtain rfl := e2.trans (hc s h0 (by omega))
    exact qX0_leasts_loop hn h2 hc hq d (s + 1) _ (by omega) (by omega) (by rw [sumI_succ _ h0, ha])
theorem qX0_leasts {f : Int → Int} {n : Int} (hn : 1 ≤ n ∧ n ≤ 4) (h2 : μ h 2 = n) (hc : ∀ s, 0 ≤ s → s < n → μ (h + 2 + 1 + 12 * s + 1) 0 = f s) (hq : Q (0, sumI f n) μ) : MetP mX0_leasts [(100, h)] μ Q := by
  refine MetP.go snX0_leasts [4] 100 rfl rfl rfl rfl (fun _ => ?_)
  exact qX0_leasts_loop hn h2 hc hq n.toNat 0 0 (by omega) (by omega) rfl
theorem qX5_lowOf (hw : 0 ≤ w ∧ w ≤ 8) (hq : Q (0, stV 2 w) ν) : MetP mX5_lowOf [(0, w)] ν Q := by
  refine MetP.go snX5_lowOf [21] 100 rfl rfl rfl rfl (fun _ => ?_)
  have J : stV 2 w = 1 → OkE mX5_lowOf 21 [(0, w)] [] ν Q := by
    intro e
    refine OkE.go snX5_lowOf [] 100 ?_
    rw [e] at hq
    exact hq
  refine ⟨by omega, by omega, fun q => J (by rw [show w = 1 from q]; rfl), fun q1 => ?_⟩
  refine ⟨by omega, by omega, fun q => J (by rw [show w = 3 from q]; rfl), fun q2 => ?_⟩
  refine ⟨by omega, by omega, fun q => J (by rw [show w = 4 from q]; rfl), fun q3 => ?_⟩
  refine ⟨by omega, by omega, fun q4 => ?_, fun q => J (by rw [show w = 8 by omega]; rfl)⟩
  have e : stV 2 w = 0 := by
    rcases (show w = 0 ∨ w = 2 ∨ w = 5 ∨ w = 6 ∨ w = 7 by omega) with rfl | rfl | rfl | rfl | rfl <;> rfl
  rw [e] at hq
  exact hq
end T56
