section T59
variable {N : Int} {μ ν : Mem} {g u : Int → Int} {v W : Mem} {Q : PV → Mem → Prop} {w t s r h k : Int}
theorem qX0_spentByAll_loop {f : Int → Int} {n : Int} (hn : 1 ≤ n ∧ n ≤ 4) (h2 : μ h 2 = n) (hc : ∀ s, 0 ≤ s → s < n → μ (h + 2 + 1 + 12 * s) 9 = f s) (hq : Q (0, sumI f n) μ) : ∀ (d : Nat) (s a : Int), 0 ≤ s → s + d = n → a = sumI f s → OkE mX0_spentByAll 4 [(100, h), (0, a), (0, s)] [] μ Q
  | 0, s, a, h0, hd, ha => by
    refine OkE.go snX0_spentByAll [4] 100 ?_
    intro x1 e1
    obtain rfl := e1.trans h2
    refine ⟨by omega, by omega, fun _ => ?_, fun q => absurd q (by omega)⟩
    rw [ha, show s = x1 by omega]
    exact hq
  | d + 1, s, a, h0, hd, ha => by
    refine OkE.go snX0_spentByAll [4] 100 ?_
    intro x1 e1
    obtain rfl := e1.trans h2
    refine ⟨by omega, by omega, fun q => absurd q (by omega), fun _ => ?_⟩
    refine ⟨by omega, ?_⟩
    intro x2 e2
    obtain rfl := e2.trans (hc s h0 (by omega))
    exact qX0_spentByAll_loop hn h2 hc hq d (s + 1) _ (by omega) (by omega) (by rw [sumI_succ _ h0, ha])
theorem qX0_spentByAll {f : Int → Int} {n : Int} (hn : 1 ≤ n ∧ n ≤ 4) (h2 : μ h 2 = n) (hc : ∀ s, 0 ≤ s → s < n → μ (h + 2 + 1 + 12 * s) 9 = f s) (hq : Q (0, sumI f n) μ) : MetP mX0_spentByAll [(100, h)] μ Q := by
  refine MetP.go snX0_spentByAll [4] 100 rfl rfl rfl rfl (fun _ => ?_)
  exact qX0_spentByAll_loop hn h2 hc hq n.toNat 0 0 (by omega) (by omega) rfl
theorem qX0_lackOfAll_loop {f : Int → Int} {n : Int} (hn : 1 ≤ n ∧ n ≤ 4) (h2 : μ h 2 = n) (hc : ∀ s, 0 ≤ s → s < n → μ (h + 2 + 1 + 12 * s) 10 = f s) (hq : Q (0, sumI f n) μ) : ∀ (d : Nat) (s a : Int), 0 ≤ s → s + d = n → a = sumI f s → OkE mX0_lackOfAll 4 [(100, h), (0, a), (0, s)] [] μ Q
  | 0, s, a, h0, hd, ha => by
    refine OkE.go snX0_lackOfAll [4] 100 ?_
    intro x1 e1
    obtain rfl := e1.trans h2
    refine ⟨by omega, by omega, fun _ => ?_, fun q => absurd q (by omega)⟩
    rw [ha, show s = x1 by omega]
    exact hq
  | d + 1, s, a, h0, hd, ha => by
    refine OkE.go snX0_lackOfAll [4] 100 ?_
    intro x1 e1
    obtain rfl := e1.trans h2
    refine ⟨by omega, by omega, fun q => absurd q (by omega), fun _ => ?_⟩
    refine ⟨by omega, ?_⟩
    intro x2 e2
    obtain rfl := e2.trans (hc s h0 (by omega))
    exact qX0_lackOfAll_loop hn h2 hc hq d (s + 1) _ (by omega) (by omega) (by rw [sumI_succ _ h0, ha])
theorem qX0_lackOfAll {f : Int → Int} {n : Int} (hn : 1 ≤ n ∧ n ≤ 4) (h2 : μ h 2 = n) (hc : ∀ s, 0 ≤ s → s < n → μ (h + 2 + 1 + 12 * s) 10 = f s) (hq : Q (0, sumI f n) μ) : MetP mX0_lackOfAll [(100, h)] μ Q := by
  refine MetP.go snX0_lackOfAll [4] 100 rfl rfl rfl rfl (fun _ => ?_)
  exact qX0_lackOfAll_loop hn h2 hc hq n.toNat 0 0 (by omega) (by omega) rfl
theorem qX0_pastRounds {n : Int} (hn : 0 ≤ n ∧ n ≤ 200000) (e : μ h 4 = n) (hq : Q (0, min n 18) μ) : MetP mX0_pastRounds [(100, h)] μ Q := by
  refine MetP.go snX0_pastRounds [] 100 rfl rfl rfl rfl (fun _ => ?_)
  intro x1 e1
  obtain rfl : x1 = n := e1.trans e
  refine ⟨by omega, by omega, ?_⟩
  exact hq
theorem qX5_allOf_loop (hr : 0 ≤ r ∧ r ≤ 12) (hk : 0 ≤ k ∧ k < 98) (hn : 1 ≤ g 7 ∧ g 7 ≤ 4) (h : Q (0, sumI (fun s => v s k) (g 7)) (wk μ r g v W)) : ∀ (d : Nat) (s a : Int), 0 ≤ s → s + d = g 7 → a = sumI (fun s => v s k) s → OkE mX5_allOf 5 [(105, 0), (0, r), (0, k), (0, a), (0, s)] [] (wk μ r g v W) Q
  | 0, s, a, h0, hd, ha => by
    refine OkE.go snX5_allOf [5] 100 ?_
    refine qX5_of 7 hr (by omega) ?_
    refine ⟨by omega, by omega, fun _ => ?_, fun q => absurd q (by omega)⟩
    have e : s = g 7 := by omega
    rw [ha, e]
    exact h
  | d + 1, s, a, h0, hd, ha => by
    refine OkE.go snX5_allOf [5] 100 ?_
    refine qX5_of 7 hr (by omega) ?_
    refine ⟨by omega, by omega, fun q => absurd q (by omega), fun _ => ?_⟩
    refine qX5_at ?_
    refine ⟨by omega, fun x e => ?_⟩
    obtain rfl := e.trans (rd_v s k rfl (by omega) (by omega))
    exact qX5_allOf_loop hr hk hn h d (s + 1) _ (by omega) (by omega) (by rw [sumI_succ _ h0, ha])
theorem qX5_allOf (hr : 0 ≤ r ∧ r ≤ 12) (hk : 0 ≤ k ∧ k < 98) (hn : 1 ≤ g 7 ∧ g 7 ≤ 4) (h : Q (0, sumI (fun s => v s k) (g 7)) (wk μ r g v W)) : MetP mX5_allOf [(105, 0), (0, r), (0, k)] (wk μ r g v W) Q := by
  refine MetP.go snX5_allOf [5] 100 rfl rfl rfl rfl (fun _ => ?_)
  exact qX5_allOf_loop hr hk hn h (g 7).toNat 0 0 (by omega) (by omega) rfl
end T59
