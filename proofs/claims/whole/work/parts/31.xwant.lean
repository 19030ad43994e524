section X2
variable {μ : Mem} {c h R : Int} {g u : Int → Int} {Q : PV → Mem → Prop}
theorem wake_ne {k : Int} (h1 : k ≠ 10) (h2 : k ≠ 11) : wakeV u k = u k := by unfold wakeV; rw [upg_ne h2, upg_ne h1]
theorem wake_10 : wakeV u 10 = u 10 + u 11 := by unfold wakeV; rw [upg_ne (by omega), upg_at]
theorem wake_11 : wakeV u 11 = 0 := by unfold wakeV; rw [upg_at]
theorem cnt_wake : cntV (wakeV u) = cntV u := by
  unfold cntV
  rw [wake_10, wake_11, wake_ne (by omega) (by omega), wake_ne (by omega) (by omega), wake_ne (by omega) (by omega), wake_ne (by omega) (by omega), wake_ne (by omega) (by omega), wake_ne (by omega) (by omega)]
  omega
/-- a House's own numbers -/
def RelG (μ : Mem) (h : Int) (g : Int → Int) : Prop := (∀ k, 0 ≤ k → k < 5 → μ (h + 1) k = g k) ∧ μ h 2 = g 7 ∧ μ h 3 = g 5 ∧ μ h 4 = g 6
theorem qX0_wantOf {m : Int} (hH : RelG μ h g) (hG : BG g) (hS : RelS μ c (g 6) u) (hB : BV u) (hm : 0 ≤ m ∧ m < u 9) (hq : Q (0, wantV g (wakeV u) m (u (37 + 21 * m))) μ) : MetP mX0_wantOf [(100, h), (102, c), (101, c + 2 + 1 + 2 * m)] μ Q := by
  obtain ⟨hn, hn7, hn5, hn6⟩ := hH
  obtain ⟨g0, g1, g2, g3, g4, g5, g6, g7⟩ := id hG
  have hc := cntV_bd hB
  have hBw := BV_wake hB
  have hcw := cntV_bd hBw
  have hBw2 := hBw
  obtain ⟨-, -, -, -, -, -, -, -, -, -, -, -, -, -, -, -, -, hMw⟩ := hBw2
  have h9 : wakeV u 9 = u 9 := wake_ne (by omega) (by omega)
  obtain ⟨kb, tb, vb, pb⟩ := hMw m hm.1 (by rw [h9]; exact hm.2)
  have hS2 := hS
  obtain ⟨-, ⟨-, hcnt, -⟩, -, -, -, -, -, -, -, hM⟩ := hS2
  obtain ⟨mk, mt, mv, mp⟩ := hM m hm.1 hm.2
  have ek : wakeV u (35 + 21 * m) = u (35 + 21 * m) := wake_ne (by omega) (by omega)
  have et : wakeV u (36 + 21 * m) = u (36 + 21 * m) := wake_ne (by omega) (by omega)
  have ev : wakeV u (37 + 21 * m) = u (37 + 21 * m) := wake_ne (by omega) (by omega)
  have hf := foreV_bd (g := g) (h := g 1) pb
  rw [← hcnt] at hc
  have J : ∀ z, (u (35 + 21 * m) = 2 → z = foreV g (wakeV u) m (g 1)) → (0 ≤ z ∧ z ≤ 30000) → OkE mX0_wantOf 32 [(100, h), (102, c), (101, c + 2 + 1 + 2 * m), (9, 0)] [(0, z)] μ Q := by
    intro z hz hzb
    refine OkE.go snX0_wantOf [] 100 ?_
    intro x1 e1
    obtain rfl := e1.trans mv
    intro x2 e2
    obtain rfl := e2.trans hcnt
    intro x3 e3
    obtain rfl := e3.trans hn6
    refine qX2_readyIn (by omega) hS ?_
    refine qX1_wantBy (g := g) (u := wakeV u) (m := m) (mk.trans ek.symm) (mt.trans et.symm) kb tb (by rw [ev] at vb; exact vb) wake_10.symm (by rw [← wake_10]; omega) cnt_wake.symm (by omega) (by rw [ek]; exact hz) hzb ?_
    exact hq
  refine MetP.go snX0_wantOf [32] 100 rfl rfl rfl rfl (fun _ => ?_)
  intro x1 e1
  obtain rfl := e1.trans mk
  refine ⟨by omega, by omega, fun q => ?_, fun q => ?_⟩
  · exact J 0 (fun e => absurd e (by omega)) (by omega)
  intro x2 e2
  obtain rfl := e2.trans hn6
  refine ⟨by omega, fun x3 e3 => ?_⟩
  obtain rfl := e3.trans (hn 1 (by omega) (by omega))
  refine ⟨by omega, fun x4 e4 => ?_⟩
  obtain rfl := e4.trans (hn 4 (by omega) (by omega))
  refine qX1_foresee (u := wakeV u) (m := m) hG (by omega) pb (fun k p1 p2 p3 => ?_) ?_
  · rw [wake_ne (by omega) (by omega)]
    exact mp k p1 p2 p3
  exact J _ (fun _ => rfl) hf
/-- the greatest of the measures' wants but one -/
def bsN (g u : Int → Int) (lf : Int) : Nat → Int
  | 0 => 0
  | k + 1 => if (k : Int) = lf then bsN g u lf k else max (bsN g u lf k) (wantV g u (k : Int) (u (37 + 21 * (k : Int))))
theorem bsN_bd {lf : Int} (hB : BV u) : ∀ k : Nat, (k : Int) ≤ u 9 → 0 ≤ bsN g u lf k ∧ bsN g u lf k ≤ 300000
  | 0, _ => by show (0 : Int) ≤ 0 ∧ (0 : Int) ≤ 300000; omega
  | k + 1, hk => by
    have ih := bsN_bd (lf := lf) hB k (by omega)
    have hB2 := hB
    obtain ⟨-, -, -, -, -, -, -, -, -, -, -, -, -, -, -, -, -, hM⟩ := hB2
    obtain ⟨-, -, hv, -⟩ := hM (k : Int) (by omega) (by omega)
    have h2 := wantV_bd (g := g) (m := (k : Int)) (x := u (37 + 21 * (k : Int))) hB (by omega) hv
    unfold bsN
    split <;> omega
theorem bsN_all (h9 : u 9 ≠ 0) : ∀ k : Nat, bsN g u (-1) k = mxN g u k
  | 0 => by show (0 : Int) = if u 9 = 0 then u 0 else 0; rw [if_neg h9]
  | k + 1 => by
    unfold bsN mxN
    rw [if_neg (by omega), bsN_all h9 k]
theorem qX0_wantBeside_loop {lf : Int} (hH : RelG μ h g) (hG : BG g) (hS : RelS μ c (g 6) u) (hB : BV u) (hl : -1 ≤ lf ∧ lf ≤ 3) (hq : Q (0, bsN g (wakeV u) lf (u 9).toNat) μ) : ∀ (d k : Nat), (k : Int) + d = u 9 → OkE mX0_wantBeside 5 [(100, h), (102, c), (0, lf), (0, bsN g (wakeV u) lf k), (0, (k : Int))] [] μ Q
  | 0, k, hd => by
    have h9 : 0 ≤ u 9 ∧ u 9 ≤ 3 := by obtain ⟨-, -, -, -, -, -, -, -, -, -, h9, -⟩ := hB; exact h9
    have hS2 := hS
    obtain ⟨-, ⟨hmc, -, -⟩, -⟩ := hS2
    refine OkE.go snX0_wantBeside [5] 100 ?_
    intro x1 e1
    obtain rfl := e1.trans hmc
    refine ⟨by omega, by omega, fun _ => ?_, fun q => absurd q (by omega)⟩
    rw [show (u 9).toNat = k by omega] at hq
    exact hq
  | d + 1, k, hd => by
    have h9 : 0 ≤ u 9 ∧ u 9 ≤ 3 := by obtain ⟨-, -, -, -, -, -, -, -, -, -, h9, -⟩ := hB; exact h9
    have hBw := BV_wake hB
    have h9w : wakeV u 9 = u 9 := wake_ne (by omega) (by omega)
    have ih := qX0_wantBeside_loop hH hG hS hB hl hq d (k + 1) (by omega)
    have hb1 := bsN_bd (g := g) (lf := lf) hBw k (by rw [h9w]; omega)
    have hBw2 := hBw
    obtain ⟨-, -, -, -, -, -, -, -, -, -, -, -, -, -, -, -, -, hMw⟩ := hBw2
    obtain ⟨-, -, vb, -⟩ := hMw (k : Int) (by omega) (by rw [h9w]; omega)
    have ev : wakeV u (37 + 21 * (k : Int)) = u (37 + 21 * (k : Int)) := wake_ne (by omega) (by omega)
    have hb2 := wantV_bd (g := g) (m := (k : Int)) (x := wakeV u (37 + 21 * (k : Int))) hBw (by rw [h9w]; omega) vb
    have hS2 := hS
    obtain ⟨-, ⟨hmc, -, -⟩, -⟩ := hS2
    refine OkE.go snX0_wantBeside [5] 100 ?_
    intro x1 e1
    obtain rfl := e1.trans hmc
    refine ⟨by omega, by omega, fun q => absurd q (by omega), fun _ => ?_⟩
    refine ⟨by omega, by omega, fun q => ?_, fun q => ?_⟩
    · have e : bsN g (wakeV u) lf (k + 1) = bsN g (wakeV u) lf k := by
        show (if (k : Int) = lf then _ else _) = _
        rw [if_pos q]
      rw [e] at ih
      exact ih
    · have e : bsN g (wakeV u) lf (k + 1) = max (bsN g (wakeV u) lf k) (wantV g (wakeV u) (k : Int) (u (37 + 21 * (k : Int)))) := by
        show (if (k : Int) = lf then _ else _) = _
        rw [if_neg q, ev]
      rw [e] at ih
      rw [ev] at hb2
      refine ⟨by omega, ?_⟩
      refine qX0_wantOf hH hG hS hB (by omega) ?_
      refine ⟨by omega, by omega, ?_⟩
      exact ih
theorem qX0_wantBeside {lf : Int} (hH : RelG μ h g) (hG : BG g) (hS : RelS μ c (g 6) u) (hB : BV u) (hl : -1 ≤ lf ∧ lf ≤ 3) (hq : Q (0, bsN g (wakeV u) lf (u 9).toNat) μ) : MetP mX0_wantBeside [(100, h), (102, c), (0, lf)] μ Q := by
  have h9 : 0 ≤ u 9 ∧ u 9 ≤ 3 := by obtain ⟨-, -, -, -, -, -, -, -, -, -, h9, -⟩ := hB; exact h9
  refine MetP.go snX0_wantBeside [5] 100 rfl rfl rfl rfl (fun _ => ?_)
  exact qX0_wantBeside_loop hH hG hS hB hl hq (u 9).toNat 0 (by omega)
end X2
