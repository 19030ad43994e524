def wdA (x st bd du ct pl w : Int) : Int := if w = 0 then x else if w = 1 then st else if w = 2 then bd else if w = 3 then du else if w = 4 then ct else pl
def cauB (x st bd du ct k : Int) : Bool := if k = 4 then decide (ct < du) else if k = 3 then decide (du ≠ bd) else if k = 2 then decide (bd ≠ st) else decide (st ≠ x)
def whyN (f : Int → Bool) : Nat → Int → Int
  | 0, _ => -1
  | n + 1, l => if f ((n : Int) + 1) then (if l = 0 then (n : Int) + 1 else whyN f n (l - 1)) else whyN f n l
section T65
variable {N : Int} {μ ν : Mem} {g u : Int → Int} {v W : Mem} {Q : PV → Mem → Prop} {w x s c R t n m : Int}
theorem pl_bd (hG : BG g) (hB : ∀ s, 0 ≤ s → s < g 7 → BV (v s)) (hs : 0 ≤ s ∧ s < g 7) : (0 ≤ (d4 g v W).2.2 2 s ∧ (d4 g v W).2.2 2 s ≤ 300000) ∧ (0 ≤ (d4 g v W).2.2 3 s ∧ (d4 g v W).2.2 3 s ≤ 300000) ∧ (-1000 ≤ (d4 g v W).2.2 4 s ∧ (d4 g v W).2.2 4 s ≤ 300000) ∧ (0 ≤ (d4 g v W).2.2 5 s ∧ (d4 g v W).2.2 5 s ≤ 20) ∧ (-1 ≤ (d4 g v W).2.2 7 s ∧ (d4 g v W).2.2 7 s ≤ 4) ∧ (0 ≤ cntV ((d4 g v W).2.1 s) ∧ cntV ((d4 g v W).2.1 s) ≤ 20) ∧ ((d4 g v W).2.2 7 s < 0 → ¬ cntV ((d4 g v W).2.1 s) < (d4 g v W).2.2 5 s) := by
  have g7 := hG.2.2.2.2.2.2.2
  have hBw := BV_wake (hB s hs.1 hs.2)
  have hx := wantedV_bd (g := g) hBw
  have hst := steadyV_bd hBw hx
  have hbd := boundV_bd hBw hx
  have hdu := dueV_bd (x := wantedV g (wakeV (v s))) hBw
  obtain ⟨w2, w3, w4, w5, -⟩ := d4_W (W := W) hG hB hs
  obtain ⟨-, -, -, k4, -⟩ := d4_ok (W := W) hG hB
  have e7 : (d4 g v W).2.2 7 s = placeK (d3v g v W) (cntW (d3v g v W) (g 7) (d3W g v W)) s (g 7).toNat := by
    rw [k4 7 (by omega)]
    unfold getsW plTo
    rw [if_pos ⟨rfl, hs.1, hs.2⟩]
  have c6 : cntW (d3v g v W) (g 7) (d3W g v W) 6 s = cntV (d3v g v W s) := by
    unfold cntW
    rw [if_pos (by omega)]
  have c5 : cntW (d3v g v W) (g 7) (d3W g v W) 5 s = dueV (wantedV g (wakeV (v s))) (wakeV (v s)) := by
    unfold cntW
    rw [if_neg (by omega), if_neg (by omega), d3W_ne (by omega), (d2W_at hs).2.2.2]
  have pb := plN_bd (d3v g v W) (cntW (d3v g v W) (g 7) (d3W g v W)) s (g 7).toNat
  obtain ⟨wm, gt, h1, h2, h3, h4⟩ := d4_at (W := W) hG hB hs
  have hcc := cntV_bd (does_BV (W := W) hG hB hs).1
  have hcg : cntV ((d4 g v W).2.1 s) = cntV (d3v g v W s) + gt := by rw [h3, cnt_getV hG.2.1]
  rw [w2, w3, w4, w5, e7]
  unfold placeK
  rw [c6, c5]
  refine ⟨hx, hst, hbd, by omega, ?_, by omega, ?_⟩
  · split <;> omega
  · split
    · intro q; omega
    · intro _; omega
theorem cnt_does (hG : BG g) (hB : ∀ s, 0 ≤ s → s < g 7 → BV (v s)) (hs : 0 ≤ s ∧ s < g 7) : cntV ((doesX g v W).2.1 s) = cntV ((d4 g v W).2.1 s) := by
  show cntV (d5v g v W s) = _
  rw [d5v_at hs, cnt_sums, d4_11 hG hB hs]
  omega
theorem d5W_6 (hs : 0 ≤ s ∧ s < g 7) : d5W g v W 6 s = cntV ((d4 g v W).2.1 s) := by
  unfold d5W smW
  rw [if_pos ⟨rfl, hs.1, hs.2⟩]
theorem qX5_would (hss : 0 ≤ s ∧ s < g 7) (hw : I32 w) (bG : BG g) (bV : ∀ s, 0 ≤ s → s < g 7 → BV (v s)) (s4 : RwM ν 0 g v) (hO : ¬ (0 ≤ w ∧ w ≤ 5) → Q (0, -1000002) ν) (hq : 0 ≤ w ∧ w ≤ 5 → ∀ y, y = wdA ((d4 g v ν).2.2 2 s) ((d4 g v ν).2.2 3 s) ((d4 g v ν).2.2 4 s) ((d4 g v ν).2.2 5 s) (cntV ((d4 g v ν).2.1 s)) ((d4 g v ν).2.2 7 s) w → Q (0, y) (wk ν 11 (doesX g v ν).1 (doesX g v ν).2.1 (doesX g v ν).2.2)) : MetP mX5_would [(105, 0), (0, s), (0, w)] ν Q := by
  have b7 := bG.2.2.2.2.2.2.2
  have e7 : ν 1 7 = g 7 := RwM_g s4 7 (by omega)
  unfold I32 at hw
  refine MetP.go snX5_would [] 100 rfl rfl rfl rfl (fun _ => ?_)
  refine qX5_isService (by unfold I32; omega) (by omega) (fun q => ?_) (fun q => absurd q (by omega))
  refine ⟨by omega, fun _ => ?_, fun q => absurd q (by omega)⟩
  refine ⟨by omega, ?_⟩
  refine qX5_in (by omega) (by omega) (by omega) (fun qw => ?_) (fun qw => ?_)
  · refine ⟨by omega, fun _ => ?_, fun q => absurd q (by omega)⟩
    have hq := hq qw
    unfold wdA at hq
    refine qX5_triesRound s4 bG bV ?_
    refine ⟨by omega, ?_⟩
    refine And.intro (fun q => ?_) (fun n0 => And.intro (fun q => ?_) (fun n1 => And.intro (fun q => ?_) (fun n2 => And.intro (fun q => ?_) (fun n3 => And.intro (fun q => ?_) (fun n4 => ?_)))))
    · refine ⟨by omega, fun x1 e1 => hq x1 ?_⟩
      rw [if_pos (by omega)]
      exact e1.trans ((rd_W (by omega)).trans (d5W_at 2 (by omega)))
    · refine ⟨by omega, fun x1 e1 => hq x1 ?_⟩
      rw [if_neg (by omega), if_pos (by omega)]
      exact e1.trans ((rd_W (by omega)).trans (d5W_at 3 (by omega)))
    · refine ⟨by omega, fun x1 e1 => hq x1 ?_⟩
      rw [if_neg (by omega), if_neg (by omega), if_pos (by omega)]
      exact e1.trans ((rd_W (by omega)).trans (d5W_at 4 (by omega)))
    · refine ⟨by omega, fun x1 e1 => hq x1 ?_⟩
      rw [if_neg (by omega), if_neg (by omega), if_neg (by omega), if_pos (by omega)]
      exact e1.trans ((rd_W (by omega)).trans (d5W_at 5 (by omega)))
    · refine ⟨by omega, fun x1 e1 => hq x1 ?_⟩
      rw [if_neg (by omega), if_neg (by omega), if_neg (by omega), if_neg (by omega), if_pos (by omega)]
      exact e1.trans ((rd_W (by omega)).trans (d5W_6 hss))
    · refine ⟨by omega, fun x1 e1 => hq x1 ?_⟩
      rw [if_neg (by omega), if_neg (by omega), if_neg (by omega), if_neg (by omega), if_neg (by omega)]
      exact e1.trans ((rd_W (by omega)).trans (d5W_at 7 (by omega)))
  · refine ⟨by omega, fun q => absurd rfl q, fun _ => ?_⟩
    exact hO qw
theorem qX4_would (W : Mem) (hss : 0 ≤ s ∧ s < g 7) (hw : I32 w) (bG : BG g) (h6 : g 6 < 100000) (bV : ∀ s, 0 ≤ s → s < g 7 → BV (v s)) (s1 : μ 0 6 = 1) (s6 : RelH μ 3 g v) (hO : ¬ (0 ≤ w ∧ w ≤ 5) → Q (0, -1000002) μ) (hq : 0 ≤ w ∧ w ≤ 5 → ∀ y μ', y = wdA ((d4 g v W).2.2 2 s) ((d4 g v W).2.2 3 s) ((d4 g v W).2.2 4 s) ((d4 g v W).2.2 5 s) (cntV ((d4 g v W).2.1 s)) ((d4 g v W).2.2 7 s) w → FrH μ μ' 54 → Q (0, y) μ') : MetP mX4_would [(104, 0), (0, s), (0, w)] μ Q := by
  have b7 := bG.2.2.2.2.2.2.2
  have d7 : μ 3 2 = g 7 := s6.1.2.1
  unfold I32 at hw
  refine MetP.go snX4_would [] 100 rfl rfl rfl rfl (fun _ => ?_)
  refine qX4_hasService (by unfold I32; omega) (Or.inr ⟨s1, by omega⟩) (fun _ q => ?_) (fun q => absurd ⟨s1, by omega⟩ q)
  refine ⟨by omega, fun _ => ?_, fun q => absurd q (by omega)⟩
  refine ⟨by omega, fun q2 => ?_, fun q2 => ?_⟩
  · exact hO (by omega)
  refine ⟨by omega, by omega, fun q3 => ?_, fun q3 => ?_⟩
  · have hq := hq (by omega)
    unfold wdA at hq
    refine qX4_afterOneRound W (by omega) bG h6 bV s6 (fun μ' k1 k2 k3 k4 => ?_)
    obtain ⟨p1, p2, p3, p4, p5⟩ := k3 s hss.1 hss.2
    have hc := (k2 s hss.1 hss.2).2.1.2.1
    rw [cnt_does bG bV hss] at hc
    refine ⟨by omega, ?_⟩
    refine And.intro (fun q => ?_) (fun n0 => And.intro (fun q => ?_) (fun n1 => And.intro (fun q => ?_) (fun n2 => And.intro (fun q => ?_) (fun n3 => And.intro (fun q => ?_) (fun n4 => ?_)))))
    · intro x1 e1
      refine hq x1 μ' ?_ k4
      rw [if_pos (by omega)]
      exact e1.trans p1
    · intro x1 e1
      refine hq x1 μ' ?_ k4
      rw [if_neg (by omega), if_pos (by omega)]
      exact e1.trans p2
    · intro x1 e1
      refine hq x1 μ' ?_ k4
      rw [if_neg (by omega), if_neg (by omega), if_pos (by omega)]
      exact e1.trans p3
    · intro x1 e1
      refine hq x1 μ' ?_ k4
      rw [if_neg (by omega), if_neg (by omega), if_neg (by omega), if_pos (by omega)]
      exact e1.trans p4
    · intro x1 e1
      refine hq x1 μ' ?_ k4
      rw [if_neg (by omega), if_neg (by omega), if_neg (by omega), if_neg (by omega), if_pos (by omega)]
      exact e1.trans hc
    · intro x1 e1
      refine hq x1 μ' ?_ k4
      rw [if_neg (by omega), if_neg (by omega), if_neg (by omega), if_neg (by omega), if_neg (by omega)]
      exact e1.trans p5
  · exact hO (by omega)
theorem ag_would (hN : 0 ≤ N ∧ N < 100000) (hs : I32 s) (hw : I32 w) (h : REL N μ ν) : MetP mX5_would [(105, 0), (0, s), (0, w)] ν (fun b ν' => MetP mX4_would [(104, 0), (0, s), (0, w)] μ (fun a μ' => a = b ∧ REL N μ' ν')) := by
  obtain ⟨hT, hn, hst⟩ := id h
  rcases hst with ⟨s1, s2⟩ | ⟨s1, t, g, v, ht, s2, s3, s4, s5, s6, s7⟩
  · refine MetP.go snX5_would [] 100 rfl rfl rfl rfl (fun _ => ?_)
    refine qX5_isService hs (by omega) (fun q => absurd q (by omega)) (fun q => ?_)
    refine ⟨by omega, fun q => absurd rfl q, fun q => ?_⟩
    refine MetP.go snX4_would [] 100 rfl rfl rfl rfl (fun _ => ?_)
    refine qX4_hasService hs (Or.inl s1) (fun q => absurd q (by omega)) (fun q => ?_)
    refine ⟨by omega, fun q => absurd rfl q, fun q => ?_⟩
    exact ⟨rfl, h⟩
  · obtain ⟨bG, b6, bV⟩ := id s5
    have b7 := bG.2.2.2.2.2.2.2
    have e7 : ν 1 7 = g 7 := RwM_g s4 7 (by omega)
    have d7 : μ 3 2 = g 7 := s6.1.2.1
    by_cases hss : 0 ≤ s ∧ s < g 7
    · refine qX5_would hss hw bG bV s4 (fun no => ?_) (fun ok y hy => ?_)
      · exact qX4_would ν hss hw bG (by omega) bV s1 s6 (fun _ => ⟨rfl, h⟩) (fun ok => absurd ok no)
      · refine qX4_would ν hss hw bG (by omega) bV s1 s6 (fun no => absurd ok no) (fun _ z μ' hz hf => ?_)
        obtain rfl : z = y := hz.trans hy.symm
        exact ⟨rfl, h.wk11 (fun a b hn => hf a b (by omega))⟩
    · refine MetP.go snX5_would [] 100 rfl rfl rfl rfl (fun _ => ?_)
      refine qX5_isService hs (by omega) (fun q => absurd q (by omega)) (fun q => ?_)
      refine ⟨by omega, fun q => absurd rfl q, fun q => ?_⟩
      refine MetP.go snX4_would [] 100 rfl rfl rfl rfl (fun _ => ?_)
      refine qX4_hasService hs (Or.inr ⟨s1, by omega⟩) (fun _ q => absurd q (by omega)) (fun q => ?_)
      refine ⟨by omega, fun q => absurd rfl q, fun q => ?_⟩
      exact ⟨rfl, h⟩
theorem qX2_isHeldBy {x st bd du ct pl k : Int} (hp : PlF μ c x st bd du pl) (hc : μ c 3 = ct) (b1 : 0 ≤ x ∧ x ≤ 300000) (b2 : 0 ≤ st ∧ st ≤ 300000) (b3 : -1000 ≤ bd ∧ bd ≤ 300000) (b4 : 0 ≤ du ∧ du ≤ 20) (b5 : 0 ≤ ct ∧ ct ≤ 20) (hk : 1 ≤ k ∧ k ≤ 4) (h1 : cauB x st bd du ct k = true → Q (0, 1) μ) (h0 : ¬ cauB x st bd du ct k = true → Q (0, 0) μ) : MetP mX2_isHeldBy [(102, c), (0, k)] μ Q := by
  obtain ⟨p1, p2, p3, p4, p5⟩ := hp
  unfold cauB at h1 h0
  refine MetP.go snX2_isHeldBy [] 100 rfl rfl rfl rfl (fun _ => ?_)
  refine ⟨by omega, ?_⟩
  refine And.intro (fun q => ?_) (fun n1 => And.intro (fun q => ?_) (fun n2 => And.intro (fun q => ?_) (fun n3 => And.intro (fun q => ?_) (fun n4 => absurd hk (by omega)))))
  · rw [if_neg (by omega), if_neg (by omega), if_neg (by omega), decide_eq_true_eq] at h1 h0
    intro x1 e1
    obtain rfl := e1.trans p2
    intro x2 e2
    obtain rfl := e2.trans p1
    refine ⟨by omega, by omega, fun q4 => ?_, fun q4 => ?_⟩
    · exact ⟨by omega, h0 (fun h => h q4)⟩
    · exact ⟨by omega, h1 q4⟩
  · rw [if_neg (by omega), if_neg (by omega), if_pos q, decide_eq_true_eq] at h1 h0
    intro x1 e1
    obtain rfl := e1.trans p3
    intro x2 e2
    obtain rfl := e2.trans p2
    refine ⟨by omega, by omega, fun q4 => ?_, fun q4 => ?_⟩
    · exact ⟨by omega, h0 (fun h => h q4)⟩
    · exact ⟨by omega, h1 q4⟩
  · rw [if_neg (by omega), if_pos q, decide_eq_true_eq] at h1 h0
    intro x1 e1
    obtain rfl := e1.trans p4
    intro x2 e2
    obtain rfl := e2.trans p3
    refine ⟨by omega, by omega, fun q4 => ?_, fun q4 => ?_⟩
    · exact ⟨by omega, h0 (fun h => h q4)⟩
    · exact ⟨by omega, h1 q4⟩
  · rw [if_pos q, decide_eq_true_eq] at h1 h0
    intro x1 e1
    obtain rfl := e1.trans hc
    intro x2 e2
    obtain rfl := e2.trans p4
    refine ⟨by omega, by omega, fun q4 => ?_, fun q4 => ?_⟩
    · exact ⟨by omega, h0 (by omega)⟩
    · exact ⟨by omega, h1 (by omega)⟩
end T65
