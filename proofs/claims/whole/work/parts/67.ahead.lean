/-- so many rounds -/
def itX (g : Int → Int) (v W : Mem) : Nat → GS
  | 0 => (g, v, W)
  | n + 1 => doesX (itX g v W n).1 (itX g v W n).2.1 (itX g v W n).2.2
def ahA (X : GS) (g : Int → Int) (v : Mem) (w : Int) : Int := if w = 0 then sumI (fun s => cntV (X.2.1 s)) (X.1 7) else if w = 1 then sumI (fun s => X.2.1 s 32) (X.1 7) - sumI (fun s => v s 32) (g 7) else if w = 2 then sumI (fun s => X.2.1 s 33) (X.1 7) - sumI (fun s => v s 33) (g 7) else X.1 5
def utN (f : Nat → Int) (n : Int) : Nat → Nat → Int
  | 0, _ => -1
  | d + 1, k => if n ≤ f k then (k : Int) else utN f n d (k + 1)
section T67
variable {N : Int} {μ ν : Mem} {g u : Int → Int} {v W : Mem} {Q : PV → Mem → Prop} {w x s c R t n m h : Int}
theorem it_ok (hg : GOOD N g v) : ∀ n : Nat, N + n < 100000 → GOOD (N + n) (itX g v W n).1 (itX g v W n).2.1 ∧ (itX g v W n).1 7 = g 7 ∧ (itX g v W n).1 6 = g 6 + n
  | 0, _ => ⟨hg.le (by omega), rfl, by show g 6 = g 6 + ((0 : Nat) : Int); omega⟩
  | n + 1, hN => by
    obtain ⟨h1, h2, h3⟩ := it_ok hg n (by omega)
    obtain ⟨f1, f2, f3⟩ := does_BG (W := (itX g v W n).2.2) h1.1 (by have := h1.2.1; omega) h1.2.2
    refine ⟨(GOOD_does (W := (itX g v W n).2.2) (by omega) h1).le (by omega), ?_, ?_⟩
    · show (doesX _ _ _).1 7 = _
      rw [f2 7 (by omega) (by omega), h2]
    · show (doesX _ _ _).1 6 = _
      rw [f3, h3]; omega
theorem qX0_play (W : Mem) (hg : GOOD N g v) (hN : N < 100000) (hH : RelH μ h g v) (hq : ∀ μ', RelH μ' h (doesX g v W).1 (doesX g v W).2.1 → FrH μ μ' h → Q (9, 0) μ') : MetP mX0_playRound [(100, h)] μ Q := by
  obtain ⟨f1, f2, f3⟩ := does_BG (W := W) hg.1 (by have := hg.2.1; omega) hg.2.2
  refine qX0_playRound W hg.1 (by have := hg.2.1; omega) hg.2.2 hH.1 hH.2 (fun μ' k1 k2 k3 k4 => hq μ' ⟨k1, fun s p q => ?_⟩ k4)
  rw [f2 7 (by omega) (by omega)] at q
  rw [f3]
  exact k2 s p q
theorem FrH.tr {μ1 μ2 : Mem} (h1 : FrH μ μ1 h) (h2 : FrH μ1 μ2 h) : FrH μ μ2 h := fun a b hn => (h2 a b hn).trans (h1 a b hn)
theorem qX5_ahead (hn : I32 n) (hw : I32 w) (hg : GOOD N g v) (hN : N + 50 < 100000) (s4 : RwM ν 0 g v) (hO : ¬ ((1 ≤ n ∧ n ≤ 50) ∧ 0 ≤ w ∧ w ≤ 3) → Q (0, -1000002) ν) (hq : (1 ≤ n ∧ n ≤ 50) ∧ 0 ≤ w ∧ w ≤ 3 → ∀ y, y = ahA (itX g v ν n.toNat) g v w → Q (0, y) (wk ν 11 (itX g v ν n.toNat).1 (itX g v ν n.toNat).2.1 (itX g v ν n.toNat).2.2)) : MetP mX5_ahead [(105, 0), (0, n), (0, w)] ν Q := by
  have b7 := hg.1.2.2.2.2.2.2.2
  have e7 : ν 1 7 = g 7 := RwM_g s4 7 (by omega)
  unfold I32 at hw hn
  have J : (1 ≤ n ∧ n ≤ 50) ∧ 0 ≤ w ∧ w ≤ 3 → ∀ z, OkE mX5_ahead 63 [(105, 0), (0, n), (0, w), z] [] (wk ν 11 (itX g v ν n.toNat).1 (itX g v ν n.toNat).2.1 (itX g v ν n.toNat).2.2) Q := by
    intro ok z
    have hq := hq ok
    obtain ⟨g1, g2, g3⟩ := it_ok (W := ν) hg n.toNat (by omega)
    unfold ahA at hq
    generalize itX g v ν n.toNat = X at hq g1 g2 g3 ⊢
    have r0 : RwM (wk ν 11 X.1 X.2.1 X.2.2) 0 g v := RwM_eq s4 (fun i p q => by unfold wk; rw [if_neg (by omega), if_neg (by omega)])
    have T : ∀ k Q0, 0 ≤ k ∧ k < 98 → Q0 (0, sumI (fun s => v s k) (g 7)) (wk ν 11 X.1 X.2.1 X.2.2) → MetP mX5_allOf [(105, 0), (0, 0), (0, k)] (wk ν 11 X.1 X.2.1 X.2.2) Q0 := fun k Q0 hk h0 => by
      rw [RwM_wk r0]
      refine qX5_allOf (r := 0) (by omega) hk b7 ?_
      rw [← RwM_wk r0]
      exact h0
    refine OkE.go snX5_ahead [] 100 ?_
    refine ⟨by omega, ?_⟩
    refine And.intro (fun q => ?_) (fun n0 => And.intro (fun q => ?_) (fun n1 => And.intro (fun q => ?_) (fun n2 => ?_)))
    · refine qX5_allCounts (r := 11) (by omega) (by omega) ?_
      refine hq _ ?_
      rw [if_pos q]
    · refine qX5_allOf (r := 11) (by omega) (by omega) (by omega) ?_
      refine T 32 _ (by omega) ?_
      refine hq _ ?_
      rw [if_neg (by omega), if_pos (by omega)]
    · refine qX5_allOf (r := 11) (by omega) (by omega) (by omega) ?_
      refine T 33 _ (by omega) ?_
      refine hq _ ?_
      rw [if_neg (by omega), if_neg (by omega), if_pos (by omega)]
    · refine qX5_of 5 (by omega) (by omega) ?_
      refine hq _ ?_
      rw [if_neg (by omega), if_neg (by omega), if_neg (by omega)]
  have L : (1 ≤ n ∧ n ≤ 50) ∧ 0 ≤ w ∧ w ≤ 3 → ∀ (d k : Nat) (i : Int), i = (k : Int) → (k : Int) + d = n → OkE mX5_ahead 46 [(105, 0), (0, n), (0, w), (0, i)] [] (wk ν 11 (itX g v ν k).1 (itX g v ν k).2.1 (itX g v ν k).2.2) Q := by
    intro ok d
    induction d with
    | zero =>
      intro k i hi hk
      refine OkE.go snX5_ahead [46, 63] 100 ?_
      refine ⟨by omega, by omega, fun _ => ?_, fun q => absurd q (by omega)⟩
      have j1 := J ok (0, i)
      rw [show n.toNat = k by omega] at j1
      exact j1
    | succ d ih =>
      intro k i hi hk
      obtain ⟨g1, g2, g3⟩ := it_ok (W := ν) hg k (by omega)
      refine OkE.go snX5_ahead [46, 63] 100 ?_
      refine ⟨by omega, by omega, fun q => absurd q (by omega), fun _ => ?_⟩
      refine qX5_does (r := 11) (by omega) g1.1 g1.2.2 ?_
      exact ih (k + 1) (i + 1) (by omega) (by omega)
  refine MetP.go snX5_ahead [46] 100 rfl rfl rfl rfl (fun _ => ?_)
  refine qX5_isHouse (fun q => absurd q (by omega)) (fun _ => ?_) (by omega)
  refine ⟨by omega, fun _ => ?_, fun q => absurd q (by omega)⟩
  refine ⟨by omega, ?_⟩
  refine qX5_in (by omega) (by omega) (by omega) (fun q1 => ?_) (fun q => ?_)
  · refine ⟨by omega, fun q => absurd q (by omega), fun _ => ?_⟩
    refine ⟨by omega, ?_⟩
    refine qX5_in (by omega) (by omega) (by omega) (fun q2 => ?_) (fun q => ?_)
    · refine ⟨by omega, fun _ => ?_, fun q => absurd q (by omega)⟩
      refine qX5_copies (by omega) (by omega) (by omega) ?_
      rw [RwM_cp s4]
      exact L ⟨q1, q2⟩ n.toNat 0 0 (by omega) (by omega)
    · refine ⟨by omega, fun q => absurd rfl q, fun _ => ?_⟩
      exact hO (fun h => q h.2)
  · refine ⟨by omega, fun _ => ?_, fun q => absurd rfl q⟩
    exact hO (fun h => q h.1)
theorem qX4_ahead (W : Mem) (hn : I32 n) (hw : I32 w) (hg : GOOD N g v) (hN : N + 50 < 100000) (s1 : μ 0 6 = 1) (s6 : RelH μ 3 g v) (hO : ¬ ((1 ≤ n ∧ n ≤ 50) ∧ 0 ≤ w ∧ w ≤ 3) → Q (0, -1000002) μ) (hq : (1 ≤ n ∧ n ≤ 50) ∧ 0 ≤ w ∧ w ≤ 3 → ∀ y μ', y = ahA (itX g v W n.toNat) g v w → FrH μ μ' 54 → Q (0, y) μ') : MetP mX4_ahead [(104, 0), (0, n), (0, w)] μ Q := by
  have b7 := hg.1.2.2.2.2.2.2.2
  have b6 := hg.1.2.2.2.2.2.2.1
  unfold I32 at hw hn
  have J : (1 ≤ n ∧ n ≤ 50) ∧ 0 ≤ w ∧ w ≤ 3 → ∀ z μ', RelH μ' 54 (itX g v W n.toNat).1 (itX g v W n.toNat).2.1 → FrH μ μ' 54 → OkE mX4_ahead 64 [(104, 0), (0, n), (0, w), z] [] μ' Q := by
    intro ok z μ' hH hF
    have hq := hq ok
    obtain ⟨g1, g2, g3⟩ := it_ok (W := W) hg n.toNat (by omega)
    unfold ahA at hq
    generalize itX g v W n.toNat = X at hq g1 g2 g3 hH ⊢
    have h3 : RelH μ' 3 g v := s6.frame b7.2 hg.2.2 (fun a b p q => hF a b (by omega))
    refine OkE.go snX4_ahead [] 100 ?_
    refine ⟨by omega, ?_⟩
    refine And.intro (fun q => ?_) (fun n0 => And.intro (fun q => ?_) (fun n1 => And.intro (fun q => ?_) (fun n2 => ?_)))
    · refine qX0_servers (f := fun s => cntV (X.2.1 s)) (n := X.1 7) (by omega) hH.1.2.1 (fun s p q => (hH.2 s p q).2.1.2.1) ?_
      refine hq _ μ' ?_ hF
      rw [if_pos q]
    · refine qX0_spentByAll (f := fun s => X.2.1 s 32) (n := X.1 7) (by omega) hH.1.2.1 (fun s p q => (hH.2 s p q).2.2.2.2.2.2.2.2.1.1) ?_
      refine qX0_spentByAll (f := fun s => v s 32) (n := g 7) (by omega) h3.1.2.1 (fun s p q => (h3.2 s p q).2.2.2.2.2.2.2.2.1.1) ?_
      refine hq _ μ' ?_ hF
      rw [if_neg (by omega), if_pos (by omega)]
    · refine qX0_lackOfAll (f := fun s => X.2.1 s 33) (n := X.1 7) (by omega) hH.1.2.1 (fun s p q => (hH.2 s p q).2.2.2.2.2.2.2.2.1.2.1) ?_
      refine qX0_lackOfAll (f := fun s => v s 33) (n := g 7) (by omega) h3.1.2.1 (fun s p q => (h3.2 s p q).2.2.2.2.2.2.2.2.1.2.1) ?_
      refine hq _ μ' ?_ hF
      rw [if_neg (by omega), if_neg (by omega), if_pos (by omega)]
    · intro x1 e1
      refine hq x1 μ' ?_ hF
      rw [if_neg (by omega), if_neg (by omega), if_neg (by omega)]
      exact e1.trans hH.1.2.2.1
  have L : (1 ≤ n ∧ n ≤ 50) ∧ 0 ≤ w ∧ w ≤ 3 → ∀ (d k : Nat) (i : Int) (μ' : Mem), i = (k : Int) → (k : Int) + d = n → RelH μ' 54 (itX g v W k).1 (itX g v W k).2.1 → FrH μ μ' 54 → OkE mX4_ahead 46 [(104, 0), (0, n), (0, w), (0, i)] [] μ' Q := by
    intro ok d
    induction d with
    | zero =>
      intro k i μ' hi hk hH hF
      refine OkE.go snX4_ahead [46, 64] 100 ?_
      refine ⟨by omega, by omega, fun _ => ?_, fun q => absurd q (by omega)⟩
      exact J ok (0, i) μ' (by rw [show n.toNat = k by omega]; exact hH) hF
    | succ d ih =>
      intro k i μ' hi hk hH hF
      obtain ⟨g1, g2, g3⟩ := it_ok (W := W) hg k (by omega)
      refine OkE.go snX4_ahead [46, 64] 100 ?_
      refine ⟨by omega, by omega, fun q => absurd q (by omega), fun _ => ?_⟩
      refine qX0_play (itX g v W k).2.2 g1 (by omega) hH (fun μ2 h2 f2 => ?_)
      exact ih (k + 1) (i + 1) μ2 (by omega) (by omega) h2 (hF.tr f2)
  refine MetP.go snX4_ahead [46] 100 rfl rfl rfl rfl (fun _ => ?_)
  intro x1 e1
  obtain rfl : x1 = 1 := e1.trans s1
  refine ⟨by omega, fun _ => ?_, fun q => absurd q (by omega)⟩
  refine ⟨by omega, by omega, fun q => ?_, fun q3 => ?_⟩
  · exact hO (by omega)
  refine ⟨by omega, by omega, fun q => ?_, fun q4 => ?_⟩
  · exact hO (by omega)
  refine ⟨by omega, fun q => ?_, fun q5 => ?_⟩
  · exact hO (by omega)
  refine ⟨by omega, by omega, fun q6 => ?_, fun q => ?_⟩
  · refine qX0_copyFrom (g := g) (v := v) (by omega) (by omega) (by omega) hg.2.2 s6 (fun μ1 r1 f1 => ?_)
    exact L (by omega) n.toNat 0 0 μ1 (by omega) (by omega) r1 f1
  · exact hO (by omega)
theorem ag_ahead (hN : 0 ≤ N ∧ N + 50 < 100000) (hn : I32 n) (hw : I32 w) (h : REL N μ ν) : MetP mX5_ahead [(105, 0), (0, n), (0, w)] ν (fun b ν' => MetP mX4_ahead [(104, 0), (0, n), (0, w)] μ (fun a μ' => a = b ∧ REL N μ' ν')) := by
  obtain ⟨hT, hn4, hst⟩ := id h
  rcases hst with ⟨s1, s2⟩ | ⟨s1, t, g, v, ht, s2, s3, s4, s5, s6, s7⟩
  · refine MetP.go snX5_ahead [] 100 rfl rfl rfl rfl (fun _ => ?_)
    refine qX5_isHouse (fun _ => ?_) (fun q => absurd q (by omega)) (by omega)
    refine ⟨by omega, fun q => absurd rfl q, fun q => ?_⟩
    refine MetP.go snX4_ahead [] 100 rfl rfl rfl rfl (fun _ => ?_)
    intro x1 e1
    obtain rfl : x1 = 0 := e1.trans s1
    refine ⟨by omega, fun q => absurd rfl q, fun q => ?_⟩
    exact ⟨rfl, h⟩
  · refine qX5_ahead hn hw s5 (by omega) s4 (fun no => ?_) (fun ok y hy => ?_)
    · exact qX4_ahead ν hn hw s5 (by omega) s1 s6 (fun _ => ⟨rfl, h⟩) (fun ok => absurd ok no)
    · refine qX4_ahead ν hn hw s5 (by omega) s1 s6 (fun no => absurd ok no) (fun _ z μ' hz hf => ?_)
      obtain rfl : z = y := hz.trans hy.symm
      exact ⟨rfl, h.wk11 (fun a b hn => hf a b (by omega))⟩
theorem qX5_until (hss : 0 ≤ s ∧ s < g 7) (hn : I32 n) (hg : GOOD N g v) (hN : N + 50 < 100000) (s4 : RwM ν 0 g v) (hO : ¬ (1 ≤ n ∧ n ≤ 20) → Q (0, -1000002) ν) (hq : 1 ≤ n ∧ n ≤ 20 → ∀ j, Q (0, utN (fun k => (itX g v ν k).2.1 s 10 + (itX g v ν k).2.1 s 11) n 50 1) (wk ν 11 (itX g v ν j).1 (itX g v ν j).2.1 (itX g v ν j).2.2)) : MetP mX5_until [(105, 0), (0, s), (0, n)] ν Q := by
  have b7 := hg.1.2.2.2.2.2.2.2
  have e7 : ν 1 7 = g 7 := RwM_g s4 7 (by omega)
  unfold I32 at hn
  have L : 1 ≤ n ∧ n ≤ 20 → ∀ (d k : Nat) (i : Int), i = (k : Int) + 1 → k + d = 50 → utN (fun k => (itX g v ν k).2.1 s 10 + (itX g v ν k).2.1 s 11) n 50 1 = utN (fun k => (itX g v ν k).2.1 s 10 + (itX g v ν k).2.1 s 11) n d (k + 1) → OkE mX5_until 35 [(105, 0), (0, s), (0, n), (0, i)] [] (wk ν 11 (itX g v ν k).1 (itX g v ν k).2.1 (itX g v ν k).2.2) Q := by
    intro ok
    have hq := hq ok
    generalize utN (fun k => (itX g v ν k).2.1 s 10 + (itX g v ν k).2.1 s 11) n 50 1 = F at hq ⊢
    intro d
    induction d with
    | zero =>
      intro k i hi hk hF
      refine OkE.go snX5_until [35] 100 ?_
      refine ⟨by omega, by omega, fun _ => ?_, fun q => absurd q (by omega)⟩
      have := hq k
      rw [hF] at this
      exact this
    | succ d ih =>
      intro k i hi hk hF
      obtain ⟨g1, g2, g3⟩ := it_ok (W := ν) hg k (by omega)
      obtain ⟨j1, j2, j3⟩ := it_ok (W := ν) hg (k + 1) (by omega)
      have hB := j1.2.2 s hss.1 (by omega)
      have c1 := cntV_bd hB
      have c2 := BV_st17 hB 11 (by omega) (by omega)
      have en : F = if n ≤ (itX g v ν (k + 1)).2.1 s 10 + (itX g v ν (k + 1)).2.1 s 11 then ((k + 1 : Nat) : Int) else utN (fun k => (itX g v ν k).2.1 s 10 + (itX g v ν k).2.1 s 11) n d (k + 1 + 1) := hF
      refine OkE.go snX5_until [35] 100 ?_
      refine ⟨by omega, by omega, fun q => absurd q (by omega), fun _ => ?_⟩
      refine qX5_does (r := 11) (by omega) g1.1 g1.2.2 ?_
      have i1 := ih (k + 1) (i + 1) (by omega) (by omega)
      have hq1 := hq (k + 1)
      refine qX5_at ?_
      refine ⟨by omega, fun x1 e1 => ?_⟩
      obtain rfl : x1 = (itX g v ν (k + 1)).2.1 s 10 := e1.trans (rd_v s 10 rfl (by omega) (by omega))
      refine qX5_at ?_
      refine ⟨by omega, fun x1 e1 => ?_⟩
      obtain rfl : x1 = (itX g v ν (k + 1)).2.1 s 11 := e1.trans (rd_v s 11 rfl (by omega) (by omega))
      refine ⟨by omega, by omega, fun q => ?_, fun q => ?_⟩
      · rw [if_neg (by omega)] at en
        exact i1 en
      · rw [if_pos (by omega), show ((k + 1 : Nat) : Int) = i by omega] at en
        rw [en] at hq1
        exact hq1
  refine MetP.go snX5_until [35] 100 rfl rfl rfl rfl (fun _ => ?_)
  refine qX5_isService (by unfold I32; omega) (by omega) (fun q => ?_) (fun q => absurd q (by omega))
  refine ⟨by omega, fun _ => ?_, fun q => absurd q (by omega)⟩
  refine ⟨by omega, ?_⟩
  refine qX5_in (by omega) (by omega) (by omega) (fun q1 => ?_) (fun q => ?_)
  · refine ⟨by omega, fun _ => ?_, fun q => absurd q (by omega)⟩
    refine qX5_copies (by omega) (by omega) (by omega) ?_
    rw [RwM_cp s4]
    exact L q1 50 0 1 (by omega) (by omega) rfl
  · refine ⟨by omega, fun q => absurd rfl q, fun _ => ?_⟩
    exact hO q
theorem qX4_until (W : Mem) (hss : 0 ≤ s ∧ s < g 7) (hn : I32 n) (hg : GOOD N g v) (hN : N + 50 < 100000) (s1 : μ 0 6 = 1) (s6 : RelH μ 3 g v) (hO : ¬ (1 ≤ n ∧ n ≤ 20) → Q (0, -1000002) μ) (hq : 1 ≤ n ∧ n ≤ 20 → ∀ μ', FrH μ μ' 54 → Q (0, utN (fun k => (itX g v W k).2.1 s 10 + (itX g v W k).2.1 s 11) n 50 1) μ') : MetP mX4_until [(104, 0), (0, s), (0, n)] μ Q := by
  have b7 := hg.1.2.2.2.2.2.2.2
  have b6 := hg.1.2.2.2.2.2.2.1
  have d7 : μ 3 2 = g 7 := s6.1.2.1
  unfold I32 at hn
  have L : 1 ≤ n ∧ n ≤ 20 → ∀ (d k : Nat) (i : Int) (μ' : Mem), i = (k : Int) + 1 → k + d = 50 → RelH μ' 54 (itX g v W k).1 (itX g v W k).2.1 → FrH μ μ' 54 → utN (fun k => (itX g v W k).2.1 s 10 + (itX g v W k).2.1 s 11) n 50 1 = utN (fun k => (itX g v W k).2.1 s 10 + (itX g v W k).2.1 s 11) n d (k + 1) → OkE mX4_until 52 [(104, 0), (0, s), (0, n), (102, 54 + 2 + 1 + 12 * s), (0, i)] [] μ' Q := by
    intro ok
    have hq := hq ok
    generalize utN (fun k => (itX g v W k).2.1 s 10 + (itX g v W k).2.1 s 11) n 50 1 = F at hq ⊢
    intro d
    induction d with
    | zero =>
      intro k i μ' hi hk hH hFr hF
      refine OkE.go snX4_until [52] 100 ?_
      refine ⟨by omega, by omega, fun _ => ?_, fun q => absurd q (by omega)⟩
      have := hq μ' hFr
      rw [hF] at this
      exact this
    | succ d ih =>
      intro k i μ' hi hk hH hFr hF
      obtain ⟨g1, g2, g3⟩ := it_ok (W := W) hg k (by omega)
      obtain ⟨j1, j2, j3⟩ := it_ok (W := W) hg (k + 1) (by omega)
      have hB := j1.2.2 s hss.1 (by omega)
      have c1 := cntV_bd hB
      have c2 := BV_st17 hB 11 (by omega) (by omega)
      have en : F = if n ≤ (itX g v W (k + 1)).2.1 s 10 + (itX g v W (k + 1)).2.1 s 11 then ((k + 1 : Nat) : Int) else utN (fun k => (itX g v W k).2.1 s 10 + (itX g v W k).2.1 s 11) n d (k + 1 + 1) := hF
      refine OkE.go snX4_until [52] 100 ?_
      refine ⟨by omega, by omega, fun q => absurd q (by omega), fun _ => ?_⟩
      refine qX0_play (itX g v W k).2.2 g1 (by omega) hH (fun μ2 h2 f2 => ?_)
      have h2' : RelH μ2 54 (itX g v W (k + 1)).1 (itX g v W (k + 1)).2.1 := h2
      intro x1 e1
      obtain rfl : x1 = (itX g v W (k + 1)).1 6 := e1.trans h2'.1.2.2.2
      refine qX2_readyIn (u := (itX g v W (k + 1)).2.1 s) j1.1.2.2.2.2.2.2.1 (h2'.2 s hss.1 (by omega)) ?_
      refine ⟨by omega, by omega, fun q => ?_, fun q => ?_⟩
      · rw [if_neg (by omega)] at en
        exact ih (k + 1) (i + 1) μ2 (by omega) (by omega) h2' (hFr.tr f2) en
      · rw [if_pos (by omega), show ((k + 1 : Nat) : Int) = i by omega] at en
        have hq1 := hq μ2 (hFr.tr f2)
        rw [en] at hq1
        exact hq1
  refine MetP.go snX4_until [52] 100 rfl rfl rfl rfl (fun _ => ?_)
  refine qX4_hasService (by unfold I32; omega) (Or.inr ⟨s1, by omega⟩) (fun _ q => ?_) (fun q => absurd ⟨s1, by omega⟩ q)
  refine ⟨by omega, fun _ => ?_, fun q => absurd q (by omega)⟩
  refine ⟨by omega, by omega, fun q => ?_, fun q3 => ?_⟩
  · exact hO (by omega)
  refine ⟨rfl, by omega, fun x3 e3 => ?_⟩
  obtain rfl : x3 = 20 := e3
  refine ⟨by omega, by omega, fun q6 => ?_, fun q => ?_⟩
  · refine qX0_copyFrom (g := g) (v := v) (by omega) (by omega) (by omega) hg.2.2 s6 (fun μ1 r1 f1 => ?_)
    refine ⟨by omega, ?_⟩
    exact L (by omega) 50 0 1 μ1 (by omega) (by omega) r1 f1 rfl
  · exact hO (by omega)
theorem ag_until (hN : 0 ≤ N ∧ N + 50 < 100000) (hs : I32 s) (hn0 : I32 n) (h : REL N μ ν) : MetP mX5_until [(105, 0), (0, s), (0, n)] ν (fun b ν' => MetP mX4_until [(104, 0), (0, s), (0, n)] μ (fun a μ' => a = b ∧ REL N μ' ν')) := by
  obtain ⟨hT, hn, hst⟩ := id h
  rcases hst with ⟨s1, s2⟩ | ⟨s1, t, g, v, ht, s2, s3, s4, s5, s6, s7⟩
  · refine MetP.go snX5_until [] 100 rfl rfl rfl rfl (fun _ => ?_)
    refine qX5_isService hs (by omega) (fun q => absurd q (by omega)) (fun q => ?_)
    refine ⟨by omega, fun q => absurd rfl q, fun q => ?_⟩
    refine MetP.go snX4_until [] 100 rfl rfl rfl rfl (fun _ => ?_)
    refine qX4_hasService hs (Or.inl s1) (fun q => absurd q (by omega)) (fun q => ?_)
    refine ⟨by omega, fun q => absurd rfl q, fun q => ?_⟩
    exact ⟨rfl, h⟩
  · obtain ⟨bG, b6, bV⟩ := id s5
    have b7 := bG.2.2.2.2.2.2.2
    have e7 : ν 1 7 = g 7 := RwM_g s4 7 (by omega)
    have d7 : μ 3 2 = g 7 := s6.1.2.1
    by_cases hss : 0 ≤ s ∧ s < g 7
    · refine qX5_until hss hn0 s5 (by omega) s4 (fun no => ?_) (fun ok j => ?_)
      · exact qX4_until ν hss hn0 s5 (by omega) s1 s6 (fun _ => ⟨rfl, h⟩) (fun ok => absurd ok no)
      · refine qX4_until ν hss hn0 s5 (by omega) s1 s6 (fun no => absurd ok no) (fun _ μ' hf => ?_)
        exact ⟨rfl, h.wk11 (fun a b hn => hf a b (by omega))⟩
    · refine MetP.go snX5_until [] 100 rfl rfl rfl rfl (fun _ => ?_)
      refine qX5_isService hs (by omega) (fun q => absurd q (by omega)) (fun q => ?_)
      refine ⟨by omega, fun q => absurd rfl q, fun q => ?_⟩
      refine MetP.go snX4_until [] 100 rfl rfl rfl rfl (fun _ => ?_)
      refine qX4_hasService hs (Or.inr ⟨s1, by omega⟩) (fun _ q => absurd q (by omega)) (fun q => ?_)
      refine ⟨by omega, fun q => absurd rfl q, fun q => ?_⟩
      exact ⟨rfl, h⟩
end T67
