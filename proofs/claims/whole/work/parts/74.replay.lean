/-- the k-th replay of best, from the memory behind those before -/
def bmN (g u : Int → Int) (ν : Mem) : Nat → Mem
  | 0 => ν
  | k + 1 => wk (bmN g u ν k) 11 (rpX g u (1 + (k : Int) / 6) (1 + (k : Int) % 6) (min (g 6) 18) (bmN g u ν k) (min (g 6) 18).toNat).1 (rpX g u (1 + (k : Int) / 6) (1 + (k : Int) % 6) (min (g 6) 18) (bmN g u ν k) (min (g 6) 18).toNat).2.1 (rpX g u (1 + (k : Int) / 6) (1 + (k : Int) % 6) (min (g 6) 18) (bmN g u ν k) (min (g 6) 18).toNat).2.2
def bxN (g u : Int → Int) (ν : Mem) (k : Nat) : GS := rpX g u (1 + (k : Int) / 6) (1 + (k : Int) % 6) (min (g 6) 18) (bmN g u ν k) (min (g 6) 18).toNat
def bcN (g u : Int → Int) (ν : Mem) (k : Nat) : Int := (bxN g u ν k).2.1 0 32 + 5 * (bxN g u ν k).2.1 0 33 + 3 * (bxN g u ν k).2.1 0 34
def bsF (cs : Nat → Int) : Nat → Int × Int
  | 0 => (-1, 0)
  | k + 1 => if (bsF cs k).1 = -1 ∨ cs k < (bsF cs k).2 then (10 * (1 + (k : Int) / 6) + 1 + (k : Int) % 6, cs k) else bsF cs k
section T74
variable {N : Int} {μ ν : Mem} {g u : Int → Int} {v W : Mem} {Q : PV → Mem → Prop} {w x s c R t n m h a b : Int}
theorem bm_keep : ∀ k : Nat, (∀ i, i < 4400 → bmN g u ν k 1 i = ν 1 i) ∧ ∀ c i, c ≤ 0 ∨ 10 ≤ c → bmN g u ν k c i = ν c i
  | 0 => ⟨fun _ _ => rfl, fun _ _ _ => rfl⟩
  | k + 1 => by
    obtain ⟨h1, h2⟩ := bm_keep k
    refine ⟨fun i hi => ?_, fun c i hc => ?_⟩
    · refine Eq.trans ?_ (h1 i hi)
      show wk (bmN g u ν k) 11 _ _ _ 1 i = _
      unfold wk
      rw [if_neg (by omega), if_neg (by omega)]
    · refine Eq.trans ?_ (h2 c i hc)
      exact rd_o hc
theorem bc_bd (hG : BG g) (hB : BV u) (k : Nat) (hk : k < 36) : 0 ≤ bcN g u ν k ∧ bcN g u ν k ≤ 30000000 ∧ (0 ≤ (bxN g u ν k).2.1 0 32 ∧ (bxN g u ν k).2.1 0 32 ≤ 360) ∧ (0 ≤ (bxN g u ν k).2.1 0 33 ∧ (bxN g u ν k).2.1 0 33 ≤ 5400000) ∧ (0 ≤ (bxN g u ν k).2.1 0 34 ∧ (bxN g u ν k).2.1 0 34 ≤ 18) := by
  have b6 := hG.2.2.2.2.2.2.1
  obtain ⟨-, -, -, -, -, k6, k7, k8⟩ := rp_ok (a := 1 + (k : Int) / 6) (b := 1 + (k : Int) % 6) (W := bmN g u ν k) hG hB (by omega) (by omega) (P := min (g 6) 18) (by omega) (min (g 6) 18).toNat (by omega)
  unfold bcN bxN
  omega
theorem bs_bd {cs : Nat → Int} (hc : ∀ k, k < 36 → 0 ≤ cs k ∧ cs k ≤ 30000000) : ∀ k : Nat, k ≤ 36 → (-1 ≤ (bsF cs k).1 ∧ (bsF cs k).1 ≤ 1000) ∧ (0 ≤ (bsF cs k).2 ∧ (bsF cs k).2 ≤ 30000000)
  | 0, _ => by show (-1 ≤ (-1 : Int) ∧ (-1 : Int) ≤ 1000) ∧ (0 ≤ (0 : Int) ∧ (0 : Int) ≤ 30000000); omega
  | k + 1, hk => by
    have h1 := bs_bd hc k (by omega)
    have h2 := hc k (by omega)
    unfold bsF
    split
    · refine ⟨?_, h2⟩
      show -1 ≤ 10 * (1 + (k : Int) / 6) + 1 + (k : Int) % 6 ∧ 10 * (1 + (k : Int) / 6) + 1 + (k : Int) % 6 ≤ 1000
      omega
    · exact h1
theorem bs_yes {cs : Nat → Int} {k : Nat} (h : (bsF cs k).1 = -1 ∨ cs k < (bsF cs k).2) : bsF cs (k + 1) = (10 * (1 + (k : Int) / 6) + 1 + (k : Int) % 6, cs k) := by
  show (if (bsF cs k).1 = -1 ∨ cs k < (bsF cs k).2 then _ else _) = _
  rw [if_pos h]
theorem bs_no {cs : Nat → Int} {k : Nat} (h : ¬ ((bsF cs k).1 = -1 ∨ cs k < (bsF cs k).2)) : bsF cs (k + 1) = bsF cs k := by
  show (if (bsF cs k).1 = -1 ∨ cs k < (bsF cs k).2 then _ else _) = _
  rw [if_neg h]
theorem qX5_replay (hss : 0 ≤ s ∧ s < g 7) (ha : I32 a) (hb : I32 b) (hw : I32 w) (bG : BG g) (hB : BV (v s)) (s4 : RwM ν 0 g v) (hO : ¬ ((1 ≤ a ∧ a ≤ 6) ∧ (1 ≤ b ∧ b ≤ 6) ∧ (0 ≤ w ∧ w ≤ 2)) → Q (0, -1000002) ν) (hq : ((1 ≤ a ∧ a ≤ 6) ∧ (1 ≤ b ∧ b ≤ 6) ∧ (0 ≤ w ∧ w ≤ 2)) → ∀ X y, X = rpX g (v s) a b (min (g 6) 18) ν (min (g 6) 18).toNat → y = X.2.1 0 (32 + w) → Q (0, y) (wk ν 11 X.1 X.2.1 X.2.2)) : MetP mX5_replay [(105, 0), (0, s), (0, a), (0, b), (0, w)] ν Q := by
  have b7 := bG.2.2.2.2.2.2.2
  have e7 : ν 1 7 = g 7 := RwM_g s4 7 (by omega)
  unfold I32 at ha hb hw
  refine MetP.go snX5_replay [] 100 rfl rfl rfl rfl (fun _ => ?_)
  refine qX5_isService (by unfold I32; omega) (by omega) (fun q => ?_) (fun q => absurd q (by omega))
  refine ⟨by omega, fun _ => ?_, fun q => absurd q (by omega)⟩
  refine ⟨by omega, ?_⟩
  refine qX5_in (by omega) (by omega) (by omega) (fun q1 => ?_) (fun q => ?_)
  · refine ⟨by omega, fun q => absurd q (by omega), fun _ => ?_⟩
    refine ⟨by omega, ?_⟩
    refine qX5_in (by omega) (by omega) (by omega) (fun q2 => ?_) (fun q => ?_)
    · refine ⟨by omega, fun q => absurd q (by omega), fun _ => ?_⟩
      refine ⟨by omega, ?_⟩
      refine qX5_in (by omega) (by omega) (by omega) (fun q3 => ?_) (fun q => ?_)
      · refine ⟨by omega, fun _ => ?_, fun q => absurd q (by omega)⟩
        refine qX5_replays hss q1 q2 bG hB s4 (fun X hX => ?_)
        refine qX5_at ?_
        refine ⟨by omega, fun x1 e1 => ?_⟩
        refine hq ⟨q1, q2, q3⟩ X x1 hX ?_
        exact e1.trans (rd_v 0 (32 + w) rfl (by omega) (by omega))
      · refine ⟨by omega, fun q => absurd rfl q, fun _ => ?_⟩
        exact hO (fun h => q h.2.2)
    · refine ⟨by omega, fun _ => ?_, fun q => absurd rfl q⟩
      exact hO (fun h => q h.2.1)
  · refine ⟨by omega, fun _ => ?_, fun q => absurd rfl q⟩
    exact hO (fun h => q h.1)
theorem qX4_replay (W : Mem) (hss : 0 ≤ s ∧ s < g 7) (ha : I32 a) (hb : I32 b) (hw : I32 w) (bG : BG g) (bV : ∀ s, 0 ≤ s → s < g 7 → BV (v s)) (s1 : μ 0 6 = 1) (s6 : RelH μ 3 g v) (hO : ¬ ((1 ≤ a ∧ a ≤ 6) ∧ (1 ≤ b ∧ b ≤ 6) ∧ (0 ≤ w ∧ w ≤ 2)) → Q (0, -1000002) μ) (hq : ((1 ≤ a ∧ a ≤ 6) ∧ (1 ≤ b ∧ b ≤ 6) ∧ (0 ≤ w ∧ w ≤ 2)) → ∀ X y μ', X = rpX g (v s) a b (min (g 6) 18) W (min (g 6) 18).toNat → y = X.2.1 0 (32 + w) → FrH μ μ' 54 → Q (0, y) μ') : MetP mX4_replay [(104, 0), (0, s), (0, a), (0, b), (0, w)] μ Q := by
  have b7 := bG.2.2.2.2.2.2.2
  have d7 : μ 3 2 = g 7 := s6.1.2.1
  unfold I32 at ha hb hw
  refine MetP.go snX4_replay [] 100 rfl rfl rfl rfl (fun _ => ?_)
  refine qX4_hasService (by unfold I32; omega) (Or.inr ⟨s1, by omega⟩) (fun _ q => ?_) (fun q => absurd ⟨s1, by omega⟩ q)
  refine ⟨by omega, fun _ => ?_, fun q => absurd q (by omega)⟩
  refine ⟨by omega, by omega, fun q => hO (by omega), fun q1 => ?_⟩
  refine ⟨by omega, by omega, fun q => hO (by omega), fun q2 => ?_⟩
  refine ⟨by omega, by omega, fun q => hO (by omega), fun q3 => ?_⟩
  refine ⟨by omega, by omega, fun q => hO (by omega), fun q4 => ?_⟩
  refine ⟨by omega, fun q => hO (by omega), fun q5 => ?_⟩
  refine ⟨by omega, by omega, fun q6 => ?_, fun q => hO (by omega)⟩
  refine qX4_replayed W hss (by omega) (by omega) bG bV s6 (fun X μ' hX h9 h10 h11 hF => ?_)
  have hq := hq (by omega) X
  refine ⟨by omega, ?_⟩
  refine And.intro (fun q => ?_) (fun n0 => And.intro (fun q => ?_) (fun n1 => ?_))
  · intro x1 e1
    refine hq x1 μ' hX ?_ hF
    rw [q]; exact e1.trans h9
  · intro x1 e1
    refine hq x1 μ' hX ?_ hF
    rw [q]; exact e1.trans h10
  · intro x1 e1
    refine hq x1 μ' hX ?_ hF
    rw [show w = 2 by omega]; exact e1.trans h11
theorem ag_replay (hs : I32 s) (ha : I32 a) (hb : I32 b) (hw : I32 w) (h : REL N μ ν) : MetP mX5_replay [(105, 0), (0, s), (0, a), (0, b), (0, w)] ν (fun zb ν' => MetP mX4_replay [(104, 0), (0, s), (0, a), (0, b), (0, w)] μ (fun za μ' => za = zb ∧ REL N μ' ν')) := by
  obtain ⟨hT, hn, hst⟩ := id h
  rcases hst with ⟨s1, s2⟩ | ⟨s1, t, g, v, ht, s2, s3, s4, s5, s6, s7⟩
  · refine MetP.go snX5_replay [] 100 rfl rfl rfl rfl (fun _ => ?_)
    refine qX5_isService hs (by omega) (fun q => absurd q (by omega)) (fun q => ?_)
    refine ⟨by omega, fun q => absurd rfl q, fun q => ?_⟩
    refine MetP.go snX4_replay [] 100 rfl rfl rfl rfl (fun _ => ?_)
    refine qX4_hasService hs (Or.inl s1) (fun q => absurd q (by omega)) (fun q => ?_)
    refine ⟨by omega, fun q => absurd rfl q, fun q => ?_⟩
    exact ⟨rfl, h⟩
  · obtain ⟨bG, b6, bV⟩ := id s5
    have b7 := bG.2.2.2.2.2.2.2
    have e7 : ν 1 7 = g 7 := RwM_g s4 7 (by omega)
    have d7 : μ 3 2 = g 7 := s6.1.2.1
    by_cases hss : 0 ≤ s ∧ s < g 7
    · refine qX5_replay hss ha hb hw bG (bV s hss.1 hss.2) s4 (fun no => ?_) (fun ok X y hX hy => ?_)
      · exact qX4_replay ν hss ha hb hw bG bV s1 s6 (fun _ => ⟨rfl, h⟩) (fun ok => absurd ok no)
      · refine qX4_replay ν hss ha hb hw bG bV s1 s6 (fun no => absurd ok no) (fun _ X' z μ' hX' hz hf => ?_)
        obtain rfl : X' = X := hX'.trans hX.symm
        obtain rfl : z = y := hz.trans hy.symm
        exact ⟨rfl, h.wk11 (fun a b hn => hf a b (by omega))⟩
    · refine MetP.go snX5_replay [] 100 rfl rfl rfl rfl (fun _ => ?_)
      refine qX5_isService hs (by omega) (fun q => absurd q (by omega)) (fun q => ?_)
      refine ⟨by omega, fun q => absurd rfl q, fun q => ?_⟩
      refine MetP.go snX4_replay [] 100 rfl rfl rfl rfl (fun _ => ?_)
      refine qX4_hasService hs (Or.inr ⟨s1, by omega⟩) (fun _ q => absurd q (by omega)) (fun q => ?_)
      refine ⟨by omega, fun q => absurd rfl q, fun q => ?_⟩
      exact ⟨rfl, h⟩
theorem qX5_best (hss : 0 ≤ s ∧ s < g 7) (bG : BG g) (hB : BV (v s)) (s4 : RwM ν 0 g v) (hq : Q (0, (bsF (bcN g (v s) ν) 36).1) (bmN g (v s) ν 36)) : MetP mX5_best [(105, 0), (0, s)] ν Q := by
  have b7 := bG.2.2.2.2.2.2.2
  have e7 : ν 1 7 = g 7 := RwM_g s4 7 (by omega)
  have L : ∀ (d k : Nat) (i : Int) (z : PV), i = (k : Int) → k + d = 36 → OkE mX5_best 18 [(105, 0), (0, s), (0, (bsF (bcN g (v s) ν) k).2), (0, (bsF (bcN g (v s) ν) k).1), (0, i), z] [] (bmN g (v s) ν k) Q := by
    intro d
    induction d with
    | zero =>
      intro k i z hi hk
      refine OkE.go snX5_best [18] 100 ?_
      refine ⟨by omega, by omega, fun _ => ?_, fun q => absurd q (by omega)⟩
      rw [show k = 36 by omega]
      exact hq
    | succ d ih =>
      intro k i z hi hk
      have i1 := ih (k + 1) (i + 1) (0, bcN g (v s) ν k) (by omega) (by omega)
      have cb := bc_bd (ν := ν) bG hB k (by omega)
      have sb := bs_bd (fun k hk => ⟨(bc_bd (ν := ν) bG hB k hk).1, (bc_bd (ν := ν) bG hB k hk).2.1⟩) k (by omega)
      have r0 : RwM (bmN g (v s) ν k) 0 g v := RwM_eq s4 (fun i p q => (bm_keep k).1 i (by omega))
      have J : ∀ (X : GS) (C : Int) (z : PV), X = bxN g (v s) ν k → C = bcN g (v s) ν k → OkE mX5_best 89 [(105, 0), (0, s), (0, (bsF (bcN g (v s) ν) k).2), (0, (bsF (bcN g (v s) ν) k).1), (0, (k : Int)), z] [(0, C)] (wk (bmN g (v s) ν k) 11 X.1 X.2.1 X.2.2) Q := by
        intro X C z hX hC
        subst hC
        have em : bmN g (v s) ν (k + 1) = wk (bmN g (v s) ν k) 11 X.1 X.2.1 X.2.2 := by rw [hX]; rfl
        rw [em, hi] at i1
        refine OkE.go snX5_best [18] 100 ?_
        refine ⟨by omega, by omega, fun q => ?_, fun q => ?_⟩
        · refine ⟨by omega, ?_⟩
          refine ⟨by omega, ?_⟩
          rw [bs_yes (Or.inl q)] at i1
          exact i1
        · refine ⟨by omega, by omega, fun q2 => ?_, fun q2 => ?_⟩
          · rw [bs_no (by omega)] at i1
            exact i1
          · refine ⟨by omega, ?_⟩
            refine ⟨by omega, ?_⟩
            rw [bs_yes (Or.inr (by omega))] at i1
            exact i1
      refine OkE.go snX5_best [18, 89] 100 ?_
      refine ⟨by omega, by omega, fun q => absurd q (by omega), fun _ => ?_⟩
      refine ⟨by omega, ?_⟩
      refine ⟨by omega, ?_⟩
      rw [hi]
      refine qX5_replays hss (by omega) (by omega) bG hB r0 (fun X hX => ?_)
      have hX' : X = bxN g (v s) ν k := hX
      refine qX5_at ?_
      refine ⟨by omega, fun x1 e1 => ?_⟩
      obtain rfl : x1 = X.2.1 0 32 := e1.trans (rd_v 0 32 rfl (by omega) (by omega))
      refine qX5_at ?_
      refine ⟨by omega, fun x1 e1 => ?_⟩
      obtain rfl : x1 = X.2.1 0 33 := e1.trans (rd_v 0 33 rfl (by omega) (by omega))
      refine qX5_at ?_
      refine ⟨by omega, fun x1 e1 => ?_⟩
      obtain rfl : x1 = X.2.1 0 34 := e1.trans (rd_v 0 34 rfl (by omega) (by omega))
      exact J X _ _ hX' (by rw [hX']; rfl)
  refine MetP.go snX5_best [18] 100 rfl rfl rfl rfl (fun _ => ?_)
  refine qX5_isService (by unfold I32; omega) (by omega) (fun q => ?_) (fun q => absurd q (by omega))
  refine ⟨by omega, fun _ => ?_, fun q => absurd q (by omega)⟩
  exact L 36 0 0 _ (by omega) (by omega)
theorem qX2_costs {c x y z : Int} (h9 : μ c 9 = x) (h10 : μ c 10 = y) (h11 : μ c 11 = z) (hq : Q (0, x + 5 * y + 3 * z) μ) : MetP mX2_costs [(102, c)] μ Q := by
  refine MetP.go snX2_costs [] 100 rfl rfl rfl rfl (fun _ => ?_)
  intro x1 e1
  obtain rfl : x1 = x := e1.trans h9
  intro x2 e2
  obtain rfl : x2 = y := e2.trans h10
  intro x3 e3
  obtain rfl : x3 = z := e3.trans h11
  exact hq
theorem qX4_best (W : Mem) (hss : 0 ≤ s ∧ s < g 7) (bG : BG g) (bV : ∀ s, 0 ≤ s → s < g 7 → BV (v s)) (s1 : μ 0 6 = 1) (s6 : RelH μ 3 g v) (hq : ∀ μ', FrH μ μ' 54 → Q (0, (bsF (bcN g (v s) W) 36).1) μ') : MetP mX4_best [(104, 0), (0, s)] μ Q := by
  have b7 := bG.2.2.2.2.2.2.2
  have d7 : μ 3 2 = g 7 := s6.1.2.1
  have hB := bV s hss.1 hss.2
  have L2 : ∀ (p : Nat), p < 6 → (∀ (z6 : PV) (dv : Int) (μ' : Mem), FrH μ μ' 54 → OkE mX4_best 78 [(104, 0), (0, s), (0, (bsF (bcN g (v s) W) (6 * p + 6)).1), (0, (bsF (bcN g (v s) W) (6 * p + 6)).2), (0, (p : Int) + 1), (0, dv), z6] [] μ' Q) → ∀ (d e : Nat) (dv : Int) (z6 : PV) (μ' : Mem), dv = (e : Int) + 1 → e + d = 6 → FrH μ μ' 54 → OkE mX4_best 28 [(104, 0), (0, s), (0, (bsF (bcN g (v s) W) (6 * p + e)).1), (0, (bsF (bcN g (v s) W) (6 * p + e)).2), (0, (p : Int) + 1), (0, dv), z6] [] μ' Q := by
    intro p hp hk d
    induction d with
    | zero =>
      intro e dv z6 μ' hdv he hF
      refine OkE.go snX4_best [28, 78] 100 ?_
      refine ⟨by omega, by omega, fun _ => ?_, fun q => absurd q (by omega)⟩
      rw [show e = 6 by omega]
      exact hk _ _ μ' hF
    | succ d ih =>
      intro e dv z6 μ' hdv he hF
      have cb := bc_bd (ν := W) bG hB (6 * p + e) (by omega)
      have sb := bs_bd (fun k hk => ⟨(bc_bd (ν := W) bG hB k hk).1, (bc_bd (ν := W) bG hB k hk).2.1⟩) (6 * p + e) (by omega)
      have h3 : RelH μ' 3 g v := s6.frame b7.2 bV (fun a b p q => hF a b (by omega))
      refine OkE.go snX4_best [28, 72, 78] 100 ?_
      refine ⟨by omega, by omega, fun q => absurd q (by omega), fun _ => ?_⟩
      refine qX4_replayed (bmN g (v s) W (6 * p + e)) hss (by omega) (by omega) bG bV h3 (fun X μ2 hX h9 h10 h11 hF2 => ?_)
      have hX' : X = bxN g (v s) W (6 * p + e) := by
        rw [hX]
        unfold bxN
        rw [show 1 + ((6 * p + e : Nat) : Int) / 6 = (p : Int) + 1 by omega, show 1 + ((6 * p + e : Nat) : Int) % 6 = dv by omega]
      have i1 := ih (e + 1) (dv + 1) (0, bcN g (v s) W (6 * p + e)) μ2 (by omega) (by omega) (hF.tr hF2)
      have J : OkE mX4_best 72 [(104, 0), (0, s), (0, (bsF (bcN g (v s) W) (6 * p + (e + 1))).1), (0, (bsF (bcN g (v s) W) (6 * p + (e + 1))).2), (0, (p : Int) + 1), (0, dv), (0, bcN g (v s) W (6 * p + e))] [] μ2 Q := by
        refine OkE.go snX4_best [28] 100 ?_
        exact i1
      rw [show 6 * p + (e + 1) = 6 * p + e + 1 by omega] at J
      refine qX2_costs h9 h10 h11 ?_
      have ec : bcN g (v s) W (6 * p + e) = X.2.1 0 32 + 5 * X.2.1 0 33 + 3 * X.2.1 0 34 := by rw [hX']; rfl
      refine ⟨by omega, by omega, fun q => ?_, fun q => ?_⟩
      · rw [bs_yes (Or.inl q), ec, show 10 * (1 + ((6 * p + e : Nat) : Int) / 6) + 1 + ((6 * p + e : Nat) : Int) % 6 = 10 * ((p : Int) + 1) + dv by omega] at J
        exact J
      · refine ⟨by omega, by omega, fun q2 => ?_, fun q2 => ?_⟩
        · rw [bs_no (by omega), ec] at J
          exact J
        · rw [bs_yes (Or.inr (by omega)), ec, show 10 * (1 + ((6 * p + e : Nat) : Int) / 6) + 1 + ((6 * p + e : Nat) : Int) % 6 = 10 * ((p : Int) + 1) + dv by omega] at J
          exact J
  have L1 : ∀ (d p : Nat) (uv : Int) (z5 z6 : PV) (μ' : Mem), uv = (p : Int) + 1 → p + d = 6 → FrH μ μ' 54 → OkE mX4_best 18 [(104, 0), (0, s), (0, (bsF (bcN g (v s) W) (6 * p)).1), (0, (bsF (bcN g (v s) W) (6 * p)).2), (0, uv), z5, z6] [] μ' Q := by
    intro d
    induction d with
    | zero =>
      intro p uv z5 z6 μ' hu hp hF
      refine OkE.go snX4_best [18, 28] 100 ?_
      refine ⟨by omega, by omega, fun _ => ?_, fun q => absurd q (by omega)⟩
      rw [show 6 * p = 36 by omega]
      exact hq μ' hF
    | succ d ih =>
      intro p uv z5 z6 μ' hu hp hF
      refine OkE.go snX4_best [18, 28] 100 ?_
      refine ⟨by omega, by omega, fun q => absurd q (by omega), fun _ => ?_⟩
      have l2 := L2 p (by omega) (fun z6 dv μ2 hF2 => by
        refine OkE.go snX4_best [18] 100 ?_
        exact ih (p + 1) ((p : Int) + 1 + 1) (0, dv) z6 μ2 (by omega) (by omega) hF2) 6 0 1 z6 μ' (by omega) (by omega) hF
      rw [hu]
      exact l2
  refine MetP.go snX4_best [18] 100 rfl rfl rfl rfl (fun _ => ?_)
  refine qX4_hasService (by unfold I32; omega) (Or.inr ⟨s1, by omega⟩) (fun _ q => ?_) (fun q => absurd ⟨s1, by omega⟩ q)
  refine ⟨by omega, fun _ => ?_, fun q => absurd q (by omega)⟩
  exact L1 6 0 1 _ _ μ (by omega) (by omega) (fun _ _ _ => rfl)
theorem ag_best (hs : I32 s) (h : REL N μ ν) : MetP mX5_best [(105, 0), (0, s)] ν (fun zb ν' => MetP mX4_best [(104, 0), (0, s)] μ (fun za μ' => za = zb ∧ REL N μ' ν')) := by
  obtain ⟨hT, hn, hst⟩ := id h
  rcases hst with ⟨s1, s2⟩ | ⟨s1, t, g, v, ht, s2, s3, s4, s5, s6, s7⟩
  · refine MetP.go snX5_best [] 100 rfl rfl rfl rfl (fun _ => ?_)
    refine qX5_isService hs (by omega) (fun q => absurd q (by omega)) (fun q => ?_)
    refine ⟨by omega, fun q => absurd rfl q, fun q => ?_⟩
    refine MetP.go snX4_best [] 100 rfl rfl rfl rfl (fun _ => ?_)
    refine qX4_hasService hs (Or.inl s1) (fun q => absurd q (by omega)) (fun q => ?_)
    refine ⟨by omega, fun q => absurd rfl q, fun q => ?_⟩
    exact ⟨rfl, h⟩
  · obtain ⟨bG, b6, bV⟩ := id s5
    have b7 := bG.2.2.2.2.2.2.2
    have e7 : ν 1 7 = g 7 := RwM_g s4 7 (by omega)
    have d7 : μ 3 2 = g 7 := s6.1.2.1
    by_cases hss : 0 ≤ s ∧ s < g 7
    · refine qX5_best hss bG (bV s hss.1 hss.2) s4 ?_
      refine qX4_best ν hss bG bV s1 s6 (fun μ' hf => ⟨rfl, ?_⟩)
      have k1 := (bm_keep (g := g) (u := v s) (ν := ν) 36).1
      have k2 := (bm_keep (g := g) (u := v s) (ν := ν) 36).2
      exact h.tried (fun a b hn => hf a b (by omega)) k1 (k2 0 1 (by omega)) (k2 0 11 (by omega)) (k2 0 12 (by omega)) (fun i => k2 10 i (by omega))
    · refine MetP.go snX5_best [] 100 rfl rfl rfl rfl (fun _ => ?_)
      refine qX5_isService hs (by omega) (fun q => absurd q (by omega)) (fun q => ?_)
      refine ⟨by omega, fun q => absurd rfl q, fun q => ?_⟩
      refine MetP.go snX4_best [] 100 rfl rfl rfl rfl (fun _ => ?_)
      refine qX4_hasService hs (Or.inr ⟨s1, by omega⟩) (fun _ q => absurd q (by omega)) (fun q => ?_)
      refine ⟨by omega, fun q => absurd rfl q, fun q => ?_⟩
      exact ⟨rfl, h⟩
end T74
