section T72
variable {N : Int} {μ ν : Mem} {g u : Int → Int} {v W : Mem} {Q : PV → Mem → Prop} {w x s c R t n m h a b r k : Int}
theorem qX5_lays_raw (hk : 0 ≤ 400 * r + k ∧ 400 * r + k < 5200) (hq : Q (9, 0) (upm ν 1 (400 * r + k) x)) : MetP mX5_lays [(105, 0), (0, r), (0, k), (0, x)] ν Q := by
  refine MetP.go snX5_lays [] 100 rfl rfl rfl rfl (fun _ => ?_)
  refine ⟨by omega, fun ν1 d => ?_⟩
  rw [show ν1 = upm ν 1 (400 * r + k) x from d]
  exact hq
theorem rpK_0 {b' : Int} : rpK u a b' 0 = rpF u a b' := by
  funext j
  unfold rpK
  rw [if_neg (by omega)]
theorem rpK_up (hm : 0 ≤ m ∧ m < 3) : upg (upg (rpK u a b m) (35 + 21 * m + 0) (u (35 + 21 * m + 0))) (35 + 21 * m + 1) (u (35 + 21 * m + 1)) = rpK u a b (m + 1) := by
  funext j
  unfold upg rpK
  by_cases h1 : j = 35 + 21 * m + 1
  · rw [if_pos h1, if_pos (by omega), h1]
  · rw [if_neg h1]
    by_cases h0 : j = 35 + 21 * m + 0
    · rw [if_pos h0, if_pos (by omega), h0]
    · rw [if_neg h0]
      by_cases h : 35 ≤ j ∧ j < 98 ∧ (j - 35) / 21 < m ∧ (j - 35) % 21 ≤ 1
      · rw [if_pos h, if_pos (by omega)]
      · rw [if_neg h, if_neg (by omega)]
theorem qX5_replays (hss : 0 ≤ s ∧ s < g 7) (ha : 1 ≤ a ∧ a ≤ 6) (hb : 1 ≤ b ∧ b ≤ 6) (bG : BG g) (hB : BV (v s)) (s4 : RwM ν 0 g v) (hq : ∀ X, X = rpX g (v s) a b (min (g 6) 18) ν (min (g 6) 18).toNat → Q (9, 0) (wk ν 11 X.1 X.2.1 X.2.2)) : MetP mX5_replays [(105, 0), (0, s), (0, a), (0, b)] ν Q := by
  have b7 := bG.2.2.2.2.2.2.2
  have b6 := bG.2.2.2.2.2.2.1
  have b9 := BV_9 hB
  have R0 : ∀ G V W, RwM (wk ν 11 G V W) 0 g v := fun G V W => RwM_eq s4 (fun i p q => by unfold wk; rw [if_neg (by omega), if_neg (by omega)])
  -- the rounds
  have L5 : ∀ (i : Nat) (V : Mem) (X : GS) (f : Int → Int) (ago : Int), (i : Int) < min (g 6) 18 → ago = min (g 6) 18 - 1 - (i : Int) → X = rpX g (v s) a b (min (g 6) 18) ν i → (∀ m, f m = v s (38 + 21 * m + ago)) → (∀ z, OkE mX5_replays 311 [(105, 0), (0, s), (0, a), (0, b), (0, ago), z] [] (wk ν 11 X.1 (vlV X.2.1 (v s 9) f) X.2.2) Q) → ∀ (d : Nat) (m : Int), 0 ≤ m → m + d = v s 9 → OkE mX5_replays 258 [(105, 0), (0, s), (0, a), (0, b), (0, ago), (0, m)] [] (wk ν 11 X.1 (vlV X.2.1 m f) X.2.2) Q := by
    intro i V X f ago hi hago hX hf hk d
    induction d with
    | zero =>
      intro m h0 hd
      refine OkE.go snX5_replays [258, 311] 100 ?_
      refine qX5_at ?_
      refine ⟨by omega, fun x1 e1 => ?_⟩
      obtain rfl : x1 = v s 9 := e1.trans (RwM_v (R0 _ _ _) s 9 (by omega))
      refine ⟨by omega, by omega, fun _ => ?_, fun q => absurd q (by omega)⟩
      have := hk (0, m)
      rw [show v s 9 = m by omega] at this
      exact this
    | succ d ih =>
      intro m h0 hd
      have i1 := ih (m + 1) (by omega) (by omega)
      rw [← vlV_up h0, hf m] at i1
      refine OkE.go snX5_replays [258, 311] 100 ?_
      refine qX5_at ?_
      refine ⟨by omega, fun x1 e1 => ?_⟩
      obtain rfl : x1 = v s 9 := e1.trans (RwM_v (R0 _ _ _) s 9 (by omega))
      refine ⟨by omega, by omega, fun q => absurd q (by omega), fun _ => ?_⟩
      refine qX5_atMeasure ?_
      refine qX5_atMeasure ?_
      refine ⟨by omega, fun x2 e2 => ?_⟩
      have ex : x2 = v s (38 + 21 * m + ago) := by
        refine e2.trans ((RwM_v (R0 _ _ _) s (35 + 21 * m + (3 + ago)) (by omega)).trans ?_)
        congr 1; omega
      refine ⟨by omega, fun ν2 d2 => ?_⟩
      obtain rfl := d2.trans (wr_v 0 (35 + 21 * m + 2) rfl (by omega) (by omega))
      rw [ex]
      exact i1
  have L4 : ∀ (d i : Nat) (ago : Int) (z : PV), (i : Int) + d = min (g 6) 18 → ago = min (g 6) 18 - 1 - (i : Int) → OkE mX5_replays 250 [(105, 0), (0, s), (0, a), (0, b), (0, ago), z] [] (wk ν 11 (rpX g (v s) a b (min (g 6) 18) ν i).1 (rpX g (v s) a b (min (g 6) 18) ν i).2.1 (rpX g (v s) a b (min (g 6) 18) ν i).2.2) Q := by
    intro d
    induction d with
    | zero =>
      intro i ago z hi hago
      refine OkE.go snX5_replays [250, 258, 311] 100 ?_
      refine ⟨by omega, fun _ => ?_, fun q => absurd q (by omega)⟩
      exact hq _ (by rw [show (min (g 6) 18).toNat = i by omega])
    | succ d ih =>
      intro i ago z hi hago
      obtain ⟨k1, k2, k3, k4, k5, -⟩ := rp_ok (W := ν) bG hB ha hb (P := min (g 6) 18) (by omega) i (by omega)
      have hB1 : ∀ s', 0 ≤ s' → s' < (rpX g (v s) a b (min (g 6) 18) ν i).1 7 → BV (vlV (rpX g (v s) a b (min (g 6) 18) ν i).2.1 (v s 9) (fun m => v s (38 + 21 * m + (min (g 6) 18 - 1 - (i : Int)))) s') := by
        intro s' p q
        rw [k2] at q
        rw [show s' = 0 by omega, vlV_00]
        refine BV_vl (k1.2.2 0 (by omega) (by omega)) k5 (fun m p q => ?_)
        exact (BV_m hB ⟨p, q⟩).2.2.2 (min (g 6) 18 - 1 - (i : Int)) (by omega) (by omega)
      refine OkE.go snX5_replays [250, 258, 311] 100 ?_
      refine ⟨by omega, fun q => absurd q (by omega), fun _ => ?_⟩
      have l5 := L5 i ν _ (fun m => v s (38 + 21 * m + (min (g 6) 18 - 1 - (i : Int)))) ago (by omega) hago rfl (fun m => by rw [hago]) (fun z => by
        refine OkE.go snX5_replays [250] 100 ?_
        refine qX5_does (r := 11) (by omega) k1.1 hB1 ?_
        exact ih (i + 1) (ago + -1) z (by omega) (by omega)) (v s 9).toNat 0 (by omega) (by omega)
      rw [vlV_0] at l5
      exact l5
  have J4 : ∀ z z', OkE mX5_replays 241 [(105, 0), (0, s), (0, a), (0, b), z, z'] [] (wk ν 11 (rpG g) (rpV (rpU (v s) a b)) ν) Q := by
    intro z z'
    refine OkE.go snX5_replays [250] 100 ?_
    have T : ∀ Q0, Q0 (0, min (g 6) 18) (wk ν 11 (rpG g) (rpV (rpU (v s) a b)) ν) → MetP mX5_pastOf [(105, 0), (0, 0)] (wk ν 11 (rpG g) (rpV (rpU (v s) a b)) ν) Q0 := fun Q0 h0 => by
      have r0 := R0 (rpG g) (rpV (rpU (v s) a b)) ν
      rw [RwM_wk r0]
      refine qX5_pastOf (r := 0) (by omega) b6 ?_
      rw [← RwM_wk r0]
      exact h0
    refine T _ ?_
    exact L4 (min (g 6) 18).toNat 0 _ _ (by omega) (by omega)
  have L3 : ∀ (d : Nat) (m : Int) (z : PV), 0 ≤ m → m + d = v s 9 → OkE mX5_replays 164 [(105, 0), (0, s), (0, a), (0, b), (0, m), z] [] (wk ν 11 (rpG g) (rpV (rpK (v s) a b m)) ν) Q := by
    intro d
    induction d with
    | zero =>
      intro m z h0 hd
      refine OkE.go snX5_replays [164, 241] 100 ?_
      refine qX5_at ?_
      refine ⟨by omega, fun x1 e1 => ?_⟩
      obtain rfl : x1 = v s 9 := e1.trans (RwM_v (R0 _ _ _) s 9 (by omega))
      refine ⟨by omega, by omega, fun _ => ?_, fun q => absurd q (by omega)⟩
      have := J4 (0, m) z
      unfold rpU at this
      rw [show v s 9 = m by omega] at this
      exact this
    | succ d ih =>
      intro m z h0 hd
      have i1 := ih (m + 1) z (by omega) (by omega)
      rw [← rpK_up (by omega), ← rpV_up, ← rpV_up] at i1
      refine OkE.go snX5_replays [164, 241] 100 ?_
      refine qX5_at ?_
      refine ⟨by omega, fun x1 e1 => ?_⟩
      obtain rfl : x1 = v s 9 := e1.trans (RwM_v (R0 _ _ _) s 9 (by omega))
      refine ⟨by omega, by omega, fun q => absurd q (by omega), fun _ => ?_⟩
      refine qX5_atMeasure ?_
      refine qX5_atMeasure ?_
      refine ⟨by omega, fun x2 e2 => ?_⟩
      obtain rfl : x2 = v s (35 + 21 * m + 0) := e2.trans (RwM_v (R0 _ _ _) s (35 + 21 * m + 0) (by omega))
      refine ⟨by omega, fun ν2 d2 => ?_⟩
      obtain rfl := d2.trans (wr_v 0 (35 + 21 * m + 0) rfl (by omega) (by omega))
      refine qX5_atMeasure ?_
      refine qX5_atMeasure ?_
      refine ⟨by omega, fun x2 e2 => ?_⟩
      obtain rfl : x2 = v s (35 + 21 * m + 1) := e2.trans (RwM_v (R0 _ _ _) s (35 + 21 * m + 1) (by omega))
      refine ⟨by omega, fun ν2 d2 => ?_⟩
      obtain rfl := d2.trans (wr_v 0 (35 + 21 * m + 1) rfl (by omega) (by omega))
      exact i1
  have J3 : ∀ z z', OkE mX5_replays 111 [(105, 0), (0, s), (0, a), (0, b), z, z'] [] (wk ν 11 (rpG g) (rpV (fun j => if 0 ≤ j ∧ j < 10 then v s j else 0)) ν) Q := by
    intro z z'
    have l3 := L3 (v s 9).toNat 0 z' (by omega) (by omega)
    rw [rpK_0] at l3
    unfold rpF at l3
    rw [← rpV_up, ← rpV_up, ← rpV_up] at l3
    refine OkE.go snX5_replays [164] 100 ?_
    refine qX5_at ?_
    refine ⟨by omega, fun ν2 d2 => ?_⟩
    obtain rfl := d2.trans (wr_v 0 3 rfl (by omega) (by omega))
    refine qX5_at ?_
    refine ⟨by omega, fun ν2 d2 => ?_⟩
    obtain rfl := d2.trans (wr_v 0 4 rfl (by omega) (by omega))
    refine qX5_at ?_
    refine qX5_at ?_
    refine ⟨by omega, fun x2 e2 => ?_⟩
    obtain rfl : x2 = v s 0 := e2.trans (RwM_v (R0 _ _ _) s 0 (by omega))
    refine ⟨by omega, fun ν2 d2 => ?_⟩
    obtain rfl := d2.trans (wr_v 0 10 rfl (by omega) (by omega))
    exact l3
  have L2 : ∀ (d : Nat) (k : Int) (z : PV), 0 ≤ k → k + d = 10 → OkE mX5_replays 73 [(105, 0), (0, s), (0, a), (0, b), (0, k), z] [] (wk ν 11 (rpG g) (rpV (fun j => if 0 ≤ j ∧ j < k then v s j else 0)) ν) Q := by
    intro d
    induction d with
    | zero =>
      intro k z h0 hd
      refine OkE.go snX5_replays [73, 111] 100 ?_
      refine ⟨by omega, by omega, fun _ => ?_, fun q => absurd q (by omega)⟩
      have := J3 (0, k) z
      obtain rfl : k = 10 := by omega
      exact this
    | succ d ih =>
      intro k z h0 hd
      have i1 := ih (k + 1) z (by omega) (by omega)
      have e : (fun j => if 0 ≤ j ∧ j < k + 1 then v s j else 0) = upg (fun j => if 0 ≤ j ∧ j < k then v s j else 0) k (v s k) := by
        funext j
        unfold upg
        by_cases hj : j = k
        · rw [if_pos hj, if_pos (by omega), hj]
        · rw [if_neg hj]
          dsimp only
          by_cases h : 0 ≤ j ∧ j < k
          · rw [if_pos h, if_pos (by omega)]
          · rw [if_neg h, if_neg (by omega)]
      rw [e, ← rpV_up] at i1
      refine OkE.go snX5_replays [73, 111] 100 ?_
      refine ⟨by omega, by omega, fun q => absurd q (by omega), fun _ => ?_⟩
      refine qX5_at ?_
      refine qX5_at ?_
      refine ⟨by omega, fun x2 e2 => ?_⟩
      obtain rfl : x2 = v s k := e2.trans (RwM_v (R0 _ _ _) s k (by omega))
      refine ⟨by omega, fun ν2 d2 => ?_⟩
      obtain rfl := d2.trans (wr_v 0 k rfl (by omega) (by omega))
      exact i1
  have J1 : ∀ z z', OkE mX5_replays 26 [(105, 0), (0, s), (0, a), (0, b), z, z'] [] (wk ν 11 (fun _ => 0) (rpV (fun _ => 0)) ν) Q := by
    intro z z'
    have l2 := L2 10 0 z' (by omega) (by omega)
    have e : (fun j => if 0 ≤ j ∧ j < 0 then v s j else 0) = (fun _ => (0 : Int)) := by
      funext j
      rw [if_neg (by omega)]
    rw [e] at l2
    unfold rpG at l2
    refine OkE.go snX5_replays [73] 100 ?_
    refine qX5_lays 0 (by omega) (by omega) ?_
    refine ⟨by omega, fun x2 e2 => ?_⟩
    obtain rfl : x2 = g 1 := e2.trans (RwM_g (R0 _ _ _) 1 (by omega))
    refine qX5_lays 1 (by omega) (by omega) ?_
    refine ⟨by omega, fun x2 e2 => ?_⟩
    obtain rfl : x2 = g 4 := e2.trans (RwM_g (R0 _ _ _) 4 (by omega))
    refine qX5_lays 4 (by omega) (by omega) ?_
    refine qX5_lays 7 (by omega) (by omega) ?_
    exact l2
  have L1 : ∀ (d : Nat) (k : Int) (z : PV) (ν' : Mem), 0 ≤ k → k + d = 400 → ν' = (fun c i => if c = 1 ∧ 4400 ≤ i ∧ i < 4400 + k then 0 else ν c i) → OkE mX5_replays 3 [(105, 0), (0, s), (0, a), (0, b), (0, k), z] [] ν' Q := by
    intro d
    induction d with
    | zero =>
      intro k z ν' h0 hd e
      refine OkE.go snX5_replays [3, 26] 100 ?_
      refine ⟨by omega, by omega, fun _ => ?_, fun q => absurd q (by omega)⟩
      have e2 : ν' = wk ν 11 (fun _ => 0) (rpV (fun _ => 0)) ν := by
        rw [e]
        funext c i
        unfold wk rowOf rpV
        by_cases hc : c = 1 ∧ 4400 ≤ i ∧ i < 4400 + k
        · rw [if_pos hc, if_pos (by omega)]
          split
          · rfl
          · split <;> rfl
        · rw [if_neg hc, if_neg (by omega)]
          split <;> rfl
      rw [e2]
      exact J1 _ _
    | succ d ih =>
      intro k z ν' h0 hd e
      refine OkE.go snX5_replays [3, 26] 100 ?_
      refine ⟨by omega, by omega, fun q => absurd q (by omega), fun _ => ?_⟩
      refine qX5_lays_raw (by omega) ?_
      refine ih (k + 1) z _ (by omega) (by omega) ?_
      rw [e]
      funext c i
      unfold upm
      by_cases hc : c = 1 ∧ i = 400 * 11 + k
      · rw [if_pos hc, if_pos (by omega)]
      · rw [if_neg hc]
        dsimp only
        by_cases hd : c = 1 ∧ 4400 ≤ i ∧ i < 4400 + k
        · rw [if_pos hd, if_pos (by omega)]
        · rw [if_neg hd, if_neg (by omega)]
  refine MetP.go snX5_replays [3] 100 rfl rfl rfl rfl (fun _ => ?_)
  refine L1 400 0 _ ν (by omega) (by omega) ?_
  funext c i
  rw [if_neg (by omega)]
end T72
