theorem sumN_bd {f : Int → Int} : ∀ n : Nat, (∀ k : Int, 0 ≤ k → k < n → 0 ≤ f k ∧ f k ≤ 20) → 0 ≤ sumN f n ∧ sumN f n ≤ 20 * n
  | 0, _ => by simp [sumN]
  | n + 1, h => by
    have h1 := sumN_bd (f := f) n (fun k hk hk2 => h k hk (by omega))
    have h2 := h (n : Int) (by omega) (by omega)
    show 0 ≤ sumN f n + f (n : Int) ∧ sumN f n + f (n : Int) ≤ 20 * ((n + 1 : Nat) : Int)
    omega
theorem sumI_bd {f : Int → Int} {n : Int} (hn : 0 ≤ n) (h : ∀ k : Int, 0 ≤ k → k < n → 0 ≤ f k ∧ f k ≤ 20) : 0 ≤ sumI f n ∧ sumI f n ≤ 20 * n := by
  have := sumN_bd (f := f) n.toNat (fun k h1 h2 => h k h1 (by omega))
  unfold sumI
  omega
theorem steadyV_bd {x : Int} {u : Int → Int} (hB : BV u) (hx : 0 ≤ x ∧ x ≤ 300000) : 0 ≤ steadyV x u ∧ steadyV x u ≤ 300000 := by
  have hc := cntV_bd hB
  obtain ⟨-, -, -, -, h3, h4, -, -, -, -, -, -, -, hu, h24, -⟩ := hB
  have l1 := lowN_bd hx hu (min (u 3 - 1) (u 24)).toNat (by omega)
  have l2 := lowN_bd hx hu (min (u 4 - 1) (u 24)).toNat (by omega)
  unfold steadyV
  split
  · omega
  · split <;> omega
def weighW (g u : Int → Int) (W : Mem) (s : Int) : Mem := upm (upm (upm (upm W 2 s (wantedV g u)) 3 s (steadyV (wantedV g u) u)) 4 s (boundV (wantedV g u) u)) 5 s (dueV (wantedV g u) u)
section M4
variable {μ : Mem} {r s m : Int} {g : Int → Int} {v W : Mem} {Q : PV → Mem → Prop}
theorem qX5_weighs (hr : 0 ≤ r ∧ r ≤ 12) (hs : 0 ≤ s ∧ s < 4) (hG : BG g) (hB : BV (v s)) (h : Q (9, 0) (wk μ r g v (weighW g (v s) W s))) : MetP mX5_weighs [(105, 0), (0, r), (0, s)] (wk μ r g v W) Q := by
  have hc := cntV_bd hB
  have hx := wantedV_bd (g := g) hB
  have hst := steadyV_bd hB hx
  have hB2 := hB
  obtain ⟨h0, h1, -, -, h3, h4, h5, h6, h7, h8, -, -, -, hu, h24, hmv, -⟩ := hB2
  have l1 := lowN_bd hx hu (min (v s 3 - 1) (v s 24)).toNat (by omega)
  have l2 := lowN_bd hx hu (min (v s 4 - 1) (v s 24)).toNat (by omega)
  have sb1 := sumI_bd (f := fun k => v s (28 + k)) (n := v s 8 - 1) (by omega) (fun k q1 q2 => hmv _ (by omega) (by omega))
  have sb2 := sumI_bd (f := fun k => v s (25 + k)) (n := v s 8 - 1) (by omega) (fun k q1 q2 => hmv _ (by omega) (by omega))
  have hbase : 0 ≤ baseV (v s) ∧ baseV (v s) ≤ 20 := by unfold baseV; omega
  have hmul : 0 ≤ baseV (v s) * v s 6 ∧ baseV (v s) * v s 6 ≤ 1980 := by
    constructor
    · exact Int.mul_nonneg (by omega) (by omega)
    · have q1 : baseV (v s) * v s 6 ≤ 20 * v s 6 := Int.mul_le_mul_of_nonneg_right (by omega) (by omega)
      omega
  have hup := upI_bd (a := baseV (v s) * v s 6) (b := 100) (by omega) (by omega)
  have hcv : ceilV (v s) = baseV (v s) + max (upI (baseV (v s) * v s 6) 100) (v s 5) := rfl
  have hfv : floorV (v s) = cntV (v s) + sumI (fun k => v s (28 + k)) (v s 8 - 1) - v s 7 := rfl
  have J217 : ∀ (l9 : Int), OkE mX5_weighs 217 [(105, 0), (0, r), (0, s), (0, cntV (v s)), (0, lohi 1 (wantedV g (v s)) (v s) (min (v s 3 - 1) (v s 24)).toNat), (0, lohi 0 (wantedV g (v s)) (v s) (min (v s 4 - 1) (v s 24)).toNat), (0, v s 8 - 1), (0, floorV (v s)), (0, baseV (v s)), (0, l9), (0, ceilV (v s)), (9, 0)] [] (wk μ r g v (upm (upm W 2 s (wantedV g (v s))) 3 s (steadyV (wantedV g (v s)) (v s)))) Q := fun l9 =>
    qX5_weighs_bound hr hs h0 h1 (by omega) hst (by omega) (by omega) (upm_at _ _ _ _) rfl h
  have J214 : ∀ z, z = max (upI (baseV (v s) * v s 6) 100) (v s 5) → OkE mX5_weighs 214 [(105, 0), (0, r), (0, s), (0, cntV (v s)), (0, lohi 1 (wantedV g (v s)) (v s) (min (v s 3 - 1) (v s 24)).toNat), (0, lohi 0 (wantedV g (v s)) (v s) (min (v s 4 - 1) (v s 24)).toNat), (0, v s 8 - 1), (0, floorV (v s)), (0, baseV (v s)), (0, upI (baseV (v s) * v s 6) 100), (9, 0), (9, 0)] [(0, z), (0, baseV (v s))] (wk μ r g v (upm (upm W 2 s (wantedV g (v s))) 3 s (steadyV (wantedV g (v s)) (v s)))) Q := by
    intro z hz
    subst hz
    refine OkE.go snX5_weighs [217] 100 ?_
    exact J217 _
  have J156 : ∀ z, z = baseV (v s) → OkE mX5_weighs 156 [(105, 0), (0, r), (0, s), (0, cntV (v s)), (0, lohi 1 (wantedV g (v s)) (v s) (min (v s 3 - 1) (v s 24)).toNat), (0, lohi 0 (wantedV g (v s)) (v s) (min (v s 4 - 1) (v s 24)).toNat), (0, v s 8 - 1), (0, floorV (v s)), (0, cntV (v s) - sumI (fun k => v s (25 + k)) (v s 8 - 1)), (9, 0), (9, 0), (9, 0)] [(0, z)] (wk μ r g v (upm (upm W 2 s (wantedV g (v s))) 3 s (steadyV (wantedV g (v s)) (v s)))) Q := by
    intro z hz
    subst hz
    refine OkE.go snX5_weighs [214] 100 ?_
    refine qX5_at ?_
    refine ⟨by omega, fun x1 e1 => ?_⟩
    obtain rfl := e1.trans (rd_v s 6 rfl (by omega) (by omega))
    refine qX5_up (by omega) (by omega) ?_
    refine qX5_at ?_
    refine ⟨by omega, fun x1 e1 => ?_⟩
    obtain rfl := e1.trans (rd_v s 5 rfl (by omega) (by omega))
    refine ⟨by omega, by omega, fun q => ?_, fun q => ?_⟩
    · refine qX5_at ?_
      refine ⟨by omega, fun x1 e1 => ?_⟩
      obtain rfl := e1.trans (rd_v s 5 rfl (by omega) (by omega))
      exact J214 _ (by omega)
    · exact J214 _ (by omega)
  have J87 : ∀ z, z = steadyV (wantedV g (v s)) (v s) → OkE mX5_weighs 87 [(105, 0), (0, r), (0, s), (0, cntV (v s)), (0, lohi 1 (wantedV g (v s)) (v s) (min (v s 3 - 1) (v s 24)).toNat), (0, lohi 0 (wantedV g (v s)) (v s) (min (v s 4 - 1) (v s 24)).toNat), (9, 0), (9, 0), (9, 0), (9, 0), (9, 0), (9, 0)] [(0, z), (0, s), (1104, 0 + 3)] (wk μ r g v (upm W 2 s (wantedV g (v s)))) Q := by
    intro z hz
    subst hz
    refine OkE.go snX5_weighs [156] 100 ?_
    refine ⟨by omega, fun ν d => ?_⟩
    obtain rfl := d.trans (wr_W (by omega))
    refine qX5_at ?_
    refine ⟨by omega, fun x1 e1 => ?_⟩
    obtain rfl := e1.trans (rd_v s 8 rfl (by omega) (by omega))
    refine qX5_sumOf hr hs (by omega) (by omega) ?_
    refine qX5_at ?_
    refine ⟨by omega, fun x1 e1 => ?_⟩
    obtain rfl := e1.trans (rd_v s 7 rfl (by omega) (by omega))
    refine qX5_sumOf hr hs (by omega) (by omega) ?_
    refine ⟨by omega, fun q => ?_, fun q => ?_⟩
    · exact J156 _ (by unfold baseV; omega)
    · exact J156 _ (by unfold baseV; omega)
  refine MetP.go snX5_weighs [87] 100 rfl rfl rfl rfl (fun _ => ?_)
  refine qX5_countOf hr hs ?_
  refine qX5_wanted hr hs hG hB ?_
  refine ⟨by omega, fun ν d => ?_⟩
  obtain rfl := d.trans (wr_W (by omega))
  refine qX5_at ?_
  refine ⟨by omega, fun x1 e1 => ?_⟩
  obtain rfl := e1.trans (rd_v s 3 rfl (by omega) (by omega))
  refine qX5_ofWants hr hs (Or.inr rfl) h3 hx hB (upm_at _ _ _ _) ?_
  refine qX5_at ?_
  refine ⟨by omega, fun x1 e1 => ?_⟩
  obtain rfl := e1.trans (rd_v s 4 rfl (by omega) (by omega))
  refine qX5_ofWants hr hs (Or.inl rfl) h4 hx hB (upm_at _ _ _ _) ?_
  have el : lohi 1 (wantedV g (v s)) (v s) (min (v s 3 - 1) (v s 24)).toNat = lowN (wantedV g (v s)) (v s) (min (v s 3 - 1) (v s 24)).toNat := by unfold lohi; rw [if_neg (by omega)]
  have eh : lohi 0 (wantedV g (v s)) (v s) (min (v s 4 - 1) (v s 24)).toNat = highN (wantedV g (v s)) (v s) (min (v s 4 - 1) (v s 24)).toNat := by unfold lohi; rw [if_pos rfl]
  refine ⟨by omega, by omega, fun q => ?_, fun q => ?_⟩
  · refine ⟨by omega, by omega, fun q2 => ?_, fun q2 => ?_⟩
    · refine J87 _ ?_
      unfold steadyV
      rw [if_neg (by omega), if_neg (by omega)]
    · refine J87 _ ?_
      unfold steadyV
      rw [if_neg (by omega), if_pos (by omega), eh]
  · refine J87 _ ?_
    unfold steadyV
    rw [if_pos (by omega), el]
end M4
/-! giving up: STARTING ones, the last first, then READY ones -/
def lfN (u : Int → Int) (x : Int) : Nat → Int
  | 0 => x
  | j + 1 => lfN u x j - min (u (17 - (j : Int))) (lfN u x j)
def giveN (u : Int → Int) (x : Int) (j : Nat) : Int → Int := fun w => if 17 - (j : Int) < w ∧ w ≤ 17 then u w - min (u w) (lfN u x (17 - w).toNat) else u w
def giveV (u : Int → Int) (x : Int) : Int → Int := upg (giveN u x 7) 10 (u 10 - lfN u x 7)
theorem lfN_bd {u : Int → Int} {x : Int} (hu : ∀ k, 11 ≤ k → k ≤ 17 → 0 ≤ u k) (hx : 0 ≤ x) : ∀ j : Nat, j ≤ 7 → 0 ≤ lfN u x j ∧ lfN u x j ≤ x
  | 0, _ => ⟨hx, by show x ≤ x; omega⟩
  | j + 1, hj => by
    have h1 := lfN_bd hu hx j (by omega)
    have h2 := hu (17 - (j : Int)) (by omega) (by omega)
    show 0 ≤ lfN u x j - min (u (17 - (j : Int))) (lfN u x j) ∧ lfN u x j - min (u (17 - (j : Int))) (lfN u x j) ≤ x
    omega
theorem lfN_0 {u : Int → Int} {x : Int} (hu : ∀ k, 11 ≤ k → k ≤ 17 → 0 ≤ u k) : ∀ (d j : Nat), lfN u x j = 0 → j + d ≤ 7 → lfN u x (j + d) = 0
  | 0, j, h, _ => h
  | d + 1, j, h, hj => by
    have h1 := lfN_0 hu d j h (by omega)
    have h2 := hu (17 - ((j + d : Nat) : Int)) (by omega) (by omega)
    show lfN u x (j + d) - min (u (17 - ((j + d : Nat) : Int))) (lfN u x (j + d)) = 0
    omega
theorem giveN_stop {u : Int → Int} {x : Int} (hu : ∀ k, 11 ≤ k → k ≤ 17 → 0 ≤ u k) {j : Nat} (hj : j ≤ 7) (h : lfN u x j = 0) : giveN u x j = giveN u x 7 := by
  funext w
  unfold giveN
  by_cases h1 : 17 - (j : Int) < w ∧ w ≤ 17
  · rw [if_pos h1, if_pos (show 17 - ((7 : Nat) : Int) < w ∧ w ≤ 17 by omega)]
  · rw [if_neg h1]
    by_cases h2 : 17 - ((7 : Nat) : Int) < w ∧ w ≤ 17
    · rw [if_pos h2]
      have h3 := lfN_0 hu ((17 - w).toNat - j) j h (by omega)
      rw [show j + ((17 - w).toNat - j) = (17 - w).toNat by omega] at h3
      have h4 := hu w (by omega) (by omega)
      rw [h3]
      omega
    · rw [if_neg h2]
section M5
variable {μ : Mem} {r s m : Int} {g : Int → Int} {v W : Mem} {Q : PV → Mem → Prop}
def setS (v : Mem) (s : Int) (u : Int → Int) : Mem := fun s' w => if s' = s then u w else v s' w
theorem setS_at (v : Mem) (s : Int) (u : Int → Int) : setS v s u s = u := by
  funext w
  unfold setS
  rw [if_pos rfl]
theorem setS_upm (v : Mem) (s : Int) (u : Int → Int) (w x : Int) : upm (setS v s u) s w x = setS v s (upg u w x) := by
  funext s' w'
  unfold upm setS upg
  by_cases h1 : s' = s
  · subst h1
    simp
  · rw [if_neg (by omega), if_neg h1, if_neg h1]
theorem setS_self (v : Mem) (s : Int) : setS v s (v s) = v := by
  funext s' w
  unfold setS
  split
  · rename_i h; rw [h]
  · rfl
/-- givesUp's end: READY ones -/
theorem qX5_givesUp_end {u : Int → Int} {lf : Int} {k x5 : Int} {t5 : Nat} (hr : 0 ≤ r ∧ r ≤ 12) (hs : 0 ≤ s ∧ s < 4) (hlf : -100 ≤ lf ∧ lf ≤ 100) (h : Q (9, 0) (wk μ r g (setS v s (upg u 10 (u 10 - max lf 0))) W)) : OkE mX5_givesUp 113 [(105, 0), (0, r), (0, s), (0, lf), (0, k), (t5, x5)] [] (wk μ r g (setS v s u) W) Q := by
  have J : ∀ z, z = max lf 0 → OkE mX5_givesUp 135 [(105, 0), (0, r), (0, s), (0, lf), (0, k), (t5, x5)] [(0, z), (0, u 10), (0, 400 * r + 8 + 98 * s + 10), (6300, 0 + 1)] (wk μ r g (setS v s u) W) Q := by
    intro z hz
    subst hz
    refine OkE.go snX5_givesUp [] 100 ?_
    refine ⟨by omega, fun ν d => ?_⟩
    obtain rfl := d.trans ((wr_v s 10 rfl (by omega) (by omega)).trans (congrArg (fun q => wk μ r g q W) (setS_upm v s u 10 _)))
    exact h
  refine OkE.go snX5_givesUp [135] 100 ?_
  refine qX5_at ?_
  refine ⟨by omega, fun x1 e1 => ?_⟩
  obtain rfl := e1.trans ((rd_v s 10 rfl (by omega) (by omega)).trans (congrFun (setS_at v s u) 10))
  refine ⟨by omega, fun q => ?_, fun q => ?_⟩
  · exact J _ (by omega)
  · exact J _ (by omega)
theorem giveN_at {u : Int → Int} {x : Int} {j : Nat} {w : Int} (hw : w ≤ 17 - (j : Int)) : giveN u x j w = u w := by
  unfold giveN
  rw [if_neg (by omega)]
theorem giveN_succ {u : Int → Int} {x : Int} {j : Nat} : upg (giveN u x j) (17 - (j : Int)) (u (17 - (j : Int)) - min (u (17 - (j : Int))) (lfN u x j)) = giveN u x (j + 1) := by
  funext w
  unfold upg giveN
  by_cases h1 : w = 17 - (j : Int)
  · subst h1
    rw [if_pos rfl, if_pos (show 17 - ((j + 1 : Nat) : Int) < 17 - (j : Int) ∧ 17 - (j : Int) ≤ 17 by omega), show (17 - (17 - (j : Int))).toNat = j by omega]
  · rw [if_neg h1]
    by_cases h2 : 17 - (j : Int) < w ∧ w ≤ 17
    · rw [if_pos h2, if_pos (show 17 - ((j + 1 : Nat) : Int) < w ∧ w ≤ 17 by omega)]
    · rw [if_neg h2, if_neg (show ¬ (17 - ((j + 1 : Nat) : Int) < w ∧ w ≤ 17) by omega)]
theorem qX5_givesUp_loop {u : Int → Int} {x : Int} (hr : 0 ≤ r ∧ r ≤ 12) (hs : 0 ≤ s ∧ s < 4) (hu : ∀ k, 11 ≤ k → k ≤ 17 → 0 ≤ u k ∧ u k ≤ 100) (hx : 0 ≤ x ∧ x ≤ 100) (h : Q (9, 0) (wk μ r g (setS v s (giveV u x)) W)) : ∀ (d j : Nat) (t5 : Nat) (x5 : Int), j + d = 7 → OkE mX5_givesUp 33 [(105, 0), (0, r), (0, s), (0, lfN u x j), (0, 6 - (j : Int)), (t5, x5)] [] (wk μ r g (setS v s (giveN u x j)) W) Q := by
  have hu0 : ∀ k, 11 ≤ k → k ≤ 17 → 0 ≤ u k := fun k h1 h2 => (hu k h1 h2).1
  have fin : ∀ (j : Nat) (k x5 : Int) (t5 : Nat), j ≤ 7 → (j = 7 ∨ lfN u x j = 0) → OkE mX5_givesUp 113 [(105, 0), (0, r), (0, s), (0, lfN u x j), (0, k), (t5, x5)] [] (wk μ r g (setS v s (giveN u x j)) W) Q := by
    intro j k x5 t5 hj7 hj
    have hb := lfN_bd hu0 hx.1 j hj7
    have e7 : lfN u x j = lfN u x 7 := by
      rcases hj with rfl | hj
      · rfl
      · have := lfN_0 hu0 (7 - j) j hj (by omega)
        rw [show j + (7 - j) = 7 by omega] at this
        rw [hj, this]
    have en : giveN u x j = giveN u x 7 := by
      rcases hj with rfl | hj
      · rfl
      · exact giveN_stop hu0 hj7 hj
    refine qX5_givesUp_end hr hs (by omega) ?_
    have h2 : giveV u x = upg (giveN u x 7) 10 (u 10 - lfN u x 7) := rfl
    rw [en, giveN_at (by omega : (10 : Int) ≤ 17 - ((7 : Nat) : Int)), show max (lfN u x j) 0 = lfN u x 7 by omega, ← h2]
    exact h
  intro d
  induction d with
  | zero =>
    intro j t5 x5 hd
    have hj : j = 7 := by omega
    subst hj
    refine OkE.go snX5_givesUp [33, 113] 100 ?_
    refine ⟨by omega, fun _ => ?_, fun q => absurd q (by omega)⟩
    exact fin 7 _ _ _ (by omega) (Or.inl rfl)
  | succ d ih =>
    intro j t5 x5 hd
    have hb := lfN_bd hu0 hx.1 j (by omega)
    have hk := hu (17 - (j : Int)) (by omega) (by omega)
    refine OkE.go snX5_givesUp [33, 113, 80] 100 ?_
    refine ⟨by omega, fun q => absurd q (by omega), fun _ => ?_⟩
    refine ⟨by omega, fun q => ?_, fun q => ?_⟩
    · exact fin j _ _ _ (by omega) (Or.inr (by omega))
    have J : ∀ z, z = min (u (17 - (j : Int))) (lfN u x j) → OkE mX5_givesUp 80 [(105, 0), (0, r), (0, s), (0, lfN u x j), (0, 6 - (j : Int)), (t5, x5)] [(0, z)] (wk μ r g (setS v s (giveN u x j)) W) Q := by
      intro z hz
      refine OkE.go snX5_givesUp [33] 100 ?_
      refine qX5_at ?_
      refine ⟨by omega, fun x1 e1 => ?_⟩
      obtain rfl := e1.trans ((rd_v s (17 - (j : Int)) rfl (by omega) (by omega)).trans ((congrFun (setS_at v s _) _).trans (giveN_at (by omega))))
      refine ⟨by omega, fun ν d1 => ?_⟩
      obtain rfl := d1.trans ((wr_v s (17 - (j : Int)) rfl (by omega) (by omega)).trans (congrArg (fun q => wk μ r g q W) (setS_upm v s _ _ _)))
      have ih2 := ih (j + 1) 0 z (by omega)
      rw [← giveN_succ, ← hz, show 6 - ((j + 1 : Nat) : Int) = 6 - (j : Int) + -1 by omega] at ih2
      have e : lfN u x (j + 1) = lfN u x j - z := by rw [hz]; rfl
      rw [e] at ih2
      exact ih2
    refine qX5_at ?_
    refine ⟨by omega, fun x1 e1 => ?_⟩
    obtain rfl := e1.trans ((rd_v s (17 - (j : Int)) rfl (by omega) (by omega)).trans ((congrFun (setS_at v s _) _).trans (giveN_at (by omega))))
    refine ⟨by omega, by omega, fun q2 => ?_, fun q2 => ?_⟩
    · exact J _ (by omega)
    refine qX5_at ?_
    refine ⟨by omega, fun x1 e1 => ?_⟩
    obtain rfl := e1.trans ((rd_v s (17 - (j : Int)) rfl (by omega) (by omega)).trans ((congrFun (setS_at v s _) _).trans (giveN_at (by omega))))
    exact J _ (by omega)
end M5
