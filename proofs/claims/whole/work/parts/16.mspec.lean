/-! PURE: what a round is, over a head g and a service's row u (98 numbers) -/
def sumN (f : Int → Int) : Nat → Int
  | 0 => 0
  | n + 1 => sumN f n + f (n : Int)
def sumI (f : Int → Int) (n : Int) : Int := sumN f n.toNat
theorem sumI_0 (f : Int → Int) : sumI f 0 = 0 := rfl
theorem sumI_succ (f : Int → Int) {n : Int} (h : 0 ≤ n) : sumI f (n + 1) = sumI f n + f n := by
  unfold sumI
  rw [show (n + 1).toNat = n.toNat + 1 by omega]
  show sumN f n.toNat + f ((n.toNat : Nat) : Int) = _
  rw [Int.toNat_of_nonneg h]
def cntV (u : Int → Int) : Int := u 10 + u 11 + u 12 + u 13 + u 14 + u 15 + u 16 + u 17
def wakeV (u : Int → Int) : Int → Int := upg (upg u 10 (u 10 + u 11)) 11 0
def upI (a b : Int) : Int := (a + b - 1) / b
def fcP (g u : Int → Int) (m h k : Int) : Bool := decide (0 ≤ k * g 4 - h - 1) && decide (k * g 4 - h - 1 ≤ min (g 6) 18 - 1) && decide (0 ≤ u (38 + 21 * m + (k * g 4 - h - 1)))
def fcS (g u : Int → Int) (m h k : Int) : Int := if fcP g u m h k then u (38 + 21 * m + (k * g 4 - h - 1)) else 0
def fcM (g u : Int → Int) (m h k : Int) : Int := if fcP g u m h k then 1 else 0
def foreV (g u : Int → Int) (m h : Int) : Int := if fcM g u m h 1 + fcM g u m h 2 + fcM g u m h 3 = 0 then 0 else upI (fcS g u m h 1 + fcS g u m h 2 + fcS g u m h 3) (fcM g u m h 1 + fcM g u m h 2 + fcM g u m h 3)
/-- what a measure wants by a value, of a row whose step 1 is done -/
def wantV (g u : Int → Int) (m x : Int) : Int :=
  if x < 0 then cntV u
  else if u (35 + 21 * m) = 1 then upI x (u (36 + 21 * m))
  else if u (35 + 21 * m) = 2 then upI (max (foreV g u m (g 1)) x) (u (36 + 21 * m))
  else if u (35 + 21 * m) = 3 then (if 10 * (if u (36 + 21 * m) < x then x - u (36 + 21 * m) else u (36 + 21 * m) - x) ≤ u (36 + 21 * m) then cntV u else upI ((if u 10 = 0 then 1 else u 10) * x) (u (36 + 21 * m)))
  else if 0 < x then cntV u + (x - 1) / u (36 + 21 * m) else if 0 < cntV u then cntV u - 1 else 0
def mxN (g u : Int → Int) : Nat → Int
  | 0 => if u 9 = 0 then u 0 else 0
  | k + 1 => max (mxN g u k) (wantV g u (k : Int) (u (37 + 21 * (k : Int))))
def wantedV (g u : Int → Int) : Int := mxN g u (u 9).toNat
def lowN (x : Int) (u : Int → Int) : Nat → Int
  | 0 => x
  | k + 1 => min (lowN x u k) (u (18 + (k : Int)))
def highN (x : Int) (u : Int → Int) : Nat → Int
  | 0 => x
  | k + 1 => max (highN x u k) (u (18 + (k : Int)))
def steadyV (x : Int) (u : Int → Int) : Int :=
  if cntV u < lowN x u (min (u 3 - 1) (u 24)).toNat then lowN x u (min (u 3 - 1) (u 24)).toNat
  else if highN x u (min (u 4 - 1) (u 24)).toNat < cntV u then highN x u (min (u 4 - 1) (u 24)).toNat else cntV u
def floorV (u : Int → Int) : Int := cntV u + sumI (fun k => u (28 + k)) (u 8 - 1) - u 7
def baseV (u : Int → Int) : Int := max (cntV u - sumI (fun k => u (25 + k)) (u 8 - 1)) 0
def ceilV (u : Int → Int) : Int := baseV u + max (upI (baseV u * u 6) 100) (u 5)
def boundV (x : Int) (u : Int → Int) : Int :=
  if steadyV x u < cntV u then min (max (steadyV x u) (floorV u)) (cntV u)
  else if cntV u < steadyV x u then max (min (steadyV x u) (ceilV u)) (cntV u) else cntV u
def dueV (x : Int) (u : Int → Int) : Int := min (max (boundV x u) (u 0)) (u 1)
/-- bounds of a service's row -/
def BV (u : Int → Int) : Prop := (0 ≤ u 0 ∧ u 0 ≤ 9) ∧ (1 ≤ u 1 ∧ u 1 ≤ 20) ∧ u 0 ≤ u 1 ∧ (0 ≤ u 2 ∧ u 2 ≤ 9) ∧ (1 ≤ u 3 ∧ u 3 ≤ 6) ∧ (1 ≤ u 4 ∧ u 4 ≤ 6) ∧ (0 ≤ u 5 ∧ u 5 ≤ 9) ∧ (0 ≤ u 6 ∧ u 6 ≤ 99) ∧ (0 ≤ u 7 ∧ u 7 ≤ 9) ∧ (1 ≤ u 8 ∧ u 8 ≤ 4) ∧ (0 ≤ u 9 ∧ u 9 ≤ 3) ∧ (0 ≤ u 10 ∧ 0 ≤ u 11 ∧ 0 ≤ u 12 ∧ 0 ≤ u 13 ∧ 0 ≤ u 14 ∧ 0 ≤ u 15 ∧ 0 ≤ u 16 ∧ 0 ≤ u 17) ∧ cntV u ≤ 20 ∧ (∀ k, 18 ≤ k → k ≤ 23 → 0 ≤ u k ∧ u k ≤ 300000) ∧ (0 ≤ u 24 ∧ u 24 ≤ 6) ∧ (∀ k, 25 ≤ k → k ≤ 30 → 0 ≤ u k ∧ u k ≤ 20) ∧ (-1 ≤ u 31 ∧ u 31 ≤ 1) ∧ (∀ m, 0 ≤ m → m < u 9 → (1 ≤ u (35 + 21 * m) ∧ u (35 + 21 * m) ≤ 4) ∧ (1 ≤ u (36 + 21 * m) ∧ u (36 + 21 * m) ≤ 99) ∧ (-1 ≤ u (37 + 21 * m) ∧ u (37 + 21 * m) ≤ 9999) ∧ ∀ k, 0 ≤ k → k < 18 → -1 ≤ u (38 + 21 * m + k) ∧ u (38 + 21 * m + k) ≤ 9999)
def BG (g : Int → Int) : Prop := (1 ≤ g 0 ∧ g 0 ≤ 60) ∧ (1 ≤ g 1 ∧ g 1 ≤ 6) ∧ (0 ≤ g 2 ∧ g 2 ≤ 9) ∧ (0 ≤ g 3 ∧ g 3 ≤ 3) ∧ (2 ≤ g 4 ∧ g 4 ≤ 6) ∧ (0 ≤ g 5 ∧ g 5 ≤ 9) ∧ (0 ≤ g 6 ∧ g 6 ≤ 100000) ∧ (1 ≤ g 7 ∧ g 7 ≤ 4)
theorem upI_bd {a b : Int} (ha : 0 ≤ a) (hb : 1 ≤ b) : 0 ≤ upI a b ∧ upI a b ≤ a := by
  unfold upI
  constructor
  · exact Int.ediv_nonneg (by omega) (by omega)
  · have h1 : a + b - 1 < (a + 1) * b := by
      have h2 : a * 1 ≤ a * b := Int.mul_le_mul_of_nonneg_left hb ha
      rw [Int.add_mul]
      omega
    have h3 := Int.ediv_lt_of_lt_mul (by omega : 0 < b) h1
    omega
theorem fcS_bd {g u : Int → Int} {m h k : Int} (hu : ∀ k, 0 ≤ k → k < 18 → -1 ≤ u (38 + 21 * m + k) ∧ u (38 + 21 * m + k) ≤ 9999) : 0 ≤ fcS g u m h k ∧ fcS g u m h k ≤ 9999 := by
  unfold fcS
  split
  · rename_i hc
    simp only [fcP, Bool.and_eq_true, decide_eq_true_eq] at hc
    have := hu (k * g 4 - h - 1) (by omega) (by omega)
    omega
  · omega
theorem fcM_bd (g u : Int → Int) (m h k : Int) : 0 ≤ fcM g u m h k ∧ fcM g u m h k ≤ 1 := by
  unfold fcM
  split <;> omega
theorem foreV_bd {g u : Int → Int} {m h : Int} (hu : ∀ k, 0 ≤ k → k < 18 → -1 ≤ u (38 + 21 * m + k) ∧ u (38 + 21 * m + k) ≤ 9999) : 0 ≤ foreV g u m h ∧ foreV g u m h ≤ 30000 := by
  have s1 := fcS_bd (g := g) (h := h) (k := 1) hu
  have s2 := fcS_bd (g := g) (h := h) (k := 2) hu
  have s3 := fcS_bd (g := g) (h := h) (k := 3) hu
  have m1 := fcM_bd g u m h 1
  have m2 := fcM_bd g u m h 2
  have m3 := fcM_bd g u m h 3
  unfold foreV
  split
  · omega
  · have := upI_bd (a := fcS g u m h 1 + fcS g u m h 2 + fcS g u m h 3) (b := fcM g u m h 1 + fcM g u m h 2 + fcM g u m h 3) (by omega) (by omega)
    omega
theorem cntV_bd {u : Int → Int} (hB : BV u) : 0 ≤ cntV u ∧ cntV u ≤ 20 ∧ 0 ≤ u 10 ∧ u 10 ≤ 20 := by
  obtain ⟨-, -, -, -, -, -, -, -, -, -, -, hb, hc, -⟩ := hB
  unfold cntV at hc ⊢
  omega
theorem wantV_bd {g u : Int → Int} {m x : Int} (hB : BV u) (hm : 0 ≤ m ∧ m < u 9) (hx : -1 ≤ x ∧ x ≤ 9999) : 0 ≤ wantV g u m x ∧ wantV g u m x ≤ 300000 := by
  have hc := cntV_bd hB
  obtain ⟨-, -, -, -, -, -, -, -, -, -, -, -, -, -, -, -, -, hM⟩ := hB
  obtain ⟨hk, ht, -, hp⟩ := hM m hm.1 hm.2
  have hf := foreV_bd (g := g) (h := g 1) hp
  unfold wantV
  split
  · omega
  split
  · have := upI_bd (a := x) (b := u (36 + 21 * m)) (by omega) (by omega); omega
  split
  · have := upI_bd (a := max (foreV g u m (g 1)) x) (b := u (36 + 21 * m)) (by omega) (by omega); omega
  split
  · by_cases ha : 10 * (if u (36 + 21 * m) < x then x - u (36 + 21 * m) else u (36 + 21 * m) - x) ≤ u (36 + 21 * m)
    · rw [if_pos ha]; omega
    · rw [if_neg ha]
      have h1 : 0 ≤ (if u 10 = 0 then 1 else u 10) ∧ (if u 10 = 0 then 1 else u 10) ≤ 20 := by split <;> omega
      generalize (if u 10 = 0 then 1 else u 10) = y at h1 ⊢
      have h2 : 0 ≤ y * x := Int.mul_nonneg h1.1 (by omega)
      have h3 : y * x ≤ 20 * x := Int.mul_le_mul_of_nonneg_right h1.2 (by omega)
      have := upI_bd (a := y * x) (b := u (36 + 21 * m)) h2 (by omega)
      omega
  split
  · have h1 : 0 ≤ (x - 1) / u (36 + 21 * m) := Int.ediv_nonneg (by omega) (by omega)
    have h2 : (x - 1) / u (36 + 21 * m) ≤ x - 1 := Int.ediv_le_self _ (by omega)
    omega
  · split <;> omega
theorem mxN_bd {g u : Int → Int} (hB : BV u) : ∀ k : Nat, (k : Int) ≤ u 9 → 0 ≤ mxN g u k ∧ mxN g u k ≤ 300000
  | 0, _ => by
    obtain ⟨h0, -⟩ := hB
    show 0 ≤ (if u 9 = 0 then u 0 else 0) ∧ (if u 9 = 0 then u 0 else 0) ≤ 300000
    split <;> omega
  | k + 1, hk => by
    have h1 := mxN_bd (g := g) hB k (by omega)
    have hB2 := hB
    obtain ⟨-, -, -, -, -, -, -, -, -, -, -, -, -, -, -, -, -, hM⟩ := hB2
    obtain ⟨-, -, hv, -⟩ := hM (k : Int) (by omega) (by omega)
    have h2 := wantV_bd (g := g) (m := (k : Int)) (x := u (37 + 21 * (k : Int))) hB (by omega) hv
    show 0 ≤ max (mxN g u k) _ ∧ max (mxN g u k) _ ≤ 300000
    omega
theorem wantedV_bd {g u : Int → Int} (hB : BV u) : 0 ≤ wantedV g u ∧ wantedV g u ≤ 300000 := by
  have hB2 := hB
  obtain ⟨-, -, -, -, -, -, -, -, -, -, h9, -⟩ := hB2
  exact mxN_bd hB _ (by omega)
theorem lowN_bd {x : Int} {u : Int → Int} (hx : 0 ≤ x ∧ x ≤ 300000) (hu : ∀ k, 18 ≤ k → k ≤ 23 → 0 ≤ u k ∧ u k ≤ 300000) : ∀ k : Nat, k ≤ 6 → (0 ≤ lowN x u k ∧ lowN x u k ≤ 300000) ∧ (0 ≤ highN x u k ∧ highN x u k ≤ 300000)
  | 0, _ => ⟨hx, hx⟩
  | k + 1, hk => by
    have h1 := lowN_bd hx hu k (by omega)
    have h2 := hu (18 + (k : Int)) (by omega) (by omega)
    show (0 ≤ min (lowN x u k) _ ∧ min (lowN x u k) _ ≤ 300000) ∧ (0 ≤ max (highN x u k) _ ∧ max (highN x u k) _ ≤ 300000)
    omega
/-! THE MODEL's methods, first -/
section M1
variable {μ : Mem} {r s m : Int} {g : Int → Int} {v W : Mem} {Q : PV → Mem → Prop}
theorem qX5_at {ν : Mem} {t : Int} (h : Q (0, 400 * r + 8 + 98 * s + t) ν) : MetP mX5_at [(0, r), (0, s), (0, t)] ν Q := by
  refine MetP.go snX5_at [] 100 rfl rfl rfl rfl (fun _ => ?_)
  exact h
theorem qX5_atMeasure {ν : Mem} {t : Int} (h : Q (0, 400 * r + 8 + 98 * s + (35 + 21 * m + t)) ν) : MetP mX5_atMeasure [(0, r), (0, s), (0, m), (0, t)] ν Q := by
  refine MetP.go snX5_atMeasure [] 100 rfl rfl rfl rfl (fun _ => ?_)
  refine qX5_at ?_
  exact h
theorem qX5_up {ν : Mem} {a b : Int} (ha : 0 ≤ a ∧ a ≤ 100000000) (hb : 1 ≤ b ∧ b ≤ 100000) (h : Q (0, upI a b) ν) : MetP mX5_up [(0, a), (0, b)] ν Q := by
  refine MetP.go snX5_up [] 100 rfl rfl rfl rfl (fun _ => ?_)
  refine ⟨by omega, ?_⟩
  exact h
theorem qX5_of (k : Int) (hr : 0 ≤ r ∧ r ≤ 12) (hk : 0 ≤ k ∧ k < 8) (h : Q (0, g k) (wk μ r g v W)) : MetP mX5_of [(105, 0), (0, r), (0, k)] (wk μ r g v W) Q := by
  refine MetP.go snX5_of [] 100 rfl rfl rfl rfl (fun _ => ?_)
  refine ⟨by omega, fun x e => ?_⟩
  obtain rfl := e.trans (rd_g k rfl rfl hk)
  exact h
theorem qX5_lays {x : Int} (k : Int) (hr : 0 ≤ r ∧ r ≤ 12) (hk : 0 ≤ k ∧ k < 8) (h : Q (9, 0) (wk μ r (upg g k x) v W)) : MetP mX5_lays [(105, 0), (0, r), (0, k), (0, x)] (wk μ r g v W) Q := by
  refine MetP.go snX5_lays [] 100 rfl rfl rfl rfl (fun _ => ?_)
  refine ⟨by omega, fun ν d => ?_⟩
  obtain rfl := d.trans (wr_g k rfl rfl hk)
  exact h
theorem qX5_countOf (hr : 0 ≤ r ∧ r ≤ 12) (hs : 0 ≤ s ∧ s < 4) (h : Q (0, cntV (v s)) (wk μ r g v W)) : MetP mX5_countOf [(105, 0), (0, r), (0, s)] (wk μ r g v W) Q := by
  refine MetP.go snX5_countOf [] 300 rfl rfl rfl rfl (fun _ => ?_)
  refine qX5_at ?_
  refine ⟨by omega, fun x e => ?_⟩
  obtain rfl := e.trans (rd_v s 10 rfl (by omega) (by omega))
  refine ⟨by omega, by omega, fun q => absurd q (by omega), fun _ => ?_⟩
  refine qX5_at ?_
  refine ⟨by omega, fun x e => ?_⟩
  obtain rfl := e.trans (rd_v s 11 rfl (by omega) (by omega))
  refine ⟨by omega, by omega, fun q => absurd q (by omega), fun _ => ?_⟩
  refine qX5_at ?_
  refine ⟨by omega, fun x e => ?_⟩
  obtain rfl := e.trans (rd_v s 12 rfl (by omega) (by omega))
  refine ⟨by omega, by omega, fun q => absurd q (by omega), fun _ => ?_⟩
  refine qX5_at ?_
  refine ⟨by omega, fun x e => ?_⟩
  obtain rfl := e.trans (rd_v s 13 rfl (by omega) (by omega))
  refine ⟨by omega, by omega, fun q => absurd q (by omega), fun _ => ?_⟩
  refine qX5_at ?_
  refine ⟨by omega, fun x e => ?_⟩
  obtain rfl := e.trans (rd_v s 14 rfl (by omega) (by omega))
  refine ⟨by omega, by omega, fun q => absurd q (by omega), fun _ => ?_⟩
  refine qX5_at ?_
  refine ⟨by omega, fun x e => ?_⟩
  obtain rfl := e.trans (rd_v s 15 rfl (by omega) (by omega))
  refine ⟨by omega, by omega, fun q => absurd q (by omega), fun _ => ?_⟩
  refine qX5_at ?_
  refine ⟨by omega, fun x e => ?_⟩
  obtain rfl := e.trans (rd_v s 16 rfl (by omega) (by omega))
  refine ⟨by omega, by omega, fun q => absurd q (by omega), fun _ => ?_⟩
  refine qX5_at ?_
  refine ⟨by omega, fun x e => ?_⟩
  obtain rfl := e.trans (rd_v s 17 rfl (by omega) (by omega))
  refine ⟨by omega, by omega, fun _ => ?_, fun q => absurd q (by omega)⟩
  exact h
theorem qX5_allCounts_loop (hr : 0 ≤ r ∧ r ≤ 12) (hn : 1 ≤ g 7 ∧ g 7 ≤ 4) (h : Q (0, sumI (fun s => cntV (v s)) (g 7)) (wk μ r g v W)) : ∀ (d : Nat) (s a : Int), 0 ≤ s → s + d = g 7 → a = sumI (fun s => cntV (v s)) s → OkE mX5_allCounts 4 [(105, 0), (0, r), (0, a), (0, s)] [] (wk μ r g v W) Q
  | 0, s, a, h0, hd, ha => by
    refine OkE.go snX5_allCounts [4] 100 ?_
    refine qX5_of 7 hr (by omega) ?_
    refine ⟨by omega, by omega, fun _ => ?_, fun q => absurd q (by omega)⟩
    have e : s = g 7 := by omega
    rw [ha, e]
    exact h
  | d + 1, s, a, h0, hd, ha => by
    refine OkE.go snX5_allCounts [4] 100 ?_
    refine qX5_of 7 hr (by omega) ?_
    refine ⟨by omega, by omega, fun q => absurd q (by omega), fun _ => ?_⟩
    refine qX5_countOf hr (by omega) ?_
    exact qX5_allCounts_loop hr hn h d (s + 1) _ (by omega) (by omega) (by rw [sumI_succ _ h0, ha])
theorem qX5_allCounts (hr : 0 ≤ r ∧ r ≤ 12) (hn : 1 ≤ g 7 ∧ g 7 ≤ 4) (h : Q (0, sumI (fun s => cntV (v s)) (g 7)) (wk μ r g v W)) : MetP mX5_allCounts [(105, 0), (0, r)] (wk μ r g v W) Q := by
  refine MetP.go snX5_allCounts [4] 100 rfl rfl rfl rfl (fun _ => ?_)
  exact qX5_allCounts_loop hr hn h (g 7).toNat 0 0 (by omega) (by omega) rfl
theorem qX5_pastOf (hr : 0 ≤ r ∧ r ≤ 12) (hn : 0 ≤ g 6 ∧ g 6 ≤ 100000) (h : Q (0, min (g 6) 18) (wk μ r g v W)) : MetP mX5_pastOf [(105, 0), (0, r)] (wk μ r g v W) Q := by
  refine MetP.go snX5_pastOf [] 100 rfl rfl rfl rfl (fun _ => ?_)
  refine qX5_of 6 hr (by omega) ?_
  refine ⟨by omega, by omega, fun q => ?_, fun q => ?_⟩
  · rw [show min (g 6) 18 = 18 by omega] at h
    exact h
  refine qX5_of 6 hr (by omega) ?_
  rw [show min (g 6) 18 = g 6 by omega] at h
  exact h
theorem fc_step (g u : Int → Int) (m h k : Int) : (fcP g u m h k = true ∧ fcS g u m h k = u (38 + 21 * m + (k * g 4 - h - 1)) ∧ fcM g u m h k = 1) ∨ (¬ fcP g u m h k = true ∧ fcS g u m h k = 0 ∧ fcM g u m h k = 0) := by
  unfold fcS fcM
  by_cases hp : fcP g u m h k = true
  · rw [if_pos hp, if_pos hp]; exact Or.inl ⟨hp, rfl, rfl⟩
  · rw [if_neg hp, if_neg hp]; exact Or.inr ⟨hp, rfl, rfl⟩
/-- one turn of forecastOf's loop -/
theorem qX5_fc_turn {hh k a b o8 : Int} {t8 : Nat} (hr : 0 ≤ r ∧ r ≤ 12) (hs : 0 ≤ s ∧ s < 4) (hm : 0 ≤ m ∧ m < 3) (hG : BG g) (hh0 : 0 ≤ hh ∧ hh ≤ 12) (hk : 1 ≤ k ∧ k ≤ 3) (hp : ∀ k, 0 ≤ k → k < 18 → -1 ≤ v s (38 + 21 * m + k) ∧ v s (38 + 21 * m + k) ≤ 9999)
    (h : ∀ o : Int, OkE mX5_forecastOf 9 [(105, 0), (0, r), (0, s), (0, m), (0, hh), (0, a + fcS g (v s) m hh k), (0, b + fcM g (v s) m hh k), (0, k + 1), (0, o)] [] (wk μ r g v W) Q) : OkE mX5_forecastOf 9 [(105, 0), (0, r), (0, s), (0, m), (0, hh), (0, a), (0, b), (0, k), (t8, o8)] [] (wk μ r g v W) Q := by
  obtain ⟨g0, g1, g2, g3, g4, g5, g6, g7⟩ := hG
  have hkg : 0 ≤ k * g 4 ∧ k * g 4 ≤ 18 := by
    rcases (show k = 1 ∨ k = 2 ∨ k = 3 by omega) with rfl | rfl | rfl <;> omega
  refine OkE.go snX5_forecastOf [9] 100 ?_
  refine ⟨by omega, by omega, fun q => absurd q (by omega), fun _ => ?_⟩
  refine qX5_of 4 hr (by omega) ?_
  refine ⟨by omega, ?_⟩
  refine qX5_pastOf hr g6 ?_
  refine ⟨by omega, ?_⟩
  have hc := fc_step g (v s) m hh k
  refine qX5_in (by omega) (by omega) (by omega) (fun q => ?_) (fun q => ?_)
  · refine ⟨by omega, fun q2 => absurd q2 (by omega), fun _ => ?_⟩
    refine qX5_atMeasure ?_
    refine ⟨by omega, fun x e => ?_⟩
    obtain rfl := e.trans (rd_v s (38 + 21 * m + (k * g 4 - hh - 1)) rfl (by omega) (by omega))
    have hb := hp (k * g 4 - hh - 1) (by omega) (by omega)
    refine ⟨by omega, fun q3 => ?_, fun q3 => ?_⟩
    · rcases hc with ⟨c1, c2, c3⟩ | ⟨c1, c2, c3⟩
      · simp only [fcP, Bool.and_eq_true, decide_eq_true_eq] at c1
        exact absurd q3 (by omega)
      · have h2 := h (k * g 4 - hh - 1)
        rw [c2, c3, Int.add_zero, Int.add_zero] at h2
        exact h2
    · refine qX5_atMeasure ?_
      refine ⟨by omega, fun x e => ?_⟩
      obtain rfl := e.trans (rd_v s (38 + 21 * m + (k * g 4 - hh - 1)) rfl (by omega) (by omega))
      rcases hc with ⟨c1, c2, c3⟩ | ⟨c1, c2, c3⟩
      · have h2 := h (k * g 4 - hh - 1)
        rw [c2, c3] at h2
        exact h2
      · exfalso
        simp only [fcP, Bool.and_eq_true, decide_eq_true_eq] at c1
        omega
  · refine ⟨by omega, fun _ => ?_, fun q2 => absurd q2 (by omega)⟩
    rcases hc with ⟨c1, c2, c3⟩ | ⟨c1, c2, c3⟩
    · simp only [fcP, Bool.and_eq_true, decide_eq_true_eq] at c1
      exfalso; omega
    · have h2 := h (k * g 4 - hh - 1)
      rw [c2, c3, Int.add_zero, Int.add_zero] at h2
      exact h2
theorem qX5_forecastOf {hh : Int} (hr : 0 ≤ r ∧ r ≤ 12) (hs : 0 ≤ s ∧ s < 4) (hm : 0 ≤ m ∧ m < 3) (hG : BG g) (hh0 : 0 ≤ hh ∧ hh ≤ 12) (hp : ∀ k, 0 ≤ k → k < 18 → -1 ≤ v s (38 + 21 * m + k) ∧ v s (38 + 21 * m + k) ≤ 9999) (h : Q (0, foreV g (v s) m hh) (wk μ r g v W)) : MetP mX5_forecastOf [(105, 0), (0, r), (0, s), (0, m), (0, hh)] (wk μ r g v W) Q := by
  have s1 := fcS_bd (g := g) (h := hh) (k := 1) hp
  have s2 := fcS_bd (g := g) (h := hh) (k := 1 + 1) hp
  have s3 := fcS_bd (g := g) (h := hh) (k := 1 + 1 + 1) hp
  have m1 := fcM_bd g (v s) m hh 1
  have m2 := fcM_bd g (v s) m hh (1 + 1)
  have m3 := fcM_bd g (v s) m hh (1 + 1 + 1)
  refine MetP.go snX5_forecastOf [9] 100 rfl rfl rfl rfl (fun _ => ?_)
  refine qX5_fc_turn (k := 1) hr hs hm hG hh0 (by omega) hp (fun o => ?_)
  refine qX5_fc_turn (k := 1 + 1) hr hs hm hG hh0 (by omega) hp (fun o => ?_)
  refine qX5_fc_turn (k := 1 + 1 + 1) hr hs hm hG hh0 (by omega) hp (fun o => ?_)
  have e : foreV g (v s) m hh = if 0 + fcM g (v s) m hh 1 + fcM g (v s) m hh (1 + 1) + fcM g (v s) m hh (1 + 1 + 1) = 0 then 0 else upI (0 + fcS g (v s) m hh 1 + fcS g (v s) m hh (1 + 1) + fcS g (v s) m hh (1 + 1 + 1)) (0 + fcM g (v s) m hh 1 + fcM g (v s) m hh (1 + 1) + fcM g (v s) m hh (1 + 1 + 1)) := by
    rw [Int.zero_add, Int.zero_add]; rfl
  rw [e] at h
  refine OkE.go snX5_forecastOf [9] 100 ?_
  refine ⟨by omega, by omega, fun _ => ?_, fun q => absurd q (by omega)⟩
  refine ⟨by omega, fun q => ?_, fun q => ?_⟩
  · rw [if_neg (by omega)] at h
    refine qX5_up (by omega) (by omega) ?_
    exact h
  · rw [if_pos (by omega)] at h
    exact h
end M1
