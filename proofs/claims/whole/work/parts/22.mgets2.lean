def ahdB (ρ c d : Int → Int) (a b : Int) : Bool := decide (ρ b < ρ a) || (decide (ρ a = ρ b) && (decide (c a * d b < c b * d a) || (decide (c a * d b = c b * d a) && decide (a < b))))
theorem ahdB_iff {ρ c d : Int → Int} {a b : Int} : ahdB ρ c d a b = true ↔ ahd ρ c d a b := by
  unfold ahdB ahd
  simp only [Bool.or_eq_true, Bool.and_eq_true, decide_eq_true_eq]
def aheadN (v W : Mem) (k s : Int) : Bool := decide (k ≠ s) && (decide (W 6 k < W 5 k) && ahdB (fun s => v s 2) (W 6) (W 5) k s)
def plN (v W : Mem) (s : Int) : Nat → Int
  | 0 => 0
  | k + 1 => plN v W s k + (if aheadN v W (k : Int) s = true then 1 else 0)
def placeK (v W : Mem) (s : Int) (k : Nat) : Int := if W 6 s < W 5 s then plN v W s k else -1
def cntW (v : Mem) (i : Int) (W : Mem) : Mem := fun c j => if 0 ≤ j ∧ j < i ∧ c = 6 then cntV (v j) else if 0 ≤ j ∧ j < i ∧ c = 8 then 0 else W c j
def plTo (v W : Mem) (n : Nat) (i : Int) : Mem := fun c j => if c = 7 ∧ 0 ≤ j ∧ j < i then placeK v W j n else W c j
theorem cntW_0 (v W : Mem) : cntW v 0 W = W := by
  funext c j
  unfold cntW
  rw [if_neg (by omega), if_neg (by omega)]
theorem cntW_succ {v W : Mem} {i : Int} (hi : 0 ≤ i) : upm (upm (cntW v i W) 6 i (cntV (v i))) 8 i 0 = cntW v (i + 1) W := by
  funext c j
  unfold upm cntW
  by_cases h1 : c = 8 ∧ j = i
  · rw [if_pos h1, if_neg (show ¬ (0 ≤ j ∧ j < i + 1 ∧ c = 6) by omega), if_pos (show 0 ≤ j ∧ j < i + 1 ∧ c = 8 by omega)]
  · rw [if_neg h1]
    by_cases h2 : c = 6 ∧ j = i
    · rw [if_pos h2, if_pos (show 0 ≤ j ∧ j < i + 1 ∧ c = 6 by omega), h2.2]
    · rw [if_neg h2]
      by_cases h3 : 0 ≤ j ∧ j < i ∧ c = 6
      · rw [if_pos h3, if_pos (show 0 ≤ j ∧ j < i + 1 ∧ c = 6 by omega)]
      · rw [if_neg h3, if_neg (show ¬ (0 ≤ j ∧ j < i + 1 ∧ c = 6) by omega)]
        by_cases h4 : 0 ≤ j ∧ j < i ∧ c = 8
        · rw [if_pos h4, if_pos (show 0 ≤ j ∧ j < i + 1 ∧ c = 8 by omega)]
        · rw [if_neg h4, if_neg (show ¬ (0 ≤ j ∧ j < i + 1 ∧ c = 8) by omega)]
theorem plTo_0 (v W : Mem) (n : Nat) : plTo v W n 0 = W := by
  funext c j
  unfold plTo
  rw [if_neg (by omega)]
theorem plTo_succ {v W : Mem} {n : Nat} {i : Int} (hi : 0 ≤ i) : upm (plTo v W n i) 7 i (placeK v W i n) = plTo v W n (i + 1) := by
  funext c j
  unfold upm plTo
  by_cases h1 : c = 7 ∧ j = i
  · rw [if_pos h1, if_pos (show c = 7 ∧ 0 ≤ j ∧ j < i + 1 by omega), h1.2]
  · rw [if_neg h1]
    by_cases h2 : c = 7 ∧ 0 ≤ j ∧ j < i
    · rw [if_pos h2, if_pos (show c = 7 ∧ 0 ≤ j ∧ j < i + 1 by omega)]
    · rw [if_neg h2, if_neg (show ¬ (c = 7 ∧ 0 ≤ j ∧ j < i + 1) by omega)]
theorem plTo_ne {v W : Mem} {n : Nat} {i c : Int} (hc : c ≠ 7) : plTo v W n i c = W c := by
  funext j
  unfold plTo
  rw [if_neg (by omega)]
theorem upm_fun {W : Mem} {c j x a : Int} (h : a ≠ c) : upm W c j x a = W a := by
  funext b
  unfold upm
  rw [if_neg (by omega)]
theorem plN_bd (v W : Mem) (s : Int) : ∀ k : Nat, 0 ≤ plN v W s k ∧ plN v W s k ≤ k
  | 0 => by simp [plN]
  | k + 1 => by
    have := plN_bd v W s k
    show 0 ≤ plN v W s k + _ ∧ plN v W s k + _ ≤ ((k + 1 : Nat) : Int)
    split <;> omega
section M8
variable {μ : Mem} {r s m : Int} {g : Int → Int} {v W : Mem} {Q : PV → Mem → Prop}
theorem qX5_gets_1 {x4 : Int} {t4 : Nat} (hr : 0 ≤ r ∧ r ≤ 12) (hn : 1 ≤ g 7 ∧ g 7 ≤ 4) (h : OkE mX5_gets 42 [(105, 0), (0, r), (0, g 7), (0, 0), (t4, x4)] [] (wk μ r g v (cntW v (g 7) W)) Q) : ∀ (d : Nat) (i : Int), 0 ≤ i → i + d = g 7 → OkE mX5_gets 10 [(105, 0), (0, r), (0, g 7), (0, i), (t4, x4)] [] (wk μ r g v (cntW v i W)) Q
  | 0, i, h0, hd => by
    refine OkE.go snX5_gets [10, 42] 100 ?_
    refine ⟨by omega, by omega, fun _ => ?_, fun q => absurd q (by omega)⟩
    rw [show i = g 7 by omega]
    exact h
  | d + 1, i, h0, hd => by
    refine OkE.go snX5_gets [10, 42] 100 ?_
    refine ⟨by omega, by omega, fun q => absurd q (by omega), fun _ => ?_⟩
    refine qX5_countOf hr (by omega) ?_
    refine ⟨by omega, fun ν d1 => ?_⟩
    obtain rfl := d1.trans (wr_W (by omega))
    refine ⟨by omega, fun ν d2 => ?_⟩
    obtain rfl := d2.trans (wr_W (by omega))
    have ih := qX5_gets_1 hr hn h d (i + 1) (by omega) (by omega)
    rw [← cntW_succ h0] at ih
    exact ih
/-- the inner loop of the places -/
theorem qX5_gets_2i (hr : 0 ≤ r ∧ r ≤ 12) (hn : 1 ≤ g 7 ∧ g 7 ≤ 4) (hs : 0 ≤ s ∧ s < g 7) (hcd : ∀ k, 0 ≤ k → k < g 7 → (0 ≤ W 5 k ∧ W 5 k ≤ 20) ∧ (0 ≤ W 6 k ∧ W 6 k ≤ 20) ∧ (0 ≤ v k 2 ∧ v k 2 ≤ 9)) (h : OkE mX5_gets 42 [(105, 0), (0, r), (0, g 7), (0, s + 1), (0, g 7)] [] (wk μ r g v (plTo v W (g 7).toNat (s + 1))) Q) : ∀ (d k : Nat), (k : Int) + d = g 7 → OkE mX5_gets 76 [(105, 0), (0, r), (0, g 7), (0, s), (0, (k : Int))] [] (wk μ r g v (upm (plTo v W (g 7).toNat s) 7 s (placeK v W s k))) Q
  | 0, k, hd => by
    refine OkE.go snX5_gets [76, 42] 100 ?_
    refine ⟨by omega, by omega, fun _ => ?_, fun q => absurd q (by omega)⟩
    rw [show k = (g 7).toNat by omega, plTo_succ hs.1, show ((g 7).toNat : Int) = g 7 by omega]
    exact h
  | d + 1, k, hd => by
    have ih := qX5_gets_2i hr hn hs hcd h d (k + 1) (by omega)
    have hp := plN_bd v W s k
    have hpb : -1 ≤ placeK v W s k ∧ placeK v W s k ≤ 4 := by unfold placeK; split <;> omega
    obtain ⟨s5, s6, s2⟩ := hcd s hs.1 hs.2
    obtain ⟨k5, k6, k2⟩ := hcd (k : Int) (by omega) (by omega)
    have E6 : upm (plTo v W (g 7).toNat s) 7 s (placeK v W s k) 6 = W 6 := (upm_fun (by omega)).trans (plTo_ne (by omega))
    have E5 : upm (plTo v W (g 7).toNat s) 7 s (placeK v W s k) 5 = W 5 := (upm_fun (by omega)).trans (plTo_ne (by omega))
    have J : ∀ z, placeK v W s k + z = placeK v W s (k + 1) → OkE mX5_gets 137 [(105, 0), (0, r), (0, g 7), (0, s), (0, (k : Int))] [(0, z), (0, placeK v W s k), (0, s), (1104, 0 + 7)] (wk μ r g v (upm (plTo v W (g 7).toNat s) 7 s (placeK v W s k))) Q := by
      intro z hz
      refine OkE.go snX5_gets [76] 100 ?_
      refine ⟨by omega, fun ν d1 => ?_⟩
      obtain rfl := d1.trans ((wr_W (by omega)).trans (congrArg _ (upm_upm _ 7 s _ _)))
      rw [hz]
      exact ih
    have hz0 : ¬ (aheadN v W (k : Int) s = true ∧ W 6 s < W 5 s) → placeK v W s k + 0 = placeK v W s (k + 1) := by
      intro hq
      unfold placeK
      by_cases hnd : W 6 s < W 5 s
      · rw [if_pos hnd, if_pos hnd]
        show plN v W s k + 0 = plN v W s k + (if aheadN v W (k : Int) s = true then 1 else 0)
        rw [if_neg (fun e => hq ⟨e, hnd⟩)]
      · rw [if_neg hnd, if_neg hnd]; rfl
    have hz1 : aheadN v W (k : Int) s = true → W 6 s < W 5 s → placeK v W s k + 1 = placeK v W s (k + 1) := by
      intro hq hnd
      unfold placeK
      rw [if_pos hnd, if_pos hnd]
      show plN v W s k + 1 = plN v W s k + (if aheadN v W (k : Int) s = true then 1 else 0)
      rw [if_pos hq]
    refine OkE.go snX5_gets [76, 42, 137] 100 ?_
    refine ⟨by omega, by omega, fun q => absurd q (by omega), fun _ => ?_⟩
    refine ⟨by omega, fun x1 f1 => ?_⟩
    obtain rfl := f1.trans ((rd_W (by omega)).trans (upm_at _ 7 s _))
    refine ⟨by omega, fun x2 f2 => ?_⟩
    obtain rfl := f2.trans ((rd_W (by omega)).trans (upm_at _ 7 s _))
    refine ⟨by omega, fun q => ?_, fun q => ?_⟩
    · refine J 0 (hz0 ?_)
      rintro ⟨-, hnd⟩
      unfold placeK at q
      rw [if_pos hnd] at q
      omega
    have hnd : W 6 s < W 5 s := by
      rcases Int.lt_or_le (W 6 s) (W 5 s) with hq | hq
      · exact hq
      · exfalso
        unfold placeK at q
        rw [if_neg (by omega)] at q
        omega
    refine ⟨by omega, by omega, fun q2 => ?_, fun q2 => ?_⟩
    · refine J 0 (hz0 ?_)
      rintro ⟨ha, -⟩
      unfold aheadN at ha
      simp only [Bool.and_eq_true, decide_eq_true_eq] at ha
      exact ha.1 q2
    refine ⟨by omega, fun x3 f3 => ?_⟩
    obtain rfl : x3 = W 6 (k : Int) := f3.trans ((rd_W (by omega)).trans (congrFun E6 _))
    refine ⟨by omega, fun x3 f3 => ?_⟩
    obtain rfl : x3 = W 5 (k : Int) := f3.trans ((rd_W (by omega)).trans (congrFun E5 _))
    refine ⟨by omega, by omega, fun q3 => ?_, fun q3 => ?_⟩
    · refine J 0 (hz0 ?_)
      rintro ⟨ha, -⟩
      unfold aheadN at ha
      simp only [Bool.and_eq_true, decide_eq_true_eq] at ha
      omega
    refine qX5_isAhead hr (by omega) (by omega) k2 s2 (by rw [E6]; omega) (by rw [E6]; omega) (by rw [E5]; omega) (by rw [E5]; omega) (fun ha => ?_) (fun ha => ?_)
    · rw [E6, E5] at ha
      refine ⟨by omega, fun q4 => absurd q4 (by omega), fun _ => ?_⟩
      refine J 1 (hz1 ?_ hnd)
      unfold aheadN
      simp only [Bool.and_eq_true, decide_eq_true_eq]
      exact ⟨q2, by omega, ahdB_iff.mpr ha⟩
    · rw [E6, E5] at ha
      refine ⟨by omega, fun _ => ?_, fun q4 => absurd rfl q4⟩
      refine J 0 (hz0 ?_)
      rintro ⟨hb, -⟩
      unfold aheadN at hb
      simp only [Bool.and_eq_true, decide_eq_true_eq] at hb
      exact ha (ahdB_iff.mp hb.2.2)
theorem qX5_gets_2 (hr : 0 ≤ r ∧ r ≤ 12) (hn : 1 ≤ g 7 ∧ g 7 ≤ 4) (hcd : ∀ k, 0 ≤ k → k < g 7 → (0 ≤ W 5 k ∧ W 5 k ≤ 20) ∧ (0 ≤ W 6 k ∧ W 6 k ≤ 20) ∧ (0 ≤ v k 2 ∧ v k 2 ≤ 9)) (h : ∀ (t4 : Nat) (x4 : Int), OkE mX5_gets 153 [(105, 0), (0, r), (0, g 7), (0, 0), (t4, x4)] [] (wk μ r g v (plTo v W (g 7).toNat (g 7))) Q) : ∀ (d : Nat) (i : Int) (t4 : Nat) (x4 : Int), 0 ≤ i → i + d = g 7 → OkE mX5_gets 42 [(105, 0), (0, r), (0, g 7), (0, i), (t4, x4)] [] (wk μ r g v (plTo v W (g 7).toNat i)) Q
  | 0, i, t4, x4, h0, hd => by
    refine OkE.go snX5_gets [42, 153] 100 ?_
    refine ⟨by omega, by omega, fun _ => ?_, fun q => absurd q (by omega)⟩
    rw [show i = g 7 by omega]
    exact h t4 x4
  | d + 1, i, t4, x4, h0, hd => by
    have ih := qX5_gets_2 hr hn hcd h d (i + 1) 0 (g 7) (by omega) (by omega)
    obtain ⟨s5, s6, s2⟩ := hcd i h0 (by omega)
    have hl := qX5_gets_2i hr hn ⟨h0, by omega⟩ hcd ih (g 7).toNat 0 (by omega)
    have J : ∀ z, z = placeK v W i 0 → OkE mX5_gets 72 [(105, 0), (0, r), (0, g 7), (0, i), (t4, x4)] [(0, z), (0, i), (1104, 0 + 7)] (wk μ r g v (plTo v W (g 7).toNat i)) Q := by
      intro z hz
      subst hz
      refine OkE.go snX5_gets [76] 100 ?_
      refine ⟨by omega, fun ν d1 => ?_⟩
      obtain rfl := d1.trans (wr_W (by omega))
      exact hl
    refine OkE.go snX5_gets [42, 72] 100 ?_
    refine ⟨by omega, by omega, fun q => absurd q (by omega), fun _ => ?_⟩
    refine ⟨by omega, fun x3 f3 => ?_⟩
    obtain rfl : x3 = W 6 i := f3.trans ((rd_W (by omega)).trans (congrFun (plTo_ne (by omega)) _))
    refine ⟨by omega, fun x3 f3 => ?_⟩
    obtain rfl : x3 = W 5 i := f3.trans ((rd_W (by omega)).trans (congrFun (plTo_ne (by omega)) _))
    refine ⟨by omega, by omega, fun q => ?_, fun q => ?_⟩
    · exact J _ (by unfold placeK; rw [if_neg (by omega)])
    · exact J _ (by unfold placeK; rw [if_pos (by omega)]; rfl)
end M8
/-! the giving out: turn by turn -/
def inN (t : Int) : Nat → GS → GS
  | 0, x => x
  | k + 1, x => if (inN t k x).2.2 7 (k : Int) = t then gone (inN t k x) (k : Int) else inN t k x
def outN (n : Nat) : Nat → GS → GS
  | 0, x => x
  | t + 1, x => inN (t : Int) n (outN n t x)
theorem OKG.mono {x : GS} {B B' : Int} (h : OKG x B) (hB : B ≤ B') : OKG x B' := by
  obtain ⟨h1, h0, h5, h7, hh⟩ := h
  exact ⟨h1, h0, h5, h7, fun s q1 q2 => ⟨(hh s q1 q2).1, (hh s q1 q2).2.1, (hh s q1 q2).2.2.1, Int.le_trans (hh s q1 q2).2.2.2 hB⟩⟩
theorem gone_keep (x : GS) (s : Int) : (∀ k, k ≠ 5 → (gone x s).1 k = x.1 k) ∧ (∀ c, c ≠ 8 → (gone x s).2.2 c = x.2.2 c) ∧ (∀ s', s' ≠ s → (gone x s).2.1 s' = x.2.1 s') := by
  refine ⟨fun k hk => ?_, fun c hc => ?_, fun s' hs => ?_⟩
  · show upg x.1 5 _ k = x.1 k
    unfold upg
    rw [if_neg hk]
  · exact upm_fun hc
  · funext w
    show setS x.2.1 s _ s' w = x.2.1 s' w
    unfold setS
    rw [if_neg hs]
theorem inN_keep (t : Int) : ∀ (k : Nat) (x : GS), (∀ j, j ≠ 5 → (inN t k x).1 j = x.1 j) ∧ (∀ c, c ≠ 8 → (inN t k x).2.2 c = x.2.2 c)
  | 0, x => ⟨fun _ _ => rfl, fun _ _ => rfl⟩
  | k + 1, x => by
    obtain ⟨h1, h2⟩ := inN_keep t k x
    show (∀ j, j ≠ 5 → (if (inN t k x).2.2 7 (k : Int) = t then gone (inN t k x) (k : Int) else inN t k x).1 j = x.1 j) ∧ (∀ c, c ≠ 8 → (if (inN t k x).2.2 7 (k : Int) = t then gone (inN t k x) (k : Int) else inN t k x).2.2 c = x.2.2 c)
    split
    · obtain ⟨g1, g2, -⟩ := gone_keep (inN t k x) (k : Int)
      exact ⟨fun j hj => (g1 j hj).trans (h1 j hj), fun c hc => (g2 c hc).trans (h2 c hc)⟩
    · exact ⟨h1, h2⟩
theorem outN_keep (n : Nat) : ∀ (t : Nat) (x : GS), (∀ j, j ≠ 5 → (outN n t x).1 j = x.1 j) ∧ (∀ c, c ≠ 8 → (outN n t x).2.2 c = x.2.2 c)
  | 0, x => ⟨fun _ _ => rfl, fun _ _ => rfl⟩
  | t + 1, x => by
    obtain ⟨h1, h2⟩ := outN_keep n t x
    obtain ⟨g1, g2⟩ := inN_keep (t : Int) n (outN n t x)
    exact ⟨fun j hj => (g1 j hj).trans (h1 j hj), fun c hc => (g2 c hc).trans (h2 c hc)⟩
theorem inN_ok {x : GS} {B t : Int} (h : OKG x B) : ∀ k : Nat, (k : Int) ≤ x.1 7 → OKG (inN t k x) (B + 20 * k)
  | 0, _ => h.mono (by omega)
  | k + 1, hk => by
    have h1 := inN_ok (t := t) h k (by omega)
    obtain ⟨k1, k2⟩ := inN_keep t k x
    unfold inN
    split
    · exact (h1.gone (s := (k : Int)) ⟨by omega, by rw [k1 7 (by omega)]; omega⟩).mono (by omega)
    · exact h1.mono (by omega)
theorem outN_ok {x : GS} {B : Int} {n : Nat} (h : OKG x B) (hn : (n : Int) = x.1 7) : ∀ t : Nat, OKG (outN n t x) (B + 80 * t)
  | 0 => h.mono (by omega)
  | t + 1 => by
    have h1 := outN_ok h hn t
    obtain ⟨k1, -⟩ := outN_keep n t x
    have h7 : x.1 7 ≤ 4 := h.2.2.2.1.2
    exact (inN_ok (t := (t : Int)) h1 n (by rw [k1 7 (by omega)]; omega)).mono (by omega)
section M9
variable {μ : Mem} {r s m : Int} {Q : PV → Mem → Prop}
theorem qX5_gets_3i {x : GS} {B t : Int} (hr : 0 ≤ r ∧ r ≤ 12) (hO : OKG x B) (hB : 0 ≤ B ∧ B ≤ 9000) (ht : 0 ≤ t ∧ t ≤ 4) (hp : ∀ k, 0 ≤ k → k < x.1 7 → -1 ≤ x.2.2 7 k ∧ x.2.2 7 k ≤ 4) (h : OkE mX5_gets 153 [(105, 0), (0, r), (0, x.1 7), (0, t + 1), (0, x.1 7)] [] (wk μ r (inN t (x.1 7).toNat x).1 (inN t (x.1 7).toNat x).2.1 (inN t (x.1 7).toNat x).2.2) Q) : ∀ (d k : Nat), (k : Int) + d = x.1 7 → OkE mX5_gets 161 [(105, 0), (0, r), (0, x.1 7), (0, t), (0, (k : Int))] [] (wk μ r (inN t k x).1 (inN t k x).2.1 (inN t k x).2.2) Q
  | 0, k, hd => by
    have h7 := hO.2.2.2.1
    refine OkE.go snX5_gets [161, 153] 100 ?_
    refine ⟨by omega, by omega, fun _ => ?_, fun q => absurd q (by omega)⟩
    rw [show k = (x.1 7).toNat by omega, show ((x.1 7).toNat : Int) = x.1 7 by omega]
    exact h
  | d + 1, k, hd => by
    have h7 := hO.2.2.2.1
    have ih := qX5_gets_3i hr hO hB ht hp h d (k + 1) (by omega)
    obtain ⟨k1, k2⟩ := inN_keep t k x
    have hok := inN_ok (t := t) hO k (by omega)
    have hpk := hp (k : Int) (by omega) (by omega)
    refine OkE.go snX5_gets [161, 153] 100 ?_
    refine ⟨by omega, by omega, fun q => absurd q (by omega), fun _ => ?_⟩
    refine ⟨by omega, fun x3 f3 => ?_⟩
    obtain rfl : x3 = x.2.2 7 (k : Int) := f3.trans ((rd_W (by omega)).trans (congrFun (k2 7 (by omega)) _))
    refine ⟨by omega, by omega, fun q => ?_, fun q => ?_⟩
    · have e : inN t (k + 1) x = inN t k x := by
        show (if (inN t k x).2.2 7 (k : Int) = t then _ else _) = _
        rw [if_neg (by rw [k2 7 (by omega)]; exact q)]
      rw [e] at ih
      exact ih
    · have e : inN t (k + 1) x = gone (inN t k x) (k : Int) := by
        show (if (inN t k x).2.2 7 (k : Int) = t then _ else _) = _
        rw [if_pos (by rw [k2 7 (by omega)]; omega)]
      rw [e] at ih
      refine qX5_getsOne (B := B + 20 * k) hr hok (by omega) ⟨by omega, by rw [k1 7 (by omega)]; omega⟩ ?_
      exact ih
theorem qX5_gets_3 {x : GS} {B : Int} (hr : 0 ≤ r ∧ r ≤ 12) (hO : OKG x B) (hB : 0 ≤ B ∧ B ≤ 1000) (hp : ∀ k, 0 ≤ k → k < x.1 7 → -1 ≤ x.2.2 7 k ∧ x.2.2 7 k ≤ 4) (h : Q (9, 0) (wk μ r (outN (x.1 7).toNat (x.1 7).toNat x).1 (outN (x.1 7).toNat (x.1 7).toNat x).2.1 (outN (x.1 7).toNat (x.1 7).toNat x).2.2)) : ∀ (d t : Nat) (t4 : Nat) (x4 : Int), (t : Int) + d = x.1 7 → OkE mX5_gets 153 [(105, 0), (0, r), (0, x.1 7), (0, (t : Int)), (t4, x4)] [] (wk μ r (outN (x.1 7).toNat t x).1 (outN (x.1 7).toNat t x).2.1 (outN (x.1 7).toNat t x).2.2) Q
  | 0, t, t4, x4, hd => by
    have h7 := hO.2.2.2.1
    refine OkE.go snX5_gets [153] 100 ?_
    refine ⟨by omega, by omega, fun _ => ?_, fun q => absurd q (by omega)⟩
    rw [show t = (x.1 7).toNat by omega]
    exact h
  | d + 1, t, t4, x4, hd => by
    have h7 := hO.2.2.2.1
    have ih := qX5_gets_3 hr hO hB hp h d (t + 1) 0 (x.1 7) (by omega)
    obtain ⟨k1, k2⟩ := outN_keep (x.1 7).toNat t x
    have hok := outN_ok hO (n := (x.1 7).toNat) (by omega) t
    have e7 := k1 7 (by omega)
    have hl := qX5_gets_3i (μ := μ) (t := (t : Int)) (Q := Q) hr hok (by omega) (by omega) (fun k q1 q2 => by rw [k2 7 (by omega)]; exact hp k q1 (by rw [e7] at q2; exact q2)) (by
      rw [e7]
      exact ih) (x.1 7).toNat 0 (by rw [e7]; omega)
    rw [e7] at hl
    refine OkE.go snX5_gets [153, 161] 100 ?_
    refine ⟨by omega, by omega, fun q => absurd q (by omega), fun _ => ?_⟩
    exact hl
/-- the state that step 4 begins with, and ends with -/
def getsW (v : Mem) (n : Int) (W : Mem) : Mem := plTo v (cntW v n W) n.toNat n
def getsX (g : Int → Int) (v W : Mem) : GS := outN (g 7).toNat (g 7).toNat (g, v, getsW v (g 7) W)
theorem getsW_6 {v W : Mem} {n k : Int} (hk : 0 ≤ k ∧ k < n) : getsW v n W 6 k = cntV (v k) := by
  unfold getsW
  rw [plTo_ne (by omega)]
  unfold cntW
  rw [if_pos (by omega)]
theorem getsW_5 {v W : Mem} {n : Int} : getsW v n W 5 = W 5 := by
  unfold getsW
  rw [plTo_ne (by omega)]
  funext j
  unfold cntW
  rw [if_neg (by omega), if_neg (by omega)]
theorem qX5_gets {g : Int → Int} {v W : Mem} (hr : 0 ≤ r ∧ r ≤ 12) (hG : BG g) (hB : ∀ k, 0 ≤ k → k < g 7 → (0 ≤ cntV (v k) ∧ cntV (v k) ≤ 20) ∧ (0 ≤ v k 2 ∧ v k 2 ≤ 9) ∧ (0 ≤ W 5 k ∧ W 5 k ≤ 20)) (h : Q (9, 0) (wk μ r (getsX g v W).1 (getsX g v W).2.1 (getsX g v W).2.2)) : MetP mX5_gets [(105, 0), (0, r)] (wk μ r g v W) Q := by
  obtain ⟨g0, g1, -, -, -, g5, -, g7⟩ := hG
  have hcd : ∀ k, 0 ≤ k → k < g 7 → (0 ≤ cntW v (g 7) W 5 k ∧ cntW v (g 7) W 5 k ≤ 20) ∧ (0 ≤ cntW v (g 7) W 6 k ∧ cntW v (g 7) W 6 k ≤ 20) ∧ (0 ≤ v k 2 ∧ v k 2 ≤ 9) := by
    intro k q1 q2
    obtain ⟨b1, b2, b3⟩ := hB k q1 q2
    have e5 : cntW v (g 7) W 5 k = W 5 k := by unfold cntW; rw [if_neg (by omega), if_neg (by omega)]
    have e6 : cntW v (g 7) W 6 k = cntV (v k) := by unfold cntW; rw [if_pos (by omega)]
    rw [e5, e6]
    exact ⟨b3, b1, b2⟩
  have hO : OKG (g, v, getsW v (g 7) W) 20 := by
    refine ⟨g1, g0, g5, g7, fun k q1 q2 => ?_⟩
    obtain ⟨b1, b2, b3⟩ := hB k q1 q2
    dsimp only at q2 ⊢
    rw [getsW_5, getsW_6 ⟨q1, q2⟩]
    exact ⟨b3, b1, b1⟩
  have hp : ∀ k, 0 ≤ k → k < g 7 → -1 ≤ getsW v (g 7) W 7 k ∧ getsW v (g 7) W 7 k ≤ 4 := by
    intro k q1 q2
    have hb := plN_bd v (cntW v (g 7) W) k (g 7).toNat
    unfold getsW plTo
    rw [if_pos (by omega)]
    unfold placeK
    split <;> omega
  have h3 := fun (t4 : Nat) (x4 : Int) => qX5_gets_3 (μ := μ) (x := (g, v, getsW v (g 7) W)) hr hO (by omega) hp h (g 7).toNat 0 t4 x4 (by show ((0 : Nat) : Int) + ((g 7).toNat : Int) = g 7; omega)
  have h2 := fun (t4 : Nat) (x4 : Int) => qX5_gets_2 (μ := μ) (W := cntW v (g 7) W) hr g7 hcd h3 (g 7).toNat 0 t4 x4 (by omega) (by omega)
  have h1 := qX5_gets_1 (μ := μ) (W := W) (t4 := 9) (x4 := 0) hr g7 (by have := h2 9 0; rw [plTo_0] at this; exact this) (g 7).toNat 0 (by omega) (by omega)
  rw [cntW_0] at h1
  refine MetP.go snX5_gets [10] 100 rfl rfl rfl rfl (fun _ => ?_)
  refine qX5_of 7 hr (by omega) ?_
  exact h1
end M9
