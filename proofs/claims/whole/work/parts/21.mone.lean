/-! step 4: one service gets servers -/
abbrev GS : Type := (Int → Int) × Mem × Mem
def someV (x : GS) (s : Int) : Int := min (x.2.2 5 s - x.2.2 6 s) (x.1 0 - sumI (fun s => cntV (x.2.1 s)) (x.1 7))
def gotV (x : GS) (s : Int) : Int := max (someV x s) 0
def warmV (x : GS) (s : Int) : Int := min (gotV x s) (x.1 5)
def getV (u : Int → Int) (warm got cold : Int) : Int → Int := upg (upg u 12 (u 12 + warm)) (11 + cold) (upg u 12 (u 12 + warm) (11 + cold) + (got - warm))
def gone (x : GS) (s : Int) : GS := (upg x.1 5 (x.1 5 - warmV x s), setS x.2.1 s (getV (x.2.1 s) (warmV x s) (gotV x s) (x.1 1)), upm x.2.2 8 s (gotV x s))
theorem sumN_bdB {f : Int → Int} {B : Int} (hB : 0 ≤ B) : ∀ n : Nat, (∀ k : Int, 0 ≤ k → k < n → 0 ≤ f k ∧ f k ≤ B) → 0 ≤ sumN f n ∧ sumN f n ≤ n * B
  | 0, _ => by simp [sumN]
  | n + 1, h => by
    have h1 := sumN_bdB (f := f) hB n (fun k hk hk2 => h k hk (by omega))
    have h2 := h (n : Int) (by omega) (by omega)
    show 0 ≤ sumN f n + f (n : Int) ∧ sumN f n + f (n : Int) ≤ ((n + 1 : Nat) : Int) * B
    rw [show (((n + 1 : Nat) : Int)) * B = n * B + B by rw [Int.natCast_add, Int.add_mul]; omega]
    omega
theorem sumI_bd4 {f : Int → Int} {n B : Int} (hB : 0 ≤ B) (hn : 0 ≤ n ∧ n ≤ 4) (h : ∀ k : Int, 0 ≤ k → k < n → 0 ≤ f k ∧ f k ≤ B) : 0 ≤ sumI f n ∧ sumI f n ≤ 4 * B := by
  have h1 := sumN_bdB (f := f) hB n.toNat (fun k q1 q2 => h k q1 (by omega))
  have h2 : (n.toNat : Int) * B ≤ 4 * B := Int.mul_le_mul_of_nonneg_right (by omega) hB
  unfold sumI
  omega
theorem cnt_getV {u : Int → Int} {warm got cold : Int} (hc : 1 ≤ cold ∧ cold ≤ 6) : cntV (getV u warm got cold) = cntV u + got := by
  rcases (show cold = 1 ∨ cold = 2 ∨ cold = 3 ∨ cold = 4 ∨ cold = 5 ∨ cold = 6 by omega) with rfl | rfl | rfl | rfl | rfl | rfl <;> simp [cntV, getV, upg] <;> omega
/-- what step 4 keeps -/
def OKG (x : GS) (B : Int) : Prop := (1 ≤ x.1 1 ∧ x.1 1 ≤ 6) ∧ (1 ≤ x.1 0 ∧ x.1 0 ≤ 60) ∧ (0 ≤ x.1 5 ∧ x.1 5 ≤ 9) ∧ (1 ≤ x.1 7 ∧ x.1 7 ≤ 4) ∧ ∀ s, 0 ≤ s → s < x.1 7 → (0 ≤ x.2.2 5 s ∧ x.2.2 5 s ≤ 20) ∧ (0 ≤ x.2.2 6 s ∧ x.2.2 6 s ≤ 20) ∧ (0 ≤ cntV (x.2.1 s) ∧ cntV (x.2.1 s) ≤ B)
theorem gotV_bd {x : GS} {B s : Int} (h : OKG x B) (hs : 0 ≤ s ∧ s < x.1 7) : (0 ≤ gotV x s ∧ gotV x s ≤ 20) ∧ (0 ≤ warmV x s ∧ warmV x s ≤ x.1 5) := by
  obtain ⟨-, -, h5, -, hh⟩ := h
  obtain ⟨a1, a2, a3⟩ := hh s hs.1 hs.2
  unfold gotV warmV gotV someV
  omega
theorem OKG.gone {x : GS} {B s : Int} (h : OKG x B) (hs : 0 ≤ s ∧ s < x.1 7) : OKG (gone x s) (B + 20) := by
  have hb := gotV_bd h hs
  obtain ⟨h1, h0, h5, h7, hh⟩ := h
  have e1 : ∀ k, k ≠ 5 → upg x.1 5 (x.1 5 - warmV x s) k = x.1 k := fun k hk => by unfold upg; rw [if_neg hk]
  have e5 : upg x.1 5 (x.1 5 - warmV x s) 5 = x.1 5 - warmV x s := by unfold upg; rw [if_pos rfl]
  show (1 ≤ upg x.1 5 (x.1 5 - warmV x s) 1 ∧ upg x.1 5 (x.1 5 - warmV x s) 1 ≤ 6) ∧ (1 ≤ upg x.1 5 (x.1 5 - warmV x s) 0 ∧ upg x.1 5 (x.1 5 - warmV x s) 0 ≤ 60) ∧ (0 ≤ upg x.1 5 (x.1 5 - warmV x s) 5 ∧ upg x.1 5 (x.1 5 - warmV x s) 5 ≤ 9) ∧ (1 ≤ upg x.1 5 (x.1 5 - warmV x s) 7 ∧ upg x.1 5 (x.1 5 - warmV x s) 7 ≤ 4) ∧ ∀ s', 0 ≤ s' → s' < upg x.1 5 (x.1 5 - warmV x s) 7 → (0 ≤ upm x.2.2 8 s (gotV x s) 5 s' ∧ upm x.2.2 8 s (gotV x s) 5 s' ≤ 20) ∧ (0 ≤ upm x.2.2 8 s (gotV x s) 6 s' ∧ upm x.2.2 8 s (gotV x s) 6 s' ≤ 20) ∧ (0 ≤ cntV (setS x.2.1 s (getV (x.2.1 s) (warmV x s) (gotV x s) (x.1 1)) s') ∧ cntV (setS x.2.1 s (getV (x.2.1 s) (warmV x s) (gotV x s) (x.1 1)) s') ≤ B + 20)
  rw [e1 1 (by omega), e1 0 (by omega), e1 7 (by omega), e5]
  refine ⟨h1, h0, by omega, h7, fun s' q1 q2 => ?_⟩
  obtain ⟨a1, a2, a3⟩ := hh s' q1 q2
  rw [upm_ne (by omega), upm_ne (by omega)]
  refine ⟨a1, a2, ?_⟩
  by_cases hss : s' = s
  · subst hss
    rw [setS_at, cnt_getV h1]
    omega
  · have e : setS x.2.1 s (getV (x.2.1 s) (warmV x s) (gotV x s) (x.1 1)) s' = x.2.1 s' := by
      funext w
      unfold setS
      rw [if_neg hss]
    rw [e]
    omega
section M7
variable {μ : Mem} {r s m : Int} {g : Int → Int} {v W : Mem} {Q : PV → Mem → Prop}
theorem qX5_getsOne {B : Int} (hr : 0 ≤ r ∧ r ≤ 12) (hO : OKG (g, v, W) B) (hB : 0 ≤ B ∧ B ≤ 10000) (hs : 0 ≤ s ∧ s < g 7) (h : Q (9, 0) (wk μ r (gone (g, v, W) s).1 (gone (g, v, W) s).2.1 (gone (g, v, W) s).2.2)) : MetP mX5_getsOne [(105, 0), (0, r), (0, s)] (wk μ r g v W) Q := by
  have hgb := gotV_bd hO hs
  obtain ⟨h1, h0, h5, h7, hh⟩ := hO
  dsimp only at h1 h0 h5 h7 hh hgb
  obtain ⟨a1, a2, a3⟩ := hh s hs.1 hs.2
  have hsum := sumI_bd4 (f := fun s => cntV (v s)) (n := g 7) hB.1 (by omega) (fun k q1 q2 => (hh k q1 q2).2.2)
  have hsv : someV (g, v, W) s = min (W 5 s - W 6 s) (g 0 - sumI (fun s => cntV (v s)) (g 7)) := rfl
  have hgv : gotV (g, v, W) s = max (someV (g, v, W) s) 0 := rfl
  have hwv : warmV (g, v, W) s = min (gotV (g, v, W) s) (g 5) := rfl
  have e2 : (gone (g, v, W) s).2.1 = setS v s (getV (v s) (warmV (g, v, W) s) (gotV (g, v, W) s) (g 1)) := rfl
  have e1 : (gone (g, v, W) s).1 = upg g 5 (g 5 - warmV (g, v, W) s) := rfl
  have e3 : (gone (g, v, W) s).2.2 = upm W 8 s (gotV (g, v, W) s) := rfl
  rw [e1, e2, e3] at h
  generalize gotV (g, v, W) s = got at *
  generalize warmV (g, v, W) s = warm at *
  have J89 : ∀ z, z = warm → OkE mX5_getsOne 89 [(105, 0), (0, r), (0, s), (0, g 0 - sumI (fun s => cntV (v s)) (g 7)), (0, W 5 s - W 6 s), (0, someV (g, v, W) s), (9, 0)] [(0, z)] (wk μ r g v (upm W 8 s got)) Q := by
    intro z hz
    subst hz
    refine OkE.go snX5_getsOne [] 100 ?_
    refine qX5_of 5 hr (by omega) ?_
    refine qX5_lays 5 hr (by omega) ?_
    refine qX5_at ?_
    refine ⟨by omega, fun x1 f1 => ?_⟩
    obtain rfl := f1.trans (rd_v s 12 rfl (by omega) (by omega))
    refine ⟨by omega, fun ν d1 => ?_⟩
    obtain rfl := d1.trans ((wr_v s 12 rfl (by omega) (by omega)).trans (congrArg (fun q => wk μ r _ q _) ((congrArg (fun q => upm q s 12 _) (setS_self v s).symm).trans (setS_upm v s (v s) 12 _))))
    refine qX5_of 1 hr (by omega) ?_
    have eg : upg g 5 (g 5 - z) 1 = g 1 := by unfold upg; rw [if_neg (by omega)]
    rw [eg]
    refine qX5_at ?_
    refine ⟨by omega, fun x1 f1 => ?_⟩
    obtain rfl := f1.trans ((rd_v s (11 + g 1) rfl (by omega) (by omega)).trans (congrFun (setS_at v s _) _))
    refine ⟨by omega, fun x2 f2 => ?_⟩
    obtain rfl := f2.trans ((rd_W (by omega)).trans (upm_at W 8 s got))
    refine ⟨by omega, fun ν d1 => ?_⟩
    obtain rfl := d1.trans ((wr_v s (11 + g 1) rfl (by omega) (by omega)).trans (congrArg (fun q => wk μ r _ q _) (setS_upm v s _ _ _)))
    exact h
  have J58 : ∀ z, z = got → OkE mX5_getsOne 58 [(105, 0), (0, r), (0, s), (0, g 0 - sumI (fun s => cntV (v s)) (g 7)), (0, W 5 s - W 6 s), (0, someV (g, v, W) s), (9, 0)] [(0, z), (0, s), (1104, 0 + 8)] (wk μ r g v W) Q := by
    intro z hz
    subst hz
    refine OkE.go snX5_getsOne [89] 100 ?_
    refine ⟨by omega, fun ν d1 => ?_⟩
    obtain rfl := d1.trans (wr_W (by omega))
    refine ⟨by omega, fun x2 f2 => ?_⟩
    obtain rfl := f2.trans ((rd_W (by omega)).trans (upm_at W 8 s z))
    refine qX5_of 5 hr (by omega) ?_
    refine ⟨by omega, by omega, fun q => ?_, fun q => ?_⟩
    · refine qX5_of 5 hr (by omega) ?_
      exact J89 _ (by omega)
    · refine ⟨by omega, fun x3 f3 => ?_⟩
      obtain rfl := f3.trans ((rd_W (by omega)).trans (upm_at W 8 s _))
      exact J89 _ (by omega)
  have J40 : ∀ z, z = someV (g, v, W) s → OkE mX5_getsOne 40 [(105, 0), (0, r), (0, s), (0, g 0 - sumI (fun s => cntV (v s)) (g 7)), (0, W 5 s - W 6 s), (9, 0), (9, 0)] [(0, z)] (wk μ r g v W) Q := by
    intro z hz
    subst hz
    refine OkE.go snX5_getsOne [58] 100 ?_
    refine ⟨by omega, fun q => ?_, fun q => ?_⟩
    · exact J58 _ (by omega)
    · exact J58 _ (by omega)
  refine MetP.go snX5_getsOne [40] 100 rfl rfl rfl rfl (fun _ => ?_)
  refine qX5_of 0 hr (by omega) ?_
  refine qX5_allCounts hr (by omega) ?_
  refine ⟨by omega, fun x1 f1 => ?_⟩
  obtain rfl : x1 = W 5 s := f1.trans (rd_W (by omega))
  refine ⟨by omega, fun x1 f1 => ?_⟩
  obtain rfl : x1 = W 6 s := f1.trans (rd_W (by omega))
  refine ⟨by omega, by omega, fun q => ?_, fun q => ?_⟩
  · exact J40 _ (by omega)
  · exact J40 _ (by omega)
end M7
