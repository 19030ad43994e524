theorem upm_upm (W : Mem) (c j x y : Int) : upm (upm W c j x) c j y = upm W c j y := by
  funext a b
  unfold upm
  split <;> rfl
theorem upm_comm (W : Mem) {c c' j j' x y : Int} (h : ¬ (c = c' ∧ j = j')) : upm (upm W c j x) c' j' y = upm (upm W c' j' y) c j x := by
  funext a b
  unfold upm
  by_cases h1 : a = c' ∧ b = j'
  · rw [if_pos h1, if_neg (by omega), if_pos h1]
  · rw [if_neg h1, if_neg h1]
section M3
variable {μ : Mem} {r s m : Int} {g : Int → Int} {v W : Mem} {Q : PV → Mem → Prop}
/-- weighs, from 331 on: the edges -/
theorem qX5_weighs_edge {b l3 l4 l5 l6 l7 l8 l9 l10 x11 : Int} {t11 : Nat} (hr : 0 ≤ r ∧ r ≤ 12) (hs : 0 ≤ s ∧ s < 4) (h0 : 0 ≤ v s 0 ∧ v s 0 ≤ 9) (h1 : 1 ≤ v s 1 ∧ v s 1 ≤ 20) (hb : -1000000 ≤ b ∧ b ≤ 1000000) (hW : W 4 s = b) (h : Q (9, 0) (wk μ r g v (upm W 5 s (min (max b (v s 0)) (v s 1))))) : OkE mX5_weighs 331 [(105, 0), (0, r), (0, s), (0, l3), (0, l4), (0, l5), (0, l6), (0, l7), (0, l8), (0, l9), (0, l10), (t11, x11)] [] (wk μ r g v W) Q := by
  have J2 : ∀ z1 z, z1 = max b (v s 0) → z = min z1 (v s 1) → OkE mX5_weighs 410 [(105, 0), (0, r), (0, s), (0, l3), (0, l4), (0, l5), (0, l6), (0, l7), (0, l8), (0, l9), (0, l10), (0, z1)] [(0, z), (0, s), (1104, 0 + 5)] (wk μ r g v W) Q := by
    intro z1 z hz1 hz
    subst hz1
    subst hz
    refine OkE.go snX5_weighs [] 100 ?_
    refine ⟨by omega, fun ν d => ?_⟩
    obtain rfl := d.trans (wr_W (by omega))
    exact h
  have J1 : ∀ z, z = max b (v s 0) → OkE mX5_weighs 371 [(105, 0), (0, r), (0, s), (0, l3), (0, l4), (0, l5), (0, l6), (0, l7), (0, l8), (0, l9), (0, l10), (t11, x11)] [(0, z)] (wk μ r g v W) Q := by
    intro z hz
    refine OkE.go snX5_weighs [410] 100 ?_
    refine qX5_at ?_
    refine ⟨by omega, fun x1 e1 => ?_⟩
    obtain rfl := e1.trans (rd_v s 1 rfl (by omega) (by omega))
    refine ⟨by omega, by omega, fun q => ?_, fun q => ?_⟩
    · exact J2 z z hz (by omega)
    refine qX5_at ?_
    refine ⟨by omega, fun x1 e1 => ?_⟩
    obtain rfl := e1.trans (rd_v s 1 rfl (by omega) (by omega))
    exact J2 z _ hz (by omega)
  refine OkE.go snX5_weighs [371] 100 ?_
  refine ⟨by omega, fun x1 e1 => ?_⟩
  obtain rfl := e1.trans ((rd_W (by omega)).trans hW)
  refine qX5_at ?_
  refine ⟨by omega, fun x2 e2 => ?_⟩
  obtain rfl := e2.trans (rd_v s 0 rfl (by omega) (by omega))
  refine ⟨by omega, by omega, fun q => ?_, fun q => ?_⟩
  · refine ⟨by omega, fun x3 e3 => ?_⟩
    obtain rfl := e3.trans ((rd_W (by omega)).trans hW)
    exact J1 _ (by omega)
  refine qX5_at ?_
  refine ⟨by omega, fun x2 e2 => ?_⟩
  obtain rfl := e2.trans (rd_v s 0 rfl (by omega) (by omega))
  exact J1 _ (by omega)
/-- weighs, from 217 on: the bound -/
theorem qX5_weighs_bound {now st fl ce b l4 l5 l6 l8 l9 x11 : Int} {t11 : Nat} (hr : 0 ≤ r ∧ r ≤ 12) (hs : 0 ≤ s ∧ s < 4) (h0 : 0 ≤ v s 0 ∧ v s 0 ≤ 9) (h1 : 1 ≤ v s 1 ∧ v s 1 ≤ 20) (hnow : 0 ≤ now ∧ now ≤ 20) (hst : 0 ≤ st ∧ st ≤ 300000) (hfl : -100000 ≤ fl ∧ fl ≤ 100000) (hce : -100000 ≤ ce ∧ ce ≤ 100000) (hW : W 3 s = st)
    (hb : b = if st < now then min (max st fl) now else if now < st then max (min st ce) now else now) (h : Q (9, 0) (wk μ r g v (upm (upm W 4 s b) 5 s (min (max b (v s 0)) (v s 1))))) : OkE mX5_weighs 217 [(105, 0), (0, r), (0, s), (0, now), (0, l4), (0, l5), (0, l6), (0, fl), (0, l8), (0, l9), (0, ce), (t11, x11)] [] (wk μ r g v W) Q := by
  have E : ∀ (t : Nat) (x : Int), OkE mX5_weighs 331 [(105, 0), (0, r), (0, s), (0, now), (0, l4), (0, l5), (0, l6), (0, fl), (0, l8), (0, l9), (0, ce), (t, x)] [] (wk μ r g v (upm W 4 s b)) Q := fun t x =>
    qX5_weighs_edge hr hs h0 h1 (by rw [hb]; split <;> (try split) <;> omega) (upm_at _ _ _ _) h
  have hW' : upm W 4 s now 3 s = st := (upm_ne (by omega)).trans hW
  refine OkE.go snX5_weighs [331, 256, 311] 100 ?_
  refine ⟨by omega, fun ν d => ?_⟩
  obtain rfl := d.trans (wr_W (by omega))
  refine ⟨by omega, fun x1 e1 => ?_⟩
  obtain rfl := e1.trans ((rd_W (by omega)).trans hW')
  refine ⟨by omega, by omega, fun q => ?_, fun q => ?_⟩
  · refine ⟨by omega, fun x2 e2 => ?_⟩
    obtain rfl := e2.trans ((rd_W (by omega)).trans hW')
    refine ⟨by omega, by omega, fun q2 => ?_, fun q2 => ?_⟩
    · have hb2 : b = now := by rw [hb, if_neg (by omega), if_neg (by omega)]
      rw [hb2] at E
      exact E t11 x11
    rw [if_neg (by omega), if_pos (by omega)] at hb
    have J : ∀ z, z = min x2 ce → OkE mX5_weighs 311 [(105, 0), (0, r), (0, s), (0, now), (0, l4), (0, l5), (0, l6), (0, fl), (0, l8), (0, l9), (0, ce), (t11, x11)] [(0, z)] (wk μ r g v (upm W 4 s now)) Q := by
      intro z hz
      refine OkE.go snX5_weighs [331] 100 ?_
      refine ⟨by omega, by omega, fun q3 => ?_, fun q3 => ?_⟩
      · refine ⟨by omega, fun ν d => ?_⟩
        obtain rfl := d.trans ((wr_W (by omega)).trans (congrArg _ (upm_upm W 4 s now z)))
        have e : z = b := by omega
        subst e
        exact E 0 z
      · refine ⟨by omega, fun ν d => ?_⟩
        obtain rfl := d.trans ((wr_W (by omega)).trans (congrArg _ (upm_upm W 4 s now now)))
        have e : now = b := by omega
        rw [← e] at E
        exact E 0 z
    refine ⟨by omega, fun x3 e3 => ?_⟩
    obtain rfl := e3.trans ((rd_W (by omega)).trans hW')
    refine ⟨by omega, by omega, fun q3 => ?_, fun q3 => ?_⟩
    · exact J _ (by omega)
    refine ⟨by omega, fun x4 e4 => ?_⟩
    obtain rfl := e4.trans ((rd_W (by omega)).trans hW')
    exact J _ (by omega)
  · rw [if_pos (by omega)] at hb
    have J : ∀ z, z = max x1 fl → OkE mX5_weighs 256 [(105, 0), (0, r), (0, s), (0, now), (0, l4), (0, l5), (0, l6), (0, fl), (0, l8), (0, l9), (0, ce), (t11, x11)] [(0, z)] (wk μ r g v (upm W 4 s now)) Q := by
      intro z hz
      refine OkE.go snX5_weighs [331] 100 ?_
      refine ⟨by omega, by omega, fun q3 => ?_, fun q3 => ?_⟩
      · refine ⟨by omega, fun ν d => ?_⟩
        obtain rfl := d.trans ((wr_W (by omega)).trans (congrArg _ (upm_upm W 4 s now z)))
        have e : z = b := by omega
        subst e
        exact E 0 z
      · refine ⟨by omega, fun ν d => ?_⟩
        obtain rfl := d.trans ((wr_W (by omega)).trans (congrArg _ (upm_upm W 4 s now now)))
        have e : now = b := by omega
        rw [← e] at E
        exact E 0 z
    refine ⟨by omega, fun x3 e3 => ?_⟩
    obtain rfl := e3.trans ((rd_W (by omega)).trans hW')
    refine ⟨by omega, by omega, fun q3 => ?_, fun q3 => ?_⟩
    · exact J _ (by omega)
    refine ⟨by omega, fun x4 e4 => ?_⟩
    obtain rfl := e4.trans ((rd_W (by omega)).trans hW')
    exact J _ (by omega)
end M3
