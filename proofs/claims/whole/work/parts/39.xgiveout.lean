def FrH (μ μ' : Mem) (h : Int) : Prop := ∀ a b, ¬ (h ≤ a ∧ a < h + 51) → μ' a b = μ a b
theorem sumN_upd {f f' : Int → Int} {k : Int} (hf : ∀ j, j ≠ k → f' j = f j) : ∀ n : Nat, sumN f' n = sumN f n + (if 0 ≤ k ∧ k < (n : Int) then f' k - f k else 0)
  | 0 => by rw [if_neg (by omega)]; rfl
  | n + 1 => by
    have h1 := sumN_upd hf n
    show sumN f' n + f' (n : Int) = sumN f n + f (n : Int) + _
    rw [h1]
    by_cases hn : (n : Int) = k
    · rw [if_neg (by omega), if_pos (by omega), hn]; omega
    · rw [hf _ hn]
      by_cases hq : 0 ≤ k ∧ k < (n : Int)
      · rw [if_pos hq, if_pos (by omega)]; omega
      · rw [if_neg hq, if_neg (by omega)]; omega
theorem sumI_upd {f f' : Int → Int} {k n : Int} (hk : 0 ≤ k ∧ k < n) (hf : ∀ j, j ≠ k → f' j = f j) : sumI f' n = sumI f n + (f' k - f k) := by
  unfold sumI
  rw [sumN_upd hf, if_pos (by omega)]
theorem plN_lt (v W : Mem) (s : Int) : ∀ n : Nat, plN v W s n ≤ n - (if 0 ≤ s ∧ s < (n : Int) then 1 else 0)
  | 0 => by rw [if_neg (by omega)]; show (0 : Int) ≤ _; omega
  | n + 1 => by
    have h1 := plN_lt v W s n
    unfold plN
    by_cases hs : s = (n : Int)
    · subst hs
      have e : aheadN v W (n : Int) (n : Int) = false := by unfold aheadN; simp
      rw [if_neg (by omega)] at h1
      rw [e, if_pos (show 0 ≤ (n : Int) ∧ (n : Int) < ((n + 1 : Nat) : Int) by omega), if_neg (by decide)]
      omega
    · by_cases hq : 0 ≤ s ∧ s < (n : Int)
      · rw [if_pos hq] at h1
        rw [if_pos (show 0 ≤ s ∧ s < ((n + 1 : Nat) : Int) by omega)]
        split <;> omega
      · rw [if_neg hq] at h1
        rw [if_neg (show ¬ (0 ≤ s ∧ s < ((n + 1 : Nat) : Int)) by omega)]
        split <;> omega
theorem outN_stay {x : GS} {n : Nat} {t : Nat} (hp : ∀ s, 0 ≤ s → s < (n : Int) → x.2.2 7 s < (t : Int)) : ∀ d : Nat, outN n (t + d) x = outN n t x
  | 0 => rfl
  | d + 1 => by
    have h1 := outN_stay hp d
    show inN ((t + d : Nat) : Int) n (outN n (t + d) x) = _
    rw [h1, inN_none n (fun s p q => by
      rw [(outN_keep n t x).2 7 (by omega)]
      have := hp s p q
      omega)]
section X9
variable {μ : Mem} {h R : Int} {g : Int → Int} {v W : Mem} {Q : PV → Mem → Prop}
/-- the loop of giveOut at turn t -/
def GOI (μ0 μ : Mem) (h R n : Int) (g : Int → Int) (v W : Mem) (xw st bd mv0 : Int → Int) (t : Nat) : Prop :=
  RelG μ h (outN n.toNat t (g, v, getsW v n W)).1 ∧ (∀ s, 0 ≤ s → s < n → RelS μ (h + 2 + 1 + 12 * s) R ((outN n.toNat t (g, v, getsW v n W)).2.1 s)) ∧
  (∀ s, 0 ≤ s → s < n → PlS μ (h + 2 + 1 + 12 * s) R (xw s) (st s) (bd s) (W 5 s) (if 0 ≤ placeK v (cntW v n W) s n.toNat ∧ placeK v (cntW v n W) s n.toNat < t then placeK v (cntW v n W) s n.toNat else -1) (if 0 ≤ placeK v (cntW v n W) s n.toNat ∧ placeK v (cntW v n W) s n.toNat < t then (outN n.toNat t (g, v, getsW v n W)).2.2 8 s else mv0 s)) ∧
  FrH μ0 μ h ∧ cntB (fun s => decide (0 ≤ placeK v (cntW v n W) s n.toNat ∧ placeK v (cntW v n W) s n.toNat < t)) n.toNat = t ∧
  (∀ k s, 0 ≤ k → k < n → 0 ≤ s → s < n → (0 ≤ placeK v (cntW v n W) k n.toNat ∧ placeK v (cntW v n W) k n.toNat < t) → cntW v n W 6 s < cntW v n W 5 s → ¬ (placeK v (cntW v n W) s n.toNat < t) → ahd (fun s => v s 2) (cntW v n W 6) (cntW v n W 5) k s)
theorem placeW {n : Int} {s : Int} (hs : 0 ≤ s ∧ s < n) : getsW v n W 7 s = placeK v (cntW v n W) s n.toNat := by
  unfold getsW plTo
  rw [if_pos ⟨rfl, hs⟩]
theorem cntW_6 {n s : Int} (hs : 0 ≤ s ∧ s < n) : cntW v n W 6 s = cntV (v s) := by
  unfold cntW
  rw [if_pos (by omega)]
theorem cntW_5 {n s : Int} : cntW v n W 5 s = W 5 s := by
  unfold cntW
  rw [if_neg (by omega), if_neg (by omega)]
theorem qX0_giveOut_loop {xw st bd mv0 : Int → Int} (hG : BG g) (hR : g 6 = R) (hB : ∀ s, 0 ≤ s → s < g 7 → BV (v s)) (hd : ∀ s, 0 ≤ s → s < g 7 → 0 ≤ W 5 s ∧ W 5 s ≤ 20) (hmv : ∀ s, 0 ≤ s → s < g 7 → cntV (v s) < W 5 s → mv0 s = 0)
    (hq : ∀ μ', RelG μ' h (getsX g v W).1 → (∀ s, 0 ≤ s → s < g 7 → RelS μ' (h + 2 + 1 + 12 * s) R ((getsX g v W).2.1 s)) → (∀ s, 0 ≤ s → s < g 7 → PlS μ' (h + 2 + 1 + 12 * s) R (xw s) (st s) (bd s) (W 5 s) ((getsX g v W).2.2 7 s) (if cntV (v s) < W 5 s then (getsX g v W).2.2 8 s else mv0 s)) → FrH μ μ' h → Q (9, 0) μ') : ∀ (dd t : Nat) (μ' : Mem) (fr x3 x4 x5 x6 : Int) (t3 t4 t5 t6 : Nat), (t : Int) + dd = g 7 → GOI μ μ' h R (g 7) g v W xw st bd mv0 t → fr = max (g 0 - sumI (fun s => cntV ((outN (g 7).toNat t (g, v, getsW v (g 7) W)).2.1 s)) (g 7)) 0 → OkE mX0_giveOut 18 [(100, h), (0, fr), (0, (t : Int)), (t3, x3), (t4, x4), (t5, x5), (t6, x6)] [] μ' Q := by
  obtain ⟨g0, g1, -, -, -, g5, g6, g7⟩ := id hG
  have hO : OKG (g, v, getsW v (g 7) W) 20 := by
    refine ⟨g1, g0, g5, g7, fun k q1 q2 => ?_⟩
    have hc := cntV_bd (hB k q1 q2)
    have hd2 := hd k q1 q2
    dsimp only at q2 ⊢
    rw [getsW_5, getsW_6 ⟨q1, q2⟩]
    omega
  have hn : (((g 7).toNat : Nat) : Int) = (g, v, getsW v (g 7) W).1 7 := by
    show ((g 7).toNat : Int) = g 7
    omega
  have hneed : ∀ s, 0 ≤ s → s < g 7 → (0 ≤ placeK v (cntW v (g 7) W) s (g 7).toNat ↔ cntV (v s) < W 5 s) ∧ placeK v (cntW v (g 7) W) s (g 7).toNat < g 7 ∧ -1 ≤ placeK v (cntW v (g 7) W) s (g 7).toNat := by
    intro s p q
    have h1 := plN_bd v (cntW v (g 7) W) s (g 7).toNat
    have h2 := plN_lt v (cntW v (g 7) W) s (g 7).toNat
    rw [if_pos (by omega)] at h2
    unfold placeK
    rw [cntW_6 ⟨p, q⟩, cntW_5]
    split <;> omega
  -- the end: nobody waits any more
  have fin : ∀ (t : Nat) (μ' : Mem), (t : Int) ≤ g 7 → GOI μ μ' h R (g 7) g v W xw st bd mv0 t → (∀ s, 0 ≤ s → s < g 7 → placeK v (cntW v (g 7) W) s (g 7).toNat < (t : Int)) → Q (9, 0) μ' := by
    intro t μ' htn hI hall
    obtain ⟨i1, i2, i3, i4, -, -⟩ := hI
    have hst := outN_stay (x := (g, v, getsW v (g 7) W)) (n := (g 7).toNat) (t := t) (fun s p q => by
      show getsW v (g 7) W 7 s < (t : Int)
      rw [placeW ⟨p, by omega⟩]
      exact hall s p (by omega)) ((g 7).toNat - t)
    rw [show t + ((g 7).toNat - t) = (g 7).toNat by omega] at hst
    have hX : getsX g v W = outN (g 7).toNat t (g, v, getsW v (g 7) W) := hst
    refine hq μ' (by rw [hX]; exact i1) (fun s p q => by rw [hX]; exact i2 s p q) (fun s p q => ?_) i4
    have h3 := i3 s p q
    obtain ⟨n1, n2, n3⟩ := hneed s p q
    have ha := hall s p q
    have e7 : (getsX g v W).2.2 7 s = placeK v (cntW v (g 7) W) s (g 7).toNat := by
      rw [hX, (outN_keep _ _ _).2 7 (by omega)]
      exact placeW ⟨p, q⟩
    rw [e7]
    by_cases hw : cntV (v s) < W 5 s
    · rw [if_pos hw]
      rw [if_pos (by omega), if_pos (by omega)] at h3
      rw [hX]
      exact h3
    · rw [if_neg hw]
      rw [if_neg (by omega), if_neg (by omega)] at h3
      rw [show placeK v (cntW v (g 7) W) s (g 7).toNat = -1 by omega]
      exact h3
  intro dd
  induction dd with
  | zero =>
    intro t μ' fr x3 x4 x5 x6 t3 t4 t5 t6 htd hI hfr
    have hf := fin t μ' (by omega) hI (fun s p q => by have := (hneed s p q).2.1; omega)
    obtain ⟨⟨-, i2, -, -⟩, -⟩ := id hI
    refine OkE.go snX0_giveOut [18] 100 ?_
    intro y1 e1
    obtain rfl : y1 = g 7 := e1.trans (i2.trans ((outN_keep _ _ _).1 7 (by omega)))
    refine ⟨by omega, by omega, fun _ => ?_, fun q => absurd q (by omega)⟩
    exact hf
  | succ dd ih =>
    intro t μ' fr x3 x4 x5 x6 t3 t4 t5 t6 htd hI hfr
    have hI0 := hI
    obtain ⟨⟨hnum, hn2, hn3, hn4⟩, hRS, hPl, hFr, hK, hOr⟩ := hI
    obtain ⟨k1, k2⟩ := outN_keep (g 7).toNat t (g, v, getsW v (g 7) W)
    have hok := outN_ok hO hn t
    have hn2' : μ' h 2 = g 7 := hn2.trans (k1 7 (by omega))
    have hn4' : μ' h 4 = R := (hn4.trans (k1 6 (by omega))).trans hR
    have hat : ∀ s, 0 ≤ s → s < g 7 → (¬ (0 ≤ placeK v (cntW v (g 7) W) s (g 7).toNat ∧ placeK v (cntW v (g 7) W) s (g 7).toNat < (t : Int)) → (outN (g 7).toNat t (g, v, getsW v (g 7) W)).2.1 s = v s) ∧ (0 ≤ cntV ((outN (g 7).toNat t (g, v, getsW v (g 7) W)).2.1 s) ∧ cntV ((outN (g 7).toNat t (g, v, getsW v (g 7) W)).2.1 s) ≤ 20) := by
      intro s p q
      obtain ⟨o1, o2⟩ := outN_at hO hn (s := s) ⟨p, q⟩ t
      dsimp only at o1 o2
      rw [placeW ⟨p, q⟩] at o1 o2
      have hc := cntV_bd (hB s p q)
      have hd2 := hd s p q
      refine ⟨fun hnp => (o1 hnp).1, ?_⟩
      by_cases hnp : 0 ≤ placeK v (cntW v (g 7) W) s (g 7).toNat ∧ placeK v (cntW v (g 7) W) s (g 7).toNat < (t : Int)
      · obtain ⟨wm, gt, w1, w2, w3, -⟩ := o2 hnp
        rw [getsW_5, getsW_6 ⟨p, q⟩] at w2
        rw [w3, cnt_getV g1]
        omega
      · rw [(o1 hnp).1]; omega
    have hsumb := sumI_bd4 (f := fun s => cntV ((outN (g 7).toNat t (g, v, getsW v (g 7) W)).2.1 s)) (n := g 7) (B := 20) (by omega) (by omega) (fun k q1 q2 => (hat k q1 q2).2)
    refine OkE.go snX0_giveOut [18] 100 ?_
    intro y1 e1
    obtain rfl := e1.trans hn2'
    refine ⟨by omega, by omega, fun q => absurd q (by omega), fun _ => ?_⟩
    refine qX0_firstInNeed (n := g 7) (ρ := fun s => v s 2) (c := fun s => cntV ((outN (g 7).toNat t (g, v, getsW v (g 7) W)).2.1 s)) (d := fun s => W 5 s) (pl := fun s => if 0 ≤ placeK v (cntW v (g 7) W) s (g 7).toNat ∧ placeK v (cntW v (g 7) W) s (g 7).toNat < (t : Int) then placeK v (cntW v (g 7) W) s (g 7).toNat else -1) g7 hn2' (fun s p q => ?_) (fun f hf => ?_)
    · obtain ⟨p12, p13, p14, p15, p16, pmv⟩ := hPl s p q
      obtain ⟨n1, n2, n3⟩ := hneed s p q
      have hBs := hB s p q
      have hr2 : (outN (g 7).toNat t (g, v, getsW v (g 7) W)).2.1 s 2 = v s 2 := outN_v g1 t s 2 (by omega)
      refine ⟨⟨((hRS s p q).1 2 (by omega) (by omega)).trans hr2, (hRS s p q).2.1.2.1, p15⟩, p16, ?_, (hat s p q).2, hd s p q, ?_⟩
      · obtain ⟨-, -, -, h2, -⟩ := hBs; exact h2
      · split <;> omega
    · rcases hf with ⟨hf1, hf2⟩ | ⟨hf1, hf2, hf3, hf4⟩
      · subst hf1
        refine ⟨by omega, by omega, fun q => absurd rfl q, fun _ => ?_⟩
        refine fin t μ' (by omega) hI0 (fun s p q => ?_)
        obtain ⟨n1, n2, n3⟩ := hneed s p q
        have h2 := hf2 s p q
        by_cases hnp : 0 ≤ placeK v (cntW v (g 7) W) s (g 7).toNat ∧ placeK v (cntW v (g 7) W) s (g 7).toNat < (t : Int)
        · exact hnp.2
        · rw [if_neg hnp, (hat s p q).1 hnp] at h2
          omega
      · obtain ⟨n1, n2, n3⟩ := hneed f hf1 hf2
        have hnp : ¬ (0 ≤ placeK v (cntW v (g 7) W) f (g 7).toNat ∧ placeK v (cntW v (g 7) W) f (g 7).toNat < (t : Int)) := by
          intro hc
          rw [if_pos hc] at hf3
          omega
        have hvf := (hat f hf1 hf2).1 hnp
        rw [hvf] at hf3
        have hcf := cntV_bd (hB f hf1 hf2)
        have hdf := hd f hf1 hf2
        obtain ⟨tP, tU, tK, tO⟩ := turn_of (v := v) (W := cntW v (g 7) W) (n := g 7) (t := (t : Int)) (f := f) (by omega) (by omega) (fun s p q => by rw [cntW_6 ⟨p, q⟩]; have := cntV_bd (hB s p q); omega) hK hOr ⟨hf1, hf2⟩ (by rw [cntW_6 ⟨hf1, hf2⟩, cntW_5]; exact hf3.2) (fun hc => hnp ⟨n1.mpr hf3.2, hc⟩) (fun s p q hu hw hne => by
          rw [cntW_6 ⟨p, q⟩, cntW_5] at hw
          obtain ⟨m1, -, -⟩ := hneed s p q
          have hns : ¬ (0 ≤ placeK v (cntW v (g 7) W) s (g 7).toNat ∧ placeK v (cntW v (g 7) W) s (g 7).toNat < (t : Int)) := fun hc => hu hc.2
          have hvs := (hat s p q).1 hns
          have h4 := hf4 s p q (by rw [if_neg hns]) (by rw [hvs]; exact hw) hne
          unfold ahd at h4 ⊢
          dsimp only at h4 ⊢
          rw [hvs, hvf] at h4
          rw [cntW_6 ⟨p, q⟩, cntW_6 ⟨hf1, hf2⟩, cntW_5, cntW_5]
          exact h4)
        have hgo : outN (g 7).toNat (t + 1) (g, v, getsW v (g 7) W) = gone (outN (g 7).toNat t (g, v, getsW v (g 7) W)) f := by
          show inN (t : Int) (g 7).toNat (outN (g 7).toNat t (g, v, getsW v (g 7) W)) = _
          refine inN_single hf1 ?_ (g 7).toNat (by omega) (fun s p q e => ?_)
          · rw [k2 7 (by omega)]
            exact (placeW ⟨hf1, hf2⟩).trans tP
          · rw [k2 7 (by omega)] at e
            exact tU s p (by omega) ((placeW ⟨p, by omega⟩).symm.trans e)
        generalize hx : outN (g 7).toNat t (g, v, getsW v (g 7) W) = x at *
        have x5f : x.2.2 5 f = W 5 f := by rw [k2 5 (by omega)]; exact congrFun getsW_5 f
        have x6f : x.2.2 6 f = cntV (v f) := by rw [k2 6 (by omega)]; exact getsW_6 ⟨hf1, hf2⟩
        have x1k : ∀ k, k ≠ 5 → x.1 k = g k := k1
        have hgot : gotV x f = min (W 5 f - cntV (v f)) fr := by
          unfold gotV someV
          rw [x5f, x6f, x1k 0 (by omega), x1k 7 (by omega), hfr]
          omega
        have hwarm : warmV x f = min (gotV x f) (x.1 5) := rfl
        have h5b := hok.2.2.1
        have hgb : 0 ≤ gotV x f ∧ gotV x f ≤ 20 := (gotV_bd hok (s := f) ⟨hf1, by rw [x1k 7 (by omega)]; exact hf2⟩).1
        obtain ⟨p12, p13, p14, p15, p16, pmv⟩ := hPl f hf1 hf2
        rw [if_neg hnp] at p16 pmv
        have hSf := hRS f hf1 hf2
        rw [hvf] at hSf
        have h9f : v f 9 ≤ 3 := by obtain ⟨-, -, -, -, -, -, -, -, -, -, h9, -⟩ := hB f hf1 hf2; exact h9.2
        refine ⟨by omega, by omega, fun _ => ?_, fun q => absurd q (by omega)⟩
        refine ⟨by omega, ?_⟩
        intro y2 e2
        obtain rfl := e2.trans p15
        intro y3 e3
        obtain rfl := e3.trans hSf.2.1.2.1
        refine ⟨by omega, by omega, ?_⟩
        intro y4 e4
        obtain rfl := e4.trans hn3
        refine ⟨by omega, by omega, ?_⟩
        intro μ1 d1
        have m1 : ∀ a b, ¬ (a = h + 2 + 1 + 12 * f ∧ b = 16) → μ1 a b = μ' a b := fun a b hne => by rw [d1]; exact upm_ne hne
        have S1 : RelS μ1 (h + 2 + 1 + 12 * f) R (v f) := by rw [d1]; exact hSf.put h9f (by omega) (Or.inl ⟨rfl, by omega⟩)
        have P1 : PlS μ1 (h + 2 + 1 + 12 * f) R (xw f) (st f) (bd f) (W 5 f) (t : Int) (mv0 f) := ⟨(m1 _ _ (by omega)).trans p12, (m1 _ _ (by omega)).trans p13, (m1 _ _ (by omega)).trans p14, (m1 _ _ (by omega)).trans p15, by rw [d1]; exact upm_at _ _ _ _, (m1 _ _ (by omega)).trans pmv⟩
        intro y5 e5
        obtain rfl := e5.trans ((m1 _ _ (by omega)).trans hn4')
        refine ⟨by omega, fun y6 e6 => ?_⟩
        obtain rfl := e6.trans ((m1 _ _ (by omega)).trans ((hnum 1 (by omega) (by omega)).trans (x1k 1 (by omega))))
        rw [← hgot, ← hwarm]
        refine qX2_get (by omega) S1 h9f g1 P1 (fun μ2 S2 P2 F2 => ?_)
        have m2 : ∀ a b, ¬ (h + 2 + 1 + 12 * f ≤ a ∧ a < h + 2 + 1 + 12 * f + 12) → μ2 a b = μ' a b := fun a b hne => (F2 a b hne).trans (m1 a b (by omega))
        intro y7 e7
        obtain rfl := e7.trans ((m2 _ _ (by omega)).trans hn3)
        intro μ3 d3
        have m3 : ∀ a b, ¬ (h + 2 + 1 + 12 * f ≤ a ∧ a < h + 2 + 1 + 12 * f + 12) → ¬ (a = h ∧ b = 3) → μ3 a b = μ' a b := fun a b hne hne2 => by rw [d3]; exact (upm_ne hne2).trans (m2 a b hne)
        have m3f : ∀ a b, a ≠ h → μ3 a b = μ2 a b := fun a b hne => by rw [d3]; exact upm_ne (by omega)
        obtain ⟨gk1, gk2, gk3⟩ := gone_keep x f
        have hsumI : sumI (fun s => cntV ((gone x f).2.1 s)) (g 7) = sumI (fun s => cntV (x.2.1 s)) (g 7) + gotV x f := by
          rw [sumI_upd (f := fun s => cntV (x.2.1 s)) (f' := fun s => cntV ((gone x f).2.1 s)) (k := f) ⟨hf1, hf2⟩ (fun j hj => by rw [gk3 j hj])]
          have e : (gone x f).2.1 f = getV (x.2.1 f) (warmV x f) (gotV x f) (x.1 1) := setS_at _ _ _
          rw [e, cnt_getV (by rw [x1k 1 (by omega)]; exact g1)]
          omega
        have hI2 : GOI μ μ3 h y5 (g 7) g v W xw st bd mv0 (t + 1) := by
          refine ⟨?_, fun s p q => ?_, fun s p q => ?_, fun a b hne => ?_, by rw [show ((t + 1 : Nat) : Int) = (t : Int) + 1 by omega]; exact tK, by rw [show ((t + 1 : Nat) : Int) = (t : Int) + 1 by omega]; exact tO⟩
          · rw [hgo]
            refine ⟨fun k p q => ?_, ?_, ?_, ?_⟩
            · rw [m3 _ _ (by omega) (by omega), gk1 k (by omega)]; exact hnum k p q
            · rw [m3 _ _ (by omega) (by omega), gk1 7 (by omega)]; exact hn2
            · rw [d3]
              exact (upm_at _ _ _ _).trans (upg_at x.1 5 (x.1 5 - warmV x f)).symm
            · rw [m3 _ _ (by omega) (by omega), gk1 6 (by omega)]; exact hn4
          · rw [hgo]
            by_cases hsf : s = f
            · subst hsf
              have e : (gone x s).2.1 s = getV (x.2.1 s) (warmV x s) (gotV x s) (x.1 1) := setS_at _ _ _
              rw [e, hvf, x1k 1 (by omega)]
              refine S2.frame (by rw [getV_ne g1 (by omega)]; exact h9f) (fun a b p1 p2 => m3f a b (by omega))
            · rw [gk3 s hsf]
              have h9s : x.2.1 s 9 ≤ 3 := by
                rw [← hx, outN_v g1 t s 9 (by omega)]
                obtain ⟨-, -, -, -, -, -, -, -, -, -, h9, -⟩ := hB s p q
                exact h9.2
              refine (hRS s p q).frame h9s (fun a b p1 p2 => m3 a b (by omega) (by omega))
          · rw [hgo, show ((t + 1 : Nat) : Int) = (t : Int) + 1 by omega]
            by_cases hsf : s = f
            · subst hsf
              rw [if_pos (by omega), if_pos (by omega), tP]
              have e8 : (gone x s).2.2 8 s = gotV x s := upm_at _ _ _ _
              rw [e8]
              obtain ⟨c12, c13, c14, c15, c16, cmv⟩ := P2
              exact ⟨(m3f _ _ (by omega)).trans c12, (m3f _ _ (by omega)).trans c13, (m3f _ _ (by omega)).trans c14, (m3f _ _ (by omega)).trans c15, (m3f _ _ (by omega)).trans c16, (m3f _ _ (by omega)).trans cmv⟩
            · have hst2 : placeK v (cntW v (g 7) W) s (g 7).toNat ≠ (t : Int) := fun e => hsf (tU s p q e)
              have e8 : (gone x f).2.2 8 s = x.2.2 8 s := upm_ne (by omega)
              rw [e8]
              have hps := hPl s p q
              have eif : (0 ≤ placeK v (cntW v (g 7) W) s (g 7).toNat ∧ placeK v (cntW v (g 7) W) s (g 7).toNat < (t : Int) + 1) ↔ (0 ≤ placeK v (cntW v (g 7) W) s (g 7).toNat ∧ placeK v (cntW v (g 7) W) s (g 7).toNat < (t : Int)) := by omega
              simp only [eif]
              obtain ⟨c12, c13, c14, c15, c16, cmv⟩ := hps
              exact ⟨(m3 _ _ (by omega) (by omega)).trans c12, (m3 _ _ (by omega) (by omega)).trans c13, (m3 _ _ (by omega) (by omega)).trans c14, (m3 _ _ (by omega) (by omega)).trans c15, (m3 _ _ (by omega) (by omega)).trans c16, (m3 _ _ (by omega) (by omega)).trans cmv⟩
          · rw [m3 a b (by omega) (by omega)]
            exact hFr a b hne
        have hih := ih (t + 1) μ3 (fr - gotV x f) f (h + 2 + 1 + 12 * f) (gotV x f) (warmV x f) 0 102 0 0 (by omega) hI2 (by
          rw [hgo, hsumI, hfr, hgot, hfr]
          omega)
        exact hih
theorem qX0_giveOut {xw st bd mv0 : Int → Int} (hG : BG g) (hR : g 6 = R) (hH : RelG μ h g) (hS : ∀ s, 0 ≤ s → s < g 7 → RelS μ (h + 2 + 1 + 12 * s) R (v s)) (hB : ∀ s, 0 ≤ s → s < g 7 → BV (v s)) (hd : ∀ s, 0 ≤ s → s < g 7 → 0 ≤ W 5 s ∧ W 5 s ≤ 20) (hp : ∀ s, 0 ≤ s → s < g 7 → PlS μ (h + 2 + 1 + 12 * s) R (xw s) (st s) (bd s) (W 5 s) (-1) (mv0 s)) (hmv : ∀ s, 0 ≤ s → s < g 7 → cntV (v s) < W 5 s → mv0 s = 0)
    (hq : ∀ μ', RelG μ' h (getsX g v W).1 → (∀ s, 0 ≤ s → s < g 7 → RelS μ' (h + 2 + 1 + 12 * s) R ((getsX g v W).2.1 s)) → (∀ s, 0 ≤ s → s < g 7 → PlS μ' (h + 2 + 1 + 12 * s) R (xw s) (st s) (bd s) (W 5 s) ((getsX g v W).2.2 7 s) (if cntV (v s) < W 5 s then (getsX g v W).2.2 8 s else mv0 s)) → FrH μ μ' h → Q (9, 0) μ') : MetP mX0_giveOut [(100, h)] μ Q := by
  obtain ⟨g0, g1, -, -, -, g5, g6, g7⟩ := id hG
  have hsumb := sumI_bd4 (f := fun s => cntV (v s)) (n := g 7) (B := 20) (by omega) (by omega) (fun k q1 q2 => by have := cntV_bd (hB k q1 q2); omega)
  have hz : ∀ n : Nat, cntB (fun s => decide (0 ≤ placeK v (cntW v (g 7) W) s (g 7).toNat ∧ placeK v (cntW v (g 7) W) s (g 7).toNat < ((0 : Nat) : Int))) n = 0 := by
    intro n
    induction n with
    | zero => rfl
    | succ n ih =>
      unfold cntB
      rw [ih, if_neg (by simp)]
      rfl
  have hI : GOI μ μ h R (g 7) g v W xw st bd mv0 0 := by
    refine ⟨hH, hS, fun s p q => ?_, fun _ _ _ => rfl, hz _, fun k s _ _ _ _ hk => by omega⟩
    rw [if_neg (by omega), if_neg (by omega)]
    exact hp s p q
  refine MetP.go snX0_giveOut [18] 100 rfl rfl rfl rfl (fun _ => ?_)
  refine ⟨by omega, fun y1 e1 => ?_⟩
  obtain rfl := e1.trans (hH.1 0 (by omega) (by omega))
  refine qX0_servers (f := fun s => cntV (v s)) g7 hH.2.1 (fun s p q => (hS s p q).2.1.2.1) ?_
  refine ⟨by omega, by omega, ?_⟩
  exact qX0_giveOut_loop hG hR hB hd hmv hq (g 7).toNat 0 μ _ 0 0 0 0 9 9 9 9 (by omega) hI rfl
end X9
