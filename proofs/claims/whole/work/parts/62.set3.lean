def setOk (w x : Int) : Prop := 0 ≤ w ∧ w ≤ 8 ∧ stV 2 w ≤ x ∧ x ≤ stV 3 w
def setNo (g : Int → Int) (v : Mem) (s w x : Int) : Prop := (w = 0 ∧ (v s 1 < x ∨ g 0 < sumI (fun s => v s 0) (g 7) - v s w + x)) ∨ (w = 1 ∧ x < v s 0)
section T62
variable {N : Int} {μ ν : Mem} {g u : Int → Int} {v W : Mem} {Q : PV → Mem → Prop} {w x s c R t n : Int}
theorem sumN_bq {f : Int → Int} {b : Int} : ∀ n : Nat, (∀ k, 0 ≤ k → k < (n : Int) → 0 ≤ f k ∧ f k ≤ b) → 0 ≤ sumN f n ∧ sumN f n ≤ b * (n : Int)
  | 0, _ => by show (0 : Int) ≤ 0 ∧ (0 : Int) ≤ b * ((0 : Nat) : Int); simp
  | n + 1, h => by
    have h1 := sumN_bq n (fun k p q => h k p (by omega))
    have h2 := h (n : Int) (by omega) (by omega)
    show 0 ≤ sumN f n + f (n : Int) ∧ sumN f n + f (n : Int) ≤ b * ((n + 1 : Nat) : Int)
    have h3 : b * ((n + 1 : Nat) : Int) = b * (n : Int) + b := by push_cast; rw [Int.mul_add, Int.mul_one]
    omega
theorem leasts_bd (bG : BG g) (bV : ∀ s, 0 ≤ s → s < g 7 → BV (v s)) : 0 ≤ sumI (fun s => v s 0) (g 7) ∧ sumI (fun s => v s 0) (g 7) ≤ 36 := by
  have b7 := bG.2.2.2.2.2.2.2
  have bL := sumN_bq (f := fun s => v s 0) (b := 9) (g 7).toNat (fun k p q => (bV k p (by omega)).1)
  unfold sumI
  omega
theorem stV_bd (hw : 0 ≤ w ∧ w ≤ 8) : (0 ≤ stV 2 w ∧ stV 2 w ≤ 1) ∧ (0 ≤ stV 3 w ∧ stV 3 w ≤ 99) := by
  rcases (show w = 0 ∨ w = 1 ∨ w = 2 ∨ w = 3 ∨ w = 4 ∨ w = 5 ∨ w = 6 ∨ w = 7 ∨ w = 8 by omega) with rfl | rfl | rfl | rfl | rfl | rfl | rfl | rfl | rfl <;> decide
theorem qX5_set (hss : 0 ≤ s ∧ s < g 7) (hw : I32 w) (hx : I32 x) (bG : BG g) (bV : ∀ s, 0 ≤ s → s < g 7 → BV (v s)) (s4 : RwM ν 0 g v) (ht : 0 ≤ t ∧ t ≤ 10) (s3 : ν 0 1 = t) (hO : ¬ setOk w x → Q (0, -1000002) ν) (hN : setOk w x → setNo g v s w x → Q (0, -1000003) ν)
    (hD : setOk w x → ¬ setNo g v s w x → ∀ ν1, ν1 0 1 = min (t + 1) 10 → (∀ i, 0 ≤ i → i < 400 → ν1 1 (400 * min (t + 1) 10 + i) = ν 1 i) → (∀ k i, 1 ≤ k → k < min (t + 1) 10 → 0 ≤ i → i < 400 → ν1 1 (400 * k + i) = ν 1 (400 * (k + (if t = 10 then 1 else 0)) + i)) → (∀ i, i < 400 ∨ 4400 ≤ i → ν1 1 i = ν 1 i) → (∀ c i, c ≠ 1 → ¬ (c = 0 ∧ i = 1) → ν1 c i = ν c i) → Q (0, v s w) (wk ν1 0 g (upm v s w x) ν1)) : MetP mX5_set [(105, 0), (0, s), (0, w), (0, x)] ν Q := by
  have b7 := bG.2.2.2.2.2.2.2
  have e7 : ν 1 7 = g 7 := RwM_g s4 7 (by omega)
  have hx' := hx
  have hw' := hw
  unfold I32 at hx' hw'
  have bs := bV s hss.1 hss.2
  have b0 : 0 ≤ v s 0 ∧ v s 0 ≤ 9 := bs.1
  have b1 : 1 ≤ v s 1 ∧ v s 1 ≤ 20 := bs.2.1
  have g0 : 1 ≤ g 0 ∧ g 0 ≤ 60 := bG.1
  have bL := leasts_bd bG bV
  have A : setOk w x → ¬ setNo g v s w x → ∀ z, OkE mX5_set 130 [(105, 0), (0, s), (0, w), (0, x), (0, v s w), z] [] ν Q := by
    intro ok no z
    have ok2 := ok
    unfold setOk at ok2
    refine OkE.go snX5_set [] 100 ?_
    refine qX5_notes ht s3 (fun ν1 c1 c2 c3 c4 c5 => ?_)
    have r1 : RwM ν1 0 g v := RwM_eq s4 (fun i p q => c4 i (by omega))
    refine qX5_at ?_
    refine ⟨by omega, fun ν2 k2 => ?_⟩
    have k2' : ν2 = wk ν1 0 g (upm v s w x) ν1 := k2.trans ((congrArg (fun z => upm z 1 (400 * 0 + 8 + 98 * s + w) x) (RwM_wk r1)).trans (wr_v s w rfl rfl (by omega)))
    rw [k2']
    exact hD ok no ν1 c1 c2 c3 c4 c5
  have J : setOk w x → ∀ b : Int, (b = 0 ∨ b = 1) → (b = 1 ↔ w = 0 ∧ (v s 1 < x ∨ g 0 < sumI (fun s => v s 0) (g 7) - v s w + x)) → ∀ z, OkE mX5_set 100 [(105, 0), (0, s), (0, w), (0, x), (0, v s w), z] [(0, b)] ν Q := by
    intro ok b hb hbb z
    refine OkE.go snX5_set [130] 100 ?_
    refine ⟨by omega, fun q => ?_, fun q => ?_⟩
    · exact hN ok (Or.inl (hbb.mp (by omega)))
    · have n0 : ¬ (w = 0 ∧ (v s 1 < x ∨ g 0 < sumI (fun s => v s 0) (g 7) - v s w + x)) := fun h => by have := hbb.mpr h; omega
      refine ⟨by omega, by omega, fun q2 => ?_, fun q2 => ?_⟩
      · exact A ok (fun h => h.elim n0 (fun h => q2 h.1)) _
      · refine qX5_at ?_
        refine ⟨by omega, fun x1 e1 => ?_⟩
        obtain rfl : x1 = v s 0 := e1.trans (RwM_v s4 s 0 (by omega))
        refine ⟨by omega, by omega, fun q3 => ?_, fun q3 => ?_⟩
        · exact A ok (fun h => h.elim n0 (fun h => absurd h.2 (by omega))) _
        · exact hN ok (Or.inr ⟨by omega, by omega⟩)
  have C : setOk w x → OkE mX5_set 44 [(105, 0), (0, s), (0, w), (0, x), (9, 0), (9, 0)] [] ν Q := by
    intro ok
    have ok2 := ok
    unfold setOk at ok2
    have sb := stV_bd (w := w) (by omega)
    refine OkE.go snX5_set [100] 100 ?_
    refine qX5_at ?_
    refine ⟨by omega, fun x1 e1 => ?_⟩
    obtain rfl : x1 = v s w := e1.trans (RwM_v s4 s w (by omega))
    refine ⟨by omega, fun q => ?_, fun q => ?_⟩
    · exact J ok 0 (by omega) ⟨fun h => absurd h (by omega), fun h => absurd h.1 q⟩ _
    · have w0 : w = 0 := by omega
      have ew : v s w = v s 0 := by rw [w0]
      refine qX5_at ?_
      refine ⟨by omega, fun x1 e1 => ?_⟩
      obtain rfl : x1 = v s 1 := e1.trans (RwM_v s4 s 1 (by omega))
      refine ⟨by omega, by omega, fun q2 => ?_, fun q2 => ?_⟩
      · exact J ok 1 (by omega) ⟨fun _ => ⟨w0, Or.inl q2⟩, fun _ => rfl⟩ _
      · have T : ∀ Q0, Q0 (0, sumI (fun s => v s 0) (g 7)) ν → MetP mX5_leasts [(105, 0), (0, 0)] ν Q0 := fun Q0 h0 => by
          rw [RwM_wk s4]
          refine qX5_leasts (r := 0) (by omega) b7 ?_
          rw [← RwM_wk s4]
          exact h0
        refine T _ ?_
        refine ⟨by omega, fun x2 e2 => ?_⟩
        obtain rfl : x2 = g 0 := e2.trans (RwM_g s4 0 (by omega))
        refine ⟨by omega, by omega, fun q3 => ?_, fun q3 => ?_⟩
        · exact J ok 0 (by omega) ⟨fun h => absurd h (by omega), fun h => h.2.elim (fun h => absurd h q2) (fun h => absurd h (by omega))⟩ _
        · exact J ok 1 (by omega) ⟨fun _ => ⟨w0, Or.inr (by omega)⟩, fun _ => rfl⟩ _
  refine MetP.go snX5_set [44] 100 rfl rfl rfl rfl (fun _ => ?_)
  refine qX5_isService (by unfold I32; omega) (by omega) (fun q => ?_) (fun q => absurd q (by omega))
  refine ⟨by omega, fun _ => ?_, fun q => absurd q (by omega)⟩
  refine ⟨by omega, ?_⟩
  refine qX5_in (by omega) (by omega) (by omega) (fun q => ?_) (fun q => ?_)
  · refine ⟨by omega, fun q => absurd q (by omega), fun _ => ?_⟩
    have sb := stV_bd (w := w) (by omega)
    refine ⟨by omega, ?_⟩
    refine qX5_lowOf (by omega) ?_
    refine ⟨by omega, ?_⟩
    refine qX5_highOf (by omega) ?_
    refine ⟨by omega, ?_⟩
    refine qX5_in (by omega) (by omega) (by omega) (fun q2 => ?_) (fun q2 => ?_)
    · refine ⟨by omega, fun _ => ?_, fun q => absurd q (by omega)⟩
      exact C ⟨by omega, by omega, q2.1, q2.2⟩
    · refine ⟨by omega, fun q => absurd rfl q, fun _ => ?_⟩
      exact hO (fun ok => q2 ⟨ok.2.2.1, ok.2.2.2⟩)
  · refine ⟨by omega, fun _ => ?_, fun q => absurd rfl q⟩
    exact hO (fun ok => q ⟨ok.1, ok.2.1⟩)
theorem qX4_set (hss : 0 ≤ s ∧ s < g 7) (hw : I32 w) (hx : I32 x) (bG : BG g) (bV : ∀ s, 0 ≤ s → s < g 7 → BV (v s)) (hn : 0 ≤ n ∧ n ≤ 9) (ht : 0 ≤ t ∧ t ≤ 10) (s1 : μ 0 6 = 1) (e4 : μ 0 4 = n) (s2 : μ 0 5 = t) (s6 : RelH μ 3 g v) (hO : ¬ setOk w x → Q (0, -1000002) μ) (hN : setOk w x → setNo g v s w x → Q (0, -1000003) μ)
    (hD : setOk w x → ¬ setNo g v s w x → ∀ μ1, RelH μ1 (106 + 51 * n) g v → μ1 0 4 = (if n = 9 then 0 else n + 1) → μ1 0 5 = min (t + 1) 10 → (∀ a b, ¬ (106 + 51 * n ≤ a ∧ a < 106 + 51 * n + 51) → ¬ (a = 0 ∧ (b = 4 ∨ b = 5)) → μ1 a b = μ a b) → Q (0, v s w) (upm μ1 (3 + 2 + 1 + 12 * s + 1) w x)) : MetP mX4_set [(104, 0), (0, s), (0, w), (0, x)] μ Q := by
  have b7 := bG.2.2.2.2.2.2.2
  have b6 := bG.2.2.2.2.2.2.1
  have d7 : μ 3 2 = g 7 := s6.1.2.1
  have hx' := hx
  have hw' := hw
  unfold I32 at hx' hw'
  have bs := bV s hss.1 hss.2
  have b0 : 0 ≤ v s 0 ∧ v s 0 ≤ 9 := bs.1
  have b1 : 1 ≤ v s 1 ∧ v s 1 ≤ 20 := bs.2.1
  have g0 : 1 ≤ g 0 ∧ g 0 ≤ 60 := bG.1
  have bL := leasts_bd bG bV
  have rs := (s6.2 s hss.1 hss.2).1
  have A : setOk w x → ¬ setNo g v s w x → ∀ z, OkE mX4_set 113 [(104, 0), (0, s), (0, w), (0, x), (1109, 3 + 2 + 1 + 12 * s + 1), z] [] μ Q := by
    intro ok no z
    have ok2 := ok
    unfold setOk at ok2
    refine OkE.go snX4_set [] 100 ?_
    refine qX4_keepForUndo hn ht e4 s2 (by omega) (by omega) bV s6 (fun μ1 l1 l2 l3 l4 => ?_)
    have m1 : RelH μ1 3 g v := s6.frame b7.2 bV (fun a b p q => l4 a b (by omega) (by omega))
    refine ⟨by omega, fun x1 e1 => ?_⟩
    obtain rfl : x1 = v s w := e1.trans ((m1.2 s hss.1 hss.2).1 w (by omega) (by omega))
    refine ⟨by omega, fun μ2 d2 => ?_⟩
    rw [show μ2 = upm μ1 (3 + 2 + 1 + 12 * s + 1) w x from d2]
    exact hD ok no μ1 l1 l2 l3 l4
  have J : setOk w x → (w = 1 → v s 0 ≤ x) → ∀ z, OkE mX4_set 72 [(104, 0), (0, s), (0, w), (0, x), (1109, 3 + 2 + 1 + 12 * s + 1), z] [] μ Q := by
    intro ok h1 z
    have ok2 := ok
    unfold setOk at ok2
    have sb := stV_bd (w := w) (by omega)
    refine OkE.go snX4_set [113] 100 ?_
    refine ⟨by omega, fun q => ?_, fun q => ?_⟩
    · exact A ok (fun h => h.elim (fun h => q h.1) (fun h => absurd h.2 (by have := h1 h.1; omega))) _
    · have w0 : w = 0 := by omega
      have ew : v s w = v s 0 := by rw [w0]
      refine ⟨by omega, fun x1 e1 => ?_⟩
      obtain rfl : x1 = v s 1 := e1.trans (rs 1 (by omega) (by omega))
      refine ⟨by omega, by omega, fun q2 => ?_, fun q2 => ?_⟩
      · exact hN ok (Or.inl ⟨w0, Or.inl q2⟩)
      · refine qX0_leasts (f := fun s => v s 0) (n := g 7) b7 s6.1.2.1 (fun s p q => (s6.2 s p q).1 0 (by omega) (by omega)) ?_
        refine ⟨by omega, fun x2 e2 => ?_⟩
        obtain rfl : x2 = v s 0 := e2.trans (rs 0 (by omega) (by omega))
        refine ⟨by omega, fun x3 e3 => ?_⟩
        obtain rfl : x3 = g 0 := e3.trans (s6.1.1 0 (by omega) (by omega))
        refine ⟨by omega, by omega, fun q3 => ?_, fun q3 => ?_⟩
        · exact A ok (fun h => h.elim (fun h => h.2.elim (fun h => absurd h q2) (fun h => absurd h (by omega))) (fun h => absurd h.1 (by omega))) _
        · exact hN ok (Or.inl ⟨w0, Or.inr (by omega)⟩)
  refine MetP.go snX4_set [72] 100 rfl rfl rfl rfl (fun _ => ?_)
  refine qX4_hasService (by unfold I32; omega) (Or.inr ⟨s1, by omega⟩) (fun _ q => ?_) (fun q => absurd ⟨s1, by omega⟩ q)
  refine ⟨by omega, fun _ => ?_, fun q => absurd q (by omega)⟩
  refine ⟨by omega, fun q => ?_, fun q2 => ?_⟩
  · exact hO (fun ok => absurd ok.1 (by omega))
  refine ⟨by omega, by omega, fun q => ?_, fun q3 => ?_⟩
  · exact hO (fun ok => absurd ok.2.1 (by omega))
  have sb := stV_bd (w := w) (by omega)
  refine ⟨rfl, by omega, fun x4 e4 => ?_⟩
  subst e4
  refine ⟨by omega, by omega, fun q => ?_, fun q4 => ?_⟩
  · exact hO (fun ok => absurd ok.2.2.1 (by omega))
  refine ⟨rfl, by omega, fun x5 e5 => ?_⟩
  subst e5
  refine ⟨by omega, by omega, fun q5 => ?_, fun q => ?_⟩
  · have ok : setOk w x := ⟨by omega, by omega, by omega, q5⟩
    refine ⟨by omega, ?_⟩
    refine ⟨by omega, by omega, fun q => ?_, fun q => ?_⟩
    · exact J ok (fun h => absurd h q) _
    · refine ⟨by omega, fun x1 e1 => ?_⟩
      obtain rfl : x1 = v s 0 := e1.trans (rs 0 (by omega) (by omega))
      refine ⟨by omega, by omega, fun q6 => ?_, fun q6 => ?_⟩
      · exact J ok (fun _ => q6) _
      · exact hN ok (Or.inr ⟨by omega, by omega⟩)
  · exact hO (fun ok => q ok.2.2.2)
/-- behind an act -/
theorem REL_act {v' μ1 μ2 ν1 : Mem} (hT : TXT μ ν) (hn : 0 ≤ μ 0 4 ∧ μ 0 4 ≤ 9) (ht : 0 ≤ t ∧ t ≤ 10) (s1 : μ 0 6 = 1) (s4 : RwM ν 0 g v) (s5 : GOOD N g v) (s7 : KEPT N μ ν (μ 0 4) t)
    (c1 : ν1 0 1 = min (t + 1) 10) (c2 : ∀ i, 0 ≤ i → i < 400 → ν1 1 (400 * min (t + 1) 10 + i) = ν 1 i) (c3 : ∀ k i, 1 ≤ k → k < min (t + 1) 10 → 0 ≤ i → i < 400 → ν1 1 (400 * k + i) = ν 1 (400 * (k + (if t = 10 then 1 else 0)) + i)) (c5 : ∀ c i, c ≠ 1 → ¬ (c = 0 ∧ i = 1) → ν1 c i = ν c i)
    (l1 : RelH μ1 (106 + 51 * μ 0 4) g v) (l2 : μ1 0 4 = (if μ 0 4 = 9 then 0 else μ 0 4 + 1)) (l3 : μ1 0 5 = min (t + 1) 10) (l4 : ∀ a b, ¬ (106 + 51 * μ 0 4 ≤ a ∧ a < 106 + 51 * μ 0 4 + 51) → ¬ (a = 0 ∧ (b = 4 ∨ b = 5)) → μ1 a b = μ a b)
    (hB : ∀ s, 0 ≤ s → s < g 7 → BV (v' s)) (n2 : ∀ a b, ¬ (3 ≤ a ∧ a < 54) → μ2 a b = μ1 a b) (hH : RelH μ2 3 g v') : REL N μ2 (wk ν1 0 g v' ν1) := by
  have KK := kept_note hn ht s7 s4 s5 l1 l4 c2 c3
  have w4 : μ2 0 4 = (if μ 0 4 = 9 then 0 else μ 0 4 + 1) := (n2 0 4 (by omega)).trans l2
  refine ⟨hT.keep (fun a b p => ?_) ?_ ?_ (fun i => ?_), ?_, Or.inr ⟨?_, min (t + 1) 10, g, v', by omega, ?_, ?_, RwM_of, ⟨s5.1, s5.2.1, hB⟩, hH, ?_⟩⟩
  · rw [n2 a b (by omega)]; exact l4 a b (by omega) (by omega)
  · rw [rd_o (by omega)]; exact c5 0 11 (by omega) (by omega)
  · rw [rd_o (by omega)]; exact c5 0 12 (by omega) (by omega)
  · rw [rd_o (by omega)]; exact c5 10 i (by omega) (by omega)
  · rw [w4]; split <;> omega
  · rw [n2 0 6 (by omega), l4 0 6 (by omega) (by omega)]; exact s1
  · rw [n2 0 5 (by omega)]; exact l3
  · rw [rd_o (by omega)]; exact c1
  · rw [w4]
    intro k p q
    obtain ⟨g', v', d1, d2, d3⟩ := KK k p q
    refine ⟨g', v', fun i p2 q2 => ?_, d2, ?_⟩
    · rw [rd_r k i rfl rfl (by omega)]; exact d1 i p2 q2
    · exact d3.frame d2.1.2.2.2.2.2.2.2.2 d2.2.2 (fun a b q1 q2 => n2 a b (by omega))
theorem ag_set (hs : I32 s) (hw : I32 w) (hx : I32 x) (h : REL N μ ν) : MetP mX5_set [(105, 0), (0, s), (0, w), (0, x)] ν (fun b ν' => MetP mX4_set [(104, 0), (0, s), (0, w), (0, x)] μ (fun a μ' => a = b ∧ REL N μ' ν')) := by
  obtain ⟨hT, hn, hst⟩ := id h
  rcases hst with ⟨s1, s2⟩ | ⟨s1, t, g, v, ht, s2, s3, s4, s5, s6, s7⟩
  · refine MetP.go snX5_set [] 100 rfl rfl rfl rfl (fun _ => ?_)
    refine qX5_isService hs (by omega) (fun q => absurd q (by omega)) (fun q => ?_)
    refine ⟨by omega, fun q => absurd rfl q, fun q => ?_⟩
    refine MetP.go snX4_set [] 100 rfl rfl rfl rfl (fun _ => ?_)
    refine qX4_hasService hs (Or.inl s1) (fun q => absurd q (by omega)) (fun q => ?_)
    refine ⟨by omega, fun q => absurd rfl q, fun q => ?_⟩
    exact ⟨rfl, h⟩
  · obtain ⟨bG, b6, bV⟩ := id s5
    have b7 := bG.2.2.2.2.2.2.2
    have e7 : ν 1 7 = g 7 := RwM_g s4 7 (by omega)
    have d7 : μ 3 2 = g 7 := s6.1.2.1
    by_cases hss : 0 ≤ s ∧ s < g 7
    · refine qX5_set hss hw hx bG bV s4 ht s3 (fun no => ?_) (fun ok no => ?_) (fun ok no ν1 c1 c2 c3 c4 c5 => ?_)
      · exact qX4_set hss hw hx bG bV hn ht s1 rfl s2 s6 (fun _ => ⟨rfl, h⟩) (fun ok => absurd ok no) (fun ok => absurd ok no)
      · exact qX4_set hss hw hx bG bV hn ht s1 rfl s2 s6 (fun no' => absurd ok no') (fun _ _ => ⟨rfl, h⟩) (fun _ no' => absurd no no')
      · refine qX4_set hss hw hx bG bV hn ht s1 rfl s2 s6 (fun no' => absurd ok no') (fun _ no' => absurd no' no) (fun _ _ μ1 l1 l2 l3 l4 => ⟨rfl, ?_⟩)
        have m1 : RelH μ1 3 g v := s6.frame b7.2 bV (fun a b p q => l4 a b (by omega) (by omega))
        have n2 : ∀ a b, ¬ (a = 3 + 2 + 1 + 12 * s + 1) → upm μ1 (3 + 2 + 1 + 12 * s + 1) w x a b = μ1 a b := fun a b hn => upm_ne (by omega)
        have uo : ∀ s', s' ≠ s → upm v s w x s' = v s' := fun s' hs' => by funext k; exact upm_ne (by omega)
        have ua : upm v s w x s w = x := upm_at _ _ _ _
        have un : ∀ j, j ≠ w → upm v s w x s j = v s j := fun j hj => upm_ne (by omega)
        have b9 := BV_9 (bV s hss.1 hss.2)
        refine REL_act hT hn ht s1 s4 s5 s7 c1 c2 c3 c5 l1 l2 l3 l4 (fun s' p q => ?_) (fun a b p => n2 a b (by omega)) ⟨⟨fun k p q => ?_, ?_, ?_, ?_⟩, fun s' p q => ?_⟩
        · by_cases hss : s' = s
          · subst hss
            refine BV_num (bV s' p q) ⟨ok.1, ok.2.1⟩ ⟨ok.2.2.1, ok.2.2.2⟩ (fun e => ?_) (fun e => ?_) ua un
            · rcases Int.lt_or_le (v s' 1) x with h1 | h1
              · exact absurd (Or.inl ⟨e, Or.inl h1⟩) no
              · exact h1
            · rcases Int.lt_or_le x (v s' 0) with h1 | h1
              · exact absurd (Or.inr ⟨e, h1⟩) no
              · exact h1
          · rw [uo s' hss]; exact bV s' p q
        · rw [n2 _ _ (by omega)]; exact m1.1.1 k p q
        · rw [n2 _ _ (by omega)]; exact m1.1.2.1
        · rw [n2 _ _ (by omega)]; exact m1.1.2.2.1
        · rw [n2 _ _ (by omega)]; exact m1.1.2.2.2
        · by_cases hss : s' = s
          · subst hss; exact RelS_num (m1.2 s' p q) b9.2 ⟨ok.1, ok.2.1⟩ ua un
          · rw [uo s' hss]; exact (m1.2 s' p q).frame (BV_9 (bV s' p q)).2 (fun a b p3 p4 => n2 a b (by omega))
    · refine MetP.go snX5_set [] 100 rfl rfl rfl rfl (fun _ => ?_)
      refine qX5_isService hs (by omega) (fun q => absurd q (by omega)) (fun q => ?_)
      refine ⟨by omega, fun q => absurd rfl q, fun q => ?_⟩
      refine MetP.go snX4_set [] 100 rfl rfl rfl rfl (fun _ => ?_)
      refine qX4_hasService hs (Or.inr ⟨s1, by omega⟩) (fun _ q => absurd q (by omega)) (fun q => ?_)
      refine ⟨by omega, fun q => absurd rfl q, fun q => ?_⟩
      exact ⟨rfl, h⟩
end T62
