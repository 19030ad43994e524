section T48
variable {N : Int} {μ ν : Mem} {g : Int → Int} {v : Mem} {Q : PV → Mem → Prop}
theorem RwM_g {r : Int} (h : RwM ν r g v) (k : Int) (hk : 0 ≤ k ∧ k < 8) : ν 1 (400 * r + k) = g k := (congrFun (congrFun (RwM_wk h) 1) (400 * r + k)).trans (rd_g k rfl rfl hk)
theorem RwM_v {r : Int} (h : RwM ν r g v) (s w : Int) (hb : 0 ≤ s ∧ s < 4 ∧ 0 ≤ w ∧ w < 98) : ν 1 (400 * r + 8 + 98 * s + w) = v s w := (congrFun (congrFun (RwM_wk h) 1) (400 * r + 8 + 98 * s + w)).trans (rd_v s w rfl rfl hb)
theorem RwM_of {r : Int} {W : Mem} : RwM (wk ν r g v W) r g v := fun i p q => by
  unfold wk
  rw [if_pos (by omega)]; congr 1; omega
theorem RwM_eq {ν' : Mem} {r : Int} (h : RwM ν r g v) (e : ∀ i, 400 * r ≤ i → i < 400 * r + 400 → ν' 1 i = ν 1 i) : RwM ν' r g v := fun i p q => (e _ (by omega) (by omega)).trans (h i p q)
theorem GOOD_does {W : Mem} (hN : N < 100000) (h : GOOD N g v) : GOOD (N + 1) (doesX g v W).1 (doesX g v W).2.1 := by
  obtain ⟨a1, a2, a3⟩ := h
  obtain ⟨b1, b2, b3⟩ := does_BG (W := W) a1 (by omega) a3
  refine ⟨b1, by omega, fun s p q => ?_⟩
  rw [b2 7 (by omega) (by omega)] at q
  exact (does_BV a1 a3 ⟨p, q⟩).2.1
theorem ag_round (hN : 0 ≤ N ∧ N < 100000) (h : REL N μ ν) : MetP mX5_round [(105, 0)] ν (fun b ν' => MetP mX4_round [(104, 0)] μ (fun a μ' => a = b ∧ REL (N + 1) μ' ν')) := by
  obtain ⟨hT, hn, hs⟩ := id h
  refine MetP.go snX5_round [] 100 rfl rfl rfl rfl (fun _ => ?_)
  rcases hs with ⟨s1, s2⟩ | ⟨s1, t, g, v, ht, s2, s3, s4, s5, s6, s7⟩
  · refine qX5_isHouse (fun _ => ?_) (fun q => absurd q (by omega)) (by omega)
    refine ⟨by omega, fun q => absurd rfl q, fun q => ?_⟩
    refine MetP.go snX4_round [] 100 rfl rfl rfl rfl (fun _ => ?_)
    intro x1 e1
    obtain rfl : x1 = 0 := e1.trans s1
    refine ⟨by omega, fun q => absurd rfl q, fun q => ?_⟩
    exact ⟨rfl, h.le (by omega)⟩
  · obtain ⟨bG, b6, bV⟩ := id s5
    have b7 := bG.2.2.2.2.2.2.2
    have b60 := bG.2.2.2.2.2.2.1
    have e7 : ν 1 7 = g 7 := RwM_g s4 7 (by omega)
    refine qX5_isHouse (fun q => absurd q (by omega)) (fun _ => ?_) (by omega)
    refine ⟨by omega, fun q => ?_, fun q => absurd q (by omega)⟩
    refine qX5_notes ht s3 (fun ν1 c1 c2 c3 c4 c5 => ?_)
    have r1 : RwM ν1 0 g v := RwM_eq s4 (fun i p q => c4 i (by omega))
    rw [RwM_wk r1]
    refine qX5_does (r := 0) (by omega) bG bV ?_
    obtain ⟨f1, f2, f3⟩ := does_BG (W := ν1) bG (by omega) bV
    have f7 := f2 7 (by omega) (by omega)
    refine qX5_allCounts (r := 0) (by omega) (by omega) ?_
    refine MetP.go snX4_round [] 100 rfl rfl rfl rfl (fun _ => ?_)
    intro x1 e1
    obtain rfl : x1 = 1 := e1.trans s1
    refine ⟨by omega, fun q => ?_, fun q => absurd q (by omega)⟩
    refine qX4_keepForUndo hn ht rfl s2 (by omega) (by omega) bV s6 (fun μ1 k1 k2 k3 k4 => ?_)
    have m1 : RelH μ1 3 g v := s6.frame b7.2 bV (fun a b p q => k4 a b (by omega) (by omega))
    have KK := kept_note hn ht s7 s4 s5 k1 k4 c2 c3
    refine qX0_playRound ν1 bG (by omega) bV m1.1 m1.2 (fun μ2 j1 j2 j3 j4 => ?_)
    refine qX0_servers (f := fun s => cntV ((doesX g v ν1).2.1 s)) (n := (doesX g v ν1).1 7) (by omega) j1.2.1 (fun s p q => (j2 s p (by omega)).2.1.2.1) ?_
    refine ⟨rfl, ?_⟩
    have w4 : μ2 0 4 = (if μ 0 4 = 9 then 0 else μ 0 4 + 1) := (j4 0 4 (by omega)).trans k2
    refine ⟨hT.keep (fun a b p => ?_) ?_ ?_ (fun i => ?_), ?_, Or.inr ⟨?_, min (t + 1) 10, (doesX g v ν1).1, (doesX g v ν1).2.1, by omega, ?_, ?_, RwM_of, GOOD_does (by omega) s5, ⟨j1, fun s p q => ?_⟩, ?_⟩⟩
    · rw [j4 a b (by omega)]; exact k4 a b (by omega) (by omega)
    · rw [rd_o (by omega)]; exact c5 0 11 (by omega) (by omega)
    · rw [rd_o (by omega)]; exact c5 0 12 (by omega) (by omega)
    · rw [rd_o (by omega)]; exact c5 10 i (by omega) (by omega)
    · rw [w4]; split <;> omega
    · rw [j4 0 6 (by omega), k4 0 6 (by omega) (by omega)]; exact s1
    · rw [j4 0 5 (by omega)]; exact k3
    · rw [rd_o (by omega)]; exact c1
    · rw [f3]; exact j2 s p (by omega)
    · rw [w4]
      intro k p q
      obtain ⟨g', v', d1, d2, d3⟩ := KK k p q
      refine ⟨g', v', fun i p2 q2 => ?_, d2.le (by omega), ?_⟩
      · rw [rd_r k i rfl rfl (by omega)]; exact d1 i p2 q2
      · exact d3.frame d2.1.2.2.2.2.2.2.2.2 d2.2.2 (fun a b q1 q2 => j4 a b (by omega))
end T48
