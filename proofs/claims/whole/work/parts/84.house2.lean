section T84
variable {N : Int} {μ ν μ0 : Mem} {B : Int → Int} {Q : PV → Mem → Prop} {n p q e x c lo hi s m w j h b : Int} {S R : PS} {i k : Nat}
theorem qX5_house (h0 : MT B n ν) (hb : ∀ ν', (P5 B n).1 ≠ 0 → ν' 0 11 = 0 → ν' 0 12 = (P5 B n).1 → (∀ c i, ¬ (c = 0 ∧ 11 ≤ i ∧ i ≤ 18) → ¬ (c = 1 ∧ 4800 ≤ i ∧ i < 5200) → ν' c i = ν c i) → Q (0, -100 - beg B n (P5 B n).2.1) ν')
    (hg : ∀ ν', (P5 B n).1 = 0 → ν' 0 11 = 0 → ν' 0 12 = 0 → ν' 0 1 = 0 → RwM ν' 0 (upg (P5 B n).2.2.1 5 ((P5 B n).2.2.1 2)) (P5 B n).2.2.2 → (∀ i, ν' 10 i = ν 10 i) → Q (0, (P5 B n).2.2.1 7) ν') : MetP mX5_house [(105, 0)] ν Q := by
  -- behind the reading
  have J74 : ∀ (ν0 ν' : Mem) (z : PV), (∀ c i, ¬ (c = 0 ∧ 13 ≤ i ∧ i ≤ 18) → ¬ (c = 1 ∧ 4800 ≤ i ∧ i < 5200) → ν0 c i = ν c i) → MR B n ν0 ν' (P5 B n) → OkE mX5_house 74 [(105, 0), z] [] ν' Q := by
    intro ν0 ν' z hf0 k
    have ok := P5_ok (B := B) (n := n)
    generalize P5 B n = T at hb hg k ok
    obtain ⟨⟨a1, a2, a3⟩, -, a5, a6⟩ := id k
    have a14 := k.fld.2.1
    have bb := beg_bd h0.1 T.2.1
    refine OkE.go snX5_house [] 100 ?_
    intro ν1 d1
    have n1 : ∀ a b, ¬ (a = 0 ∧ b = 11) → ν1 a b = ν' a b := fun a b hn => by rw [d1]; exact upm_ne hn
    have w1 : ν1 0 11 = 0 := by rw [d1]; exact upm_at _ _ _ _
    intro x2 e2
    obtain rfl := e2.trans ((n1 0 18 (by omega)).trans a1)
    intro ν3 d3
    have n3 : ∀ a b, ¬ (a = 0 ∧ b = 12) → ν3 a b = ν1 a b := fun a b hn => by rw [d3]; exact upm_ne hn
    have w3 : ν3 0 12 = T.1 := by rw [d3]; exact upm_at _ _ _ _
    have w31 : ν3 0 11 = 0 := (n3 0 11 (by omega)).trans w1
    have N3 : ∀ a b, ¬ (a = 0 ∧ (b = 11 ∨ b = 12)) → ν3 a b = ν' a b := fun a b hn => by rw [n3 a b (by omega), n1 a b (by omega)]
    intro x4 e4
    obtain rfl := e4.trans ((N3 0 18 (by omega)).trans a1)
    refine ⟨by omega, fun q => ?_, fun q => ?_⟩
    · have hz : T.1 = 0 := by omega
      obtain ⟨c0, c1, c2⟩ := ok hz
      obtain ⟨z1, z2, z3, z4⟩ := c2 hz
      have r12 : RwM ν3 12 T.2.2.1 T.2.2.2 := RwM_eq (a5 hz) (fun i p q => N3 1 i (by omega))
      have TT : ∀ Q0, Q0 (0, T.2.2.1 2) ν3 → MetP mX5_of [(105, 0), (0, 12), (0, 2)] ν3 Q0 := fun Q0 hh => by
        rw [RwM_wk r12]
        refine qX5_of 2 (by omega) (by omega) ?_
        rw [← RwM_wk r12]
        exact hh
      refine TT _ ?_
      refine qX5_lays_raw (by omega) ?_
      have e5 : upm ν3 1 (400 * 12 + 5) (T.2.2.1 2) = wk ν3 12 (upg T.2.2.1 5 (T.2.2.1 2)) T.2.2.2 ν3 := (congrArg (fun z => upm z 1 (400 * 12 + 5) (T.2.2.1 2)) (RwM_wk r12)).trans (wr_g 5 rfl rfl (by omega))
      rw [e5]
      refine qX5_copies (by omega) (by omega) (by omega) ?_
      rw [RwM_cp RwM_of]
      intro ν6 d6
      have n6 : ∀ a b, ¬ (a = 0 ∧ b = 1) → ν6 a b = wk (wk ν3 12 (upg T.2.2.1 5 (T.2.2.1 2)) T.2.2.2 ν3) 0 (upg T.2.2.1 5 (T.2.2.1 2)) T.2.2.2 (wk ν3 12 (upg T.2.2.1 5 (T.2.2.1 2)) T.2.2.2 ν3) a b := fun a b hn => by rw [d6]; exact upm_ne hn
      have w6 : ν6 0 1 = 0 := by rw [d6]; exact upm_at _ _ _ _
      have r0 : RwM ν6 0 (upg T.2.2.1 5 (T.2.2.1 2)) T.2.2.2 := RwM_eq RwM_of (fun i p q => n6 1 i (by omega))
      have o6 : ∀ a b, (a ≤ 0 ∨ 10 ≤ a) → ¬ (a = 0 ∧ b = 1) → ν6 a b = ν3 a b := fun a b ha hn => by
        rw [n6 a b hn, rd_o ha, rd_o ha]
      refine ⟨by omega, fun x7 e7 => ?_⟩
      have e7' : x7 = T.2.2.1 7 := by
        refine e7.trans ((RwM_g r0 7 (by omega)).trans ?_)
        rw [upg_ne (by omega)]
      rw [e7']
      refine hg ν6 hz ?_ ?_ w6 r0 (fun i => ?_)
      · rw [o6 0 11 (by omega) (by omega)]; exact w31
      · rw [o6 0 12 (by omega) (by omega)]; exact w3.trans hz
      · rw [o6 10 i (by omega) (by omega), N3 10 i (by omega), a6 10 i (by omega) (by omega)]; exact hf0 10 i (by omega) (by omega)
    · intro x5 e5
      obtain rfl := e5.trans ((N3 0 14 (by omega)).trans a14)
      refine hb ν3 (by omega) w31 w3 (fun c i p q => ?_)
      rw [N3 c i (by omega), a6 c i (by omega) q]
      exact hf0 c i (by omega) q
  have L52 : ∀ (ν0 : Mem) (z : PV), MT B n ν0 → (∀ c i, ¬ (c = 0 ∧ 13 ≤ i ∧ i ≤ 18) → ¬ (c = 1 ∧ 4800 ≤ i ∧ i < 5200) → ν0 c i = ν c i) → ∀ (d i : Nat) (ν' : Mem), i + d = 4 → i ≠ 0 → MR B n ν0 ν' (PN B n i) → OkE mX5_house 52 [(105, 0), z] [] ν' Q := by
    intro ν0 z hM hf0 d
    induction d with
    | zero =>
      intro i ν' hi hi0 k
      have hi4 : i = 4 := by omega
      obtain ⟨⟨a1, a2, a3⟩, -⟩ := id k
      have t17 := k.fld.2.2.2.2
      have tb := tok_bd h0.1 (PN B n i).2.1
      refine OkE.go snX5_house [52, 74] 100 ?_
      intro x1 e1
      obtain rfl := e1.trans a1
      refine ⟨by omega, fun q => ?_, fun q => ?_⟩
      · refine J74 ν0 ν' z hf0 ?_
        rw [P5_stop (B := B) (n := n) (i := i) hi0 (by omega) (fun h => q h.1)]
        exact k
      · have hz : (PN B n i).1 = 0 := by omega
        intro x2 e2
        have e4 : (x2 = -1 ∧ tok B n (PN B n i).2.1 = -1) ∨ (0 ≤ x2 ∧ x2 ≤ 600 ∧ tok B n (PN B n i).2.1 ≠ -1) := by
          rw [e2.trans t17]
          split
          · omega
          · split <;> omega
        refine ⟨by omega, by omega, fun q2 => ?_, fun q2 => ?_⟩
        · refine J74 ν0 ν' z hf0 ?_
          rw [P5_stop (B := B) (n := n) (i := i) hi0 (by omega) (fun h => h.2 (by omega))]
          exact k
        · have htk : tok B n (PN B n i).2.1 ≠ -1 := by omega
          obtain ⟨c0, c1, c2, c3⟩ := (ZN (B := B) (n := n) i).2 hz hi0
          have ec := c3 htk
          refine qM_service (s := 4) hM k hz (by omega) (by rw [ec, hi4] at c2; rw [hi4]; exact c2) (fun _ => htk) (fun _ ν2 k2 => ?_) (fun h => absurd h (by omega))
          have eP : pfi B n (PN B n i) = P5 B n := by rw [P5_eq, hi4]
          have ne : (pfi B n (PN B n i)).1 ≠ 0 := by
            unfold pfi
            rw [if_pos ⟨hz, htk⟩]
            show (if tok B n (PN B n i).2.1 = 115 then (3 : Int) else 1) ≠ 0
            split <;> omega
          rw [eP] at k2 ne
          obtain ⟨⟨b1, b2, b3⟩, -⟩ := id k2
          refine OkE.go snX5_house [74] 100 ?_
          intro x3 e3
          have e3' : x3 = (P5 B n).1 := e3.trans b1
          refine ⟨by omega, fun _ => ?_, fun q => absurd q (by omega)⟩
          exact J74 ν0 ν2 z hf0 k2
    | succ d ih =>
      intro i ν' hi hi0 k
      obtain ⟨⟨a1, a2, a3⟩, -⟩ := id k
      have t17 := k.fld.2.2.2.2
      have tb := tok_bd h0.1 (PN B n i).2.1
      refine OkE.go snX5_house [52, 74] 100 ?_
      intro x1 e1
      obtain rfl := e1.trans a1
      refine ⟨by omega, fun q => ?_, fun q => ?_⟩
      · refine J74 ν0 ν' z hf0 ?_
        rw [P5_stop (B := B) (n := n) (i := i) hi0 (by omega) (fun h => q h.1)]
        exact k
      · have hz : (PN B n i).1 = 0 := by omega
        intro x2 e2
        have e4 : (x2 = -1 ∧ tok B n (PN B n i).2.1 = -1) ∨ (0 ≤ x2 ∧ x2 ≤ 600 ∧ tok B n (PN B n i).2.1 ≠ -1) := by
          rw [e2.trans t17]
          split
          · omega
          · split <;> omega
        refine ⟨by omega, by omega, fun q2 => ?_, fun q2 => ?_⟩
        · refine J74 ν0 ν' z hf0 ?_
          rw [P5_stop (B := B) (n := n) (i := i) hi0 (by omega) (fun h => h.2 (by omega))]
          exact k
        · have htk : tok B n (PN B n i).2.1 ≠ -1 := by omega
          obtain ⟨c0, c1, c2, c3⟩ := (ZN (B := B) (n := n) i).2 hz hi0
          have ec := c3 htk
          refine qM_service (s := (i : Int)) hM k hz (by omega) (by rw [ec] at c2; exact c2) (fun h => absurd h (by omega)) (fun h => absurd h (by omega)) (fun _ ν2 k2 => ?_)
          refine ih (i + 1) ν2 (by omega) (by omega) ?_
          rw [PN_go hz (Or.inr htk)]
          exact k2
  have J23 : ∀ (ν' : Mem) (z : PV), (∀ c i, ¬ (c = 1 ∧ 4800 ≤ i ∧ i < 5200) → ν' c i = ν c i) → RwM ν' 12 (fun _ => 0) (fun _ _ => 0) → OkE mX5_house 23 [(105, 0), z] [] ν' Q := by
    intro ν' z hf hr
    refine OkE.go snX5_house [52] 100 ?_
    intro ν1 d1
    have n1 : ∀ a b, ¬ (a = 0 ∧ b = 13) → ν1 a b = ν' a b := fun a b hn => by rw [d1]; exact upm_ne hn
    have w1 : ν1 0 13 = 0 := by rw [d1]; exact upm_at _ _ _ _
    intro ν2 d2
    have n2 : ∀ a b, ¬ (a = 0 ∧ b = 18) → ν2 a b = ν1 a b := fun a b hn => by rw [d2]; exact upm_ne hn
    have w2 : ν2 0 18 = 0 := by rw [d2]; exact upm_at _ _ _ _
    have N2 : ∀ a b, ¬ (a = 0 ∧ (b = 13 ∨ b = 18)) → ν2 a b = ν' a b := fun a b hn => by rw [n2 a b (by omega), n1 a b (by omega)]
    have m2 : MT B n ν2 := ⟨h0.1, by rw [N2 0 11 (by omega), hf 0 11 (by omega)]; exact h0.2.1, fun i p q => by rw [N2 10 i (by omega), hf 10 i (by omega)]; exact h0.2.2 i p q⟩
    refine qX5_reads (p := 0) h0.1 m2.2.1 m2.2.2 ⟨by omega, h0.1.1.1⟩ (by rw [n2 _ _ (by omega)]; exact w1) (fun ν3 t3 f3 => ?_)
    have k3 : MR B n ν2 ν3 (0, 0, fun _ => 0, fun _ _ => 0) := ⟨⟨by rw [f3 0 18 (by omega)]; exact w2, by show (0 : Int) ≤ 0; omega, by show (0 : Int) ≤ 4; omega⟩, t3, fun _ => RwM_eq hr (fun i p q => by rw [f3 1 i (by omega), N2 1 i (by omega)]), fun c i p q => f3 c i (by omega)⟩
    have hf0 : ∀ c i, ¬ (c = 0 ∧ 13 ≤ i ∧ i ≤ 18) → ¬ (c = 1 ∧ 4800 ≤ i ∧ i < 5200) → ν2 c i = ν c i := fun c i p q => by rw [N2 c i (by omega)]; exact hf c i q
    refine qM_head m2 k3 (fun ν4 k4 => ?_)
    obtain ⟨⟨a1, a2, a3⟩, -⟩ := id k4
    intro x5 e5
    obtain rfl := e5.trans a1
    refine ⟨by omega, fun q => ?_, fun q => ?_⟩
    · have e1 : PN B n 1 = PN B n 0 := PN_bad0 q
      refine L52 ν2 z m2 hf0 3 1 ν4 (by omega) (by omega) ?_
      rw [e1]
      exact k4
    · have hz : (hdP B n 5).1 = 0 := by omega
      refine qM_service (s := 0) m2 k4 hz (by omega) ZI_hd (fun h => absurd h (by omega)) (fun h => absurd h (by omega)) (fun _ ν5 k5 => ?_)
      refine L52 ν2 z m2 hf0 3 1 ν5 (by omega) (by omega) ?_
      have e1 : PN B n (0 + 1) = svP B n ((0 : Nat) : Int) (PN B n 0) := PN_go hz (Or.inl rfl)
      rw [show (1 : Nat) = 0 + 1 from rfl, e1]
      exact k5
  have L2 : ∀ (d : Nat) (k : Int) (ν' : Mem), 0 ≤ k → k + d = 400 → ν' = (fun c i => if c = 1 ∧ 4800 ≤ i ∧ i < 4800 + k then 0 else ν c i) → OkE mX5_house 2 [(105, 0), (0, k)] [] ν' Q := by
    intro d
    induction d with
    | zero =>
      intro k ν' hk0 hd e
      refine OkE.go snX5_house [2, 23] 100 ?_
      refine ⟨by omega, by omega, fun _ => ?_, fun q => absurd q (by omega)⟩
      refine J23 ν' _ (fun c i hn => ?_) (fun i p q => ?_)
      · rw [e]; dsimp only; rw [if_neg (by omega)]
      · rw [e]
        dsimp only
        rw [if_pos (by omega)]
        unfold rowOf
        split <;> rfl
    | succ d ih =>
      intro k ν' hk0 hd e
      refine OkE.go snX5_house [2, 23] 100 ?_
      refine ⟨by omega, by omega, fun q => absurd q (by omega), fun _ => ?_⟩
      refine qX5_lays_raw (by omega) ?_
      refine ih (k + 1) _ (by omega) (by omega) ?_
      rw [e]
      funext c i
      unfold upm
      by_cases hc : c = 1 ∧ i = 400 * 12 + k
      · rw [if_pos hc, if_pos (by omega)]
      · rw [if_neg hc]
        dsimp only
        by_cases hd : c = 1 ∧ 4800 ≤ i ∧ i < 4800 + k
        · rw [if_pos hd, if_pos (by omega)]
        · rw [if_neg hd, if_neg (by omega)]
  refine MetP.go snX5_house [2] 100 rfl rfl rfl rfl (fun _ => ?_)
  refine L2 400 0 ν (by omega) (by omega) ?_
  funext c i
  rw [if_neg (by omega)]
theorem BG_P5 {c : Int} (hc : 1 ≤ c ∧ c ≤ 4) (hz : (P5 B n).1 = 0) (hZ : ZI c (P5 B n)) : BG (upg (P5 B n).2.2.1 5 ((P5 B n).2.2.1 2)) ∧ upg (P5 B n).2.2.1 5 ((P5 B n).2.2.1 2) 6 = 0 ∧ upg (P5 B n).2.2.1 5 ((P5 B n).2.2.1 2) 7 = c ∧ ∀ s, 0 ≤ s → s < c → BV ((P5 B n).2.2.2 s) ∧ FRS ((P5 B n).2.2.2 s) := by
  obtain ⟨⟨b0, b1, b2, b3, b4, b5, b6⟩, z7, z3, -⟩ := hZ hz
  generalize (P5 B n).2.2.1 = g at b0 b1 b2 b3 b4 b5 b6 z7 ⊢
  refine ⟨?_, ?_, ?_, z3⟩
  · unfold BG
    rw [upg_ne (show (0 : Int) ≠ 5 by omega), upg_ne (show (1 : Int) ≠ 5 by omega), upg_ne (show (2 : Int) ≠ 5 by omega), upg_ne (show (3 : Int) ≠ 5 by omega), upg_ne (show (4 : Int) ≠ 5 by omega), upg_at, upg_ne (show (6 : Int) ≠ 5 by omega), upg_ne (show (7 : Int) ≠ 5 by omega)]
    omega
  · rw [upg_ne (by omega)]; exact b6
  · rw [upg_ne (by omega)]; exact z7
theorem qX4_house (h0 : CT B n μ) (hb : ∀ μ', (P5 B n).1 ≠ 0 → μ' 1 1 = 0 → μ' 1 6 = (P5 B n).1 → (∀ c i, ¬ (c = 1 ∧ 1 ≤ i ∧ i ≤ 6) → ¬ (54 ≤ c ∧ c < 105) → μ' c i = μ c i) → Q (0, -100 - beg B n (P5 B n).2.1) μ')
    (hg : ∀ μ', (P5 B n).1 = 0 → μ' 1 1 = 0 → μ' 1 6 = 0 → RelH μ' 3 (upg (P5 B n).2.2.1 5 ((P5 B n).2.2.1 2)) (P5 B n).2.2.2 → μ' 0 6 = 1 → μ' 0 5 = 0 → μ' 0 4 = μ 0 4 → Q (0, (P5 B n).2.2.1 7) μ') : MetP mX4_house [(104, 0)] μ Q := by
  refine MetP.go snX4_house [] 100 rfl rfl rfl rfl (fun _ => ?_)
  refine qX3_readInto h0 (fun μ1 g1 g2 g3 g4 g5 => ?_) (fun μ1 g1 g2 => ?_)
  · obtain ⟨c0, c1, c2⟩ := P5_ok g1
    obtain ⟨q1, q2, q3, q4⟩ := BG_P5 c1 g1 c2
    have z7 := (c2 g1).2.1
    intro μ2 d2
    have n2 : ∀ a b, ¬ (a = 1 ∧ b = 1) → μ2 a b = μ1 a b := fun a b hn => by rw [d2]; exact upm_ne hn
    have w2 : μ2 1 1 = 0 := by rw [d2]; exact upm_at _ _ _ _
    refine ⟨by omega, fun _ => ?_, fun q => absurd q (by omega)⟩
    refine qX0_begin (g := upg (P5 B n).2.2.1 5 ((P5 B n).2.2.1 2)) (v := (P5 B n).2.2.2) (by omega) (fun k p q => ?_) ?_ q2 ?_ (fun s p q => ?_) (fun μ3 r3 f3 => ?_)
    · rw [n2 _ _ (by omega), upg_ne (by omega)]; exact g5 k p q
    · rw [n2 _ _ (by omega), upg_ne (by omega)]; exact g3
    · rw [upg_at, upg_ne (by omega)]
    · rw [q3] at q
      refine ⟨?_, (q4 s p q).2, BV_9 (q4 s p q).1⟩
      exact (g4 s p (by omega)).frame (BV_9 (q4 s p q).1).2 (fun a b p1 p2 => n2 a b (by omega))
    refine qX0_copyFrom (g := upg (P5 B n).2.2.1 5 ((P5 B n).2.2.1 2)) (v := (P5 B n).2.2.2) (by omega) (by omega) (by omega) (fun s p q => (q4 s p (by omega)).1) r3 (fun μ4 r4 f4 => ?_)
    refine ⟨by omega, fun μ5 d5 => ?_⟩
    have n5 : ∀ a b, ¬ (a = 0 ∧ b = 6) → μ5 a b = μ4 a b := fun a b hn => by rw [d5]; exact upm_ne hn
    have w5 : μ5 0 6 = 1 := by rw [d5]; exact upm_at _ _ _ _
    intro μ6 d6
    have n6 : ∀ a b, ¬ (a = 0 ∧ b = 5) → μ6 a b = μ5 a b := fun a b hn => by rw [d6]; exact upm_ne hn
    have w6 : μ6 0 5 = 0 := by rw [d6]; exact upm_at _ _ _ _
    have F : ∀ a b, ¬ (a = 0 ∧ (b = 5 ∨ b = 6)) → ¬ (3 ≤ a ∧ a < 105) → ¬ (a = 1 ∧ b = 1) → μ6 a b = μ1 a b := fun a b p1 p2 p3 => by
      rw [n6 a b (by omega), n5 a b (by omega), f4 a b (by omega), f3 a b (by omega), n2 a b p3]
    have r6 : RelH μ6 3 (upg (P5 B n).2.2.1 5 ((P5 B n).2.2.1 2)) (P5 B n).2.2.2 := r4.frame (by omega) (fun s p q => (q4 s p (by omega)).1) (fun a b p1 p2 => by rw [n6 a b (by omega), n5 a b (by omega)])
    intro x7 e7
    have e7' : x7 = (P5 B n).2.2.1 7 := (e7.trans r6.1.2.1).trans (upg_ne (by omega))
    rw [e7']
    refine hg μ6 g1 ?_ ?_ r6 ?_ w6 ?_
    · rw [n6 _ _ (by omega), n5 _ _ (by omega), f4 _ _ (by omega), f3 _ _ (by omega)]; exact w2
    · rw [F 1 6 (by omega) (by omega) (by omega)]; exact g2.1
    · rw [n6 _ _ (by omega)]; exact w5
    · rw [F 0 4 (by omega) (by omega) (by omega)]; exact g2.2.2 0 4 (by omega) (by omega)
  · have bb := beg_bd h0.1 (P5 B n).2.1
    intro μ2 d2
    have n2 : ∀ a b, ¬ (a = 1 ∧ b = 1) → μ2 a b = μ1 a b := fun a b hn => by rw [d2]; exact upm_ne hn
    have w2 : μ2 1 1 = 0 := by rw [d2]; exact upm_at _ _ _ _
    refine ⟨by omega, fun q => absurd rfl q, fun _ => ?_⟩
    intro x3 e3
    obtain rfl := e3.trans ((n2 1 3 (by omega)).trans g2.fld.2.1)
    exact hb μ2 g1 w2 ((n2 1 6 (by omega)).trans g2.1) (fun c i p q => (n2 c i (by omega)).trans (g2.2.2 c i (by omega) q))
theorem REL.keep {μ' ν' : Mem} (h : REL N μ ν) (hT : TXT μ' ν') (hμ : ∀ a b, ¬ (a = 1 ∨ a = 2) → ¬ (54 ≤ a ∧ a < 105) → μ' a b = μ a b) (h1 : ∀ i, i < 4400 → ν' 1 i = ν 1 i) (h01 : ν' 0 1 = ν 0 1) : REL N μ' ν' := by
  obtain ⟨a1, a2, a3⟩ := h
  have e4 := hμ 0 4 (by omega) (by omega)
  refine ⟨hT, by rw [e4]; exact a2, ?_⟩
  rcases a3 with ⟨s1, s2⟩ | ⟨s1, t, g, v, ht, s2, s3, s4, s5, s6, s7⟩
  · exact Or.inl ⟨by rw [hμ 0 6 (by omega) (by omega)]; exact s1, by rw [h1 7 (by omega)]; exact s2⟩
  · have b7 := s5.1.2.2.2.2.2.2.2
    refine Or.inr ⟨by rw [hμ 0 6 (by omega) (by omega)]; exact s1, t, g, v, ht, by rw [hμ 0 5 (by omega) (by omega)]; exact s2, by rw [h01]; exact s3, RwM_eq s4 (fun i _ _ => h1 i (by omega)), s5, s6.frame b7.2 s5.2.2 (fun a b p q => hμ a b (by omega) (by omega)), ?_⟩
    rw [e4]
    intro k p q
    obtain ⟨g', v', d1, d2, d3⟩ := s7 k p q
    exact ⟨g', v', RwM_eq d1 (fun i _ _ => h1 i (by omega)), d2, d3.frame d2.1.2.2.2.2.2.2.2.2 d2.2.2 (fun a b q1 q2 => hμ a b (by omega) (by omega))⟩
theorem ag_house (hN : 0 ≤ N) (h : REL N μ ν) : MetP mX5_house [(105, 0)] ν (fun zb ν' => MetP mX4_house [(104, 0)] μ (fun za μ' => za = zb ∧ REL N μ' ν')) := by
  obtain ⟨⟨t1, t2, t3, t4⟩, hn, hst⟩ := id h
  have hT : TX (fun i => ν 10 i) (ν 0 11) := ⟨t1, fun i p q => (t3 i p q).2⟩
  have hM : MT (fun i => ν 10 i) (ν 0 11) ν := ⟨hT, rfl, fun _ _ _ => rfl⟩
  have hC : CT (fun i => ν 10 i) (ν 0 11) μ := ⟨hT, t2, fun i p q => (t3 i p q).1⟩
  generalize (fun i => ν 10 i) = B at hT hM hC
  generalize ν 0 11 = n at hT hM hC
  refine qX5_house hM (fun ν' g1 g2 g3 g4 => ?_) (fun ν' g1 g2 g3 g4 g5 g6 => ?_)
  · refine qX4_house hC (fun μ' j1 j2 j3 j4 => ⟨rfl, ?_⟩) (fun μ' j1 => absurd j1 g1)
    refine h.keep ⟨by rw [g2]; omega, by rw [g2]; exact j2, fun i p q => absurd q (by rw [g2]; omega), by rw [g3]; exact j3⟩ (fun a b p q => j4 a b (by omega) q) (fun i hi => g4 1 i (by omega) (by omega)) (g4 0 1 (by omega) (by omega))
  · refine qX4_house hC (fun μ' j1 => absurd g1 j1) (fun μ' j1 j2 j3 j4 j5 j6 j7 => ⟨rfl, ?_⟩)
    obtain ⟨c0, c1, c2⟩ := P5_ok g1
    obtain ⟨q1, q2, q3, q4⟩ := BG_P5 c1 g1 c2
    refine ⟨⟨by rw [g2]; omega, by rw [g2]; exact j2, fun i p q => absurd q (by rw [g2]; omega), by rw [g3]; exact j3⟩, by rw [j7]; exact hn, Or.inr ⟨j5, 0, _, _, by omega, j6, g4, g5, ⟨q1, by rw [q2]; exact hN, fun s p q => (q4 s p (by omega)).1⟩, j4, fun k p q => absurd p (by omega)⟩⟩
end T84
