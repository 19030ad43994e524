section T79
variable {μ ν ν0 : Mem} {B : Int → Int} {Q : PV → Mem → Prop} {n p q e x c lo hi s m w j : Int} {S : PS} {i k : Nat}
theorem MR.wv (h : MR B n ν0 ν S) (hs : S.1 = 0) (hb : 0 ≤ s ∧ s < 4 ∧ 0 ≤ w ∧ w < 98) : MR B n ν0 (upm ν 1 (400 * 12 + 8 + 98 * s + w) x) (0, S.2.1, S.2.2.1, upm S.2.2.2 s w x) := by
  obtain ⟨⟨a1, a2, a3⟩, ⟨t1, t2, t3, t4, t5⟩, a5, a6⟩ := h
  have e : upm ν 1 (400 * 12 + 8 + 98 * s + w) x = wk ν 12 S.2.2.1 (upm S.2.2.2 s w x) ν := (congrArg (fun z => upm z 1 (400 * 12 + 8 + 98 * s + w) x) (RwM_wk (a5 hs))).trans (wr_v s w rfl rfl hb)
  refine ⟨⟨?_, by show (0 : Int) ≤ 0; omega, by show (0 : Int) ≤ 4; omega⟩, ⟨?_, ?_, ?_, ?_, ?_⟩, fun _ => ?_, fun c i p q => ?_⟩
  · rw [upm_ne (by omega)]; exact a1.trans hs
  · rw [upm_ne (by omega)]; exact t1
  · rw [upm_ne (by omega)]; exact t2
  · rw [upm_ne (by omega)]; exact t3
  · rw [upm_ne (by omega)]; exact t4
  · rw [upm_ne (by omega)]; exact t5
  · rw [e]; exact RwM_of
  · rw [upm_ne (by omega)]; exact a6 c i p q
theorem MR.wg (h : MR B n ν0 ν S) (hs : S.1 = 0) (hb : 0 ≤ j ∧ j < 8) : MR B n ν0 (upm ν 1 (400 * 12 + j) x) (0, S.2.1, upg S.2.2.1 j x, S.2.2.2) := by
  obtain ⟨⟨a1, a2, a3⟩, ⟨t1, t2, t3, t4, t5⟩, a5, a6⟩ := h
  have e : upm ν 1 (400 * 12 + j) x = wk ν 12 (upg S.2.2.1 j x) S.2.2.2 ν := (congrArg (fun z => upm z 1 (400 * 12 + j) x) (RwM_wk (a5 hs))).trans (wr_g j rfl rfl hb)
  refine ⟨⟨?_, by show (0 : Int) ≤ 0; omega, by show (0 : Int) ≤ 4; omega⟩, ⟨?_, ?_, ?_, ?_, ?_⟩, fun _ => ?_, fun c i p q => ?_⟩
  · rw [upm_ne (by omega)]; exact a1.trans hs
  · rw [upm_ne (by omega)]; exact t1
  · rw [upm_ne (by omega)]; exact t2
  · rw [upm_ne (by omega)]; exact t3
  · rw [upm_ne (by omega)]; exact t4
  · rw [upm_ne (by omega)]; exact t5
  · rw [e]; exact RwM_of
  · rw [upm_ne (by omega)]; exact a6 c i p q
theorem qM_numV (h0 : MT B n ν0) (hl : 0 ≤ lo ∧ lo ≤ 99) (hh : 0 ≤ hi ∧ hi ≤ 99) (hb : 0 ≤ s ∧ s < 4 ∧ 0 ≤ w ∧ w < 98) (hS : MR B n ν0 ν S) (hq : ∀ ν', MR B n ν0 ν' (pV B n s w (pCk B n lo hi S)) → Q (9, 0) ν') : MetP mX5_number [(105, 0), (0, 400 * 12 + 8 + 98 * s + w), (0, lo), (0, hi)] ν Q := by
  refine qM_number h0 hl hh (by omega) hS (fun ν' hne k => hq ν' ?_) (fun h1 h2 => hq _ ?_)
  · rw [bd_V hne]; exact k
  · rw [h2] at h1
    rw [h2]
    unfold pV
    rw [if_pos h1]
    exact hS.wv h1 hb
theorem qM_numG (h0 : MT B n ν0) (hl : 0 ≤ lo ∧ lo ≤ 99) (hh : 0 ≤ hi ∧ hi ≤ 99) (hb : 0 ≤ j ∧ j < 8) (hS : MR B n ν0 ν S) (hq : ∀ ν', MR B n ν0 ν' (pG B n j (pCk B n lo hi S)) → Q (9, 0) ν') : MetP mX5_number [(105, 0), (0, 4800 + j), (0, lo), (0, hi)] ν Q := by
  refine qM_number h0 hl hh (by omega) hS (fun ν' hne k => hq ν' ?_) (fun h1 h2 => hq _ ?_)
  · rw [bd_G hne]; exact k
  · rw [h2] at h1
    rw [h2]
    unfold pG
    rw [if_pos h1]
    exact hS.wg h1 hb
theorem stG_bd (hj : 0 ≤ j ∧ j ≤ 4) : (0 ≤ stV 0 j ∧ stV 0 j ≤ 99) ∧ (0 ≤ stV 1 j ∧ stV 1 j ≤ 99) := by
  rcases (show j = 0 ∨ j = 1 ∨ j = 2 ∨ j = 3 ∨ j = 4 by omega) with rfl | rfl | rfl | rfl | rfl <;> decide
theorem qM_head (h0 : MT B n ν0) (hS : MR B n ν0 ν (0, 0, fun _ => 0, fun _ _ => 0)) (hq : ∀ ν', MR B n ν0 ν' (hdP B n 5) → Q (9, 0) ν') : MetP mX5_readsHead [(105, 0)] ν Q := by
  have L : ∀ (d i : Nat) (k : Int) (z2 z3 : PV) (ν' : Mem), k = (i : Int) → i + d = 5 → MR B n ν0 ν' (hdP B n i) → OkE mX5_readsHead 8 [(105, 0), (0, k), z2, z3] [] ν' Q := by
    intro d
    induction d with
    | zero =>
      intro i k z2 z3 ν' hk hi h
      refine OkE.go snX5_readsHead [8] 100 ?_
      refine ⟨by omega, by omega, fun _ => ?_, fun q => absurd q (by omega)⟩
      rw [show i = 5 by omega] at h
      exact hq ν' h
    | succ d ih =>
      intro i k z2 z3 ν' hk hi h
      have sb := stG_bd (j := k) (by omega)
      have J92 : ∀ (z2 z3 : PV) (ν2 : Mem) (c : Int), c = (if i = 4 then 59 else 44) → MR B n ν0 ν2 (pG B n (i : Int) (pCk B n (stV 0 (i : Int)) (stV 1 (i : Int)) (hdP B n i))) → OkE mX5_readsHead 92 [(105, 0), (0, k), z2, z3] [(0, c), (105, 0)] ν2 Q := by
        intro z2 z3 ν2 c hc k2
        refine OkE.go snX5_readsHead [8] 100 ?_
        refine qM_goesOn h0 (by rw [hc]; split <;> omega) k2 (fun ν3 k3 => ?_)
        refine ih (i + 1) (k + 1) z2 z3 ν3 (by omega) (by omega) ?_
        rw [hc] at k3
        exact k3
      have J67 : ∀ (z2 z3 : PV) (lo hi : Int), z2 = (0, lo) → lo = stV 0 k → hi = stV 1 k → OkE mX5_readsHead 67 [(105, 0), (0, k), z2, z3] [(0, hi)] ν' Q := by
        intro z2 z3 lo hi hz hlo hhi
        subst hz
        refine OkE.go snX5_readsHead [92] 100 ?_
        refine qM_numG (j := k) h0 (by omega) (by omega) (by omega) h (fun ν2 k2 => ?_)
        rw [hlo, hhi, hk] at k2
        refine ⟨by omega, by omega, fun q => ?_, fun q => ?_⟩
        · exact J92 _ _ ν2 44 (by rw [if_neg (by omega)]) k2
        · exact J92 _ _ ν2 59 (by rw [if_pos (by omega)]) k2
      have J36 : ∀ (z2 z3 : PV) (lo : Int), lo = stV 0 k → OkE mX5_readsHead 36 [(105, 0), (0, k), z2, z3] [(0, lo)] ν' Q := by
        intro z2 z3 lo hlo
        refine OkE.go snX5_readsHead [67] 100 ?_
        refine ⟨by omega, fun q => ?_, fun q => ?_⟩
        · refine ⟨by omega, by omega, fun q2 => ?_, fun q2 => ?_⟩
          · refine ⟨by omega, by omega, fun q3 => ?_, fun q3 => ?_⟩
            · refine J67 _ _ lo 6 rfl hlo ?_
              rcases (show k = 1 ∨ k = 4 by omega) with h | h <;> rw [h] <;> rfl
            · exact J67 _ _ lo 3 rfl hlo (by rw [show k = 3 by omega]; rfl)
          · exact J67 _ _ lo 9 rfl hlo (by rw [show k = 2 by omega]; rfl)
        · exact J67 _ _ lo 60 rfl hlo (by rw [show k = 0 by omega]; rfl)
      refine OkE.go snX5_readsHead [8, 36] 100 ?_
      refine ⟨by omega, by omega, fun q => absurd q (by omega), fun _ => ?_⟩
      refine ⟨by omega, fun q => ?_, fun q => ?_⟩
      · exact J36 _ _ 1 (by rw [show k = 0 by omega]; rfl)
      · refine ⟨by omega, by omega, fun q2 => ?_, fun q2 => ?_⟩
        · refine ⟨by omega, by omega, fun q3 => ?_, fun q3 => ?_⟩
          · refine J36 _ _ 0 ?_
            rcases (show k = 2 ∨ k = 3 by omega) with h | h <;> rw [h] <;> rfl
          · exact J36 _ _ 2 (by rw [show k = 4 by omega]; rfl)
        · exact J36 _ _ 1 (by rw [show k = 1 by omega]; rfl)
  refine MetP.go snX5_readsHead [8] 100 rfl rfl rfl rfl (fun _ => ?_)
  refine qM_sign h0 (by omega) hS (fun ν' k => ?_)
  exact L 5 0 0 _ _ ν' (by omega) (by omega) k
theorem qM_measure (h0 : MT B n ν0) (hS : MR B n ν0 ν S) (hb : S.1 = 0) (hs : 0 ≤ s ∧ s < 4) (h9 : S.2.2.2 s 9 = m) (hm : 0 ≤ m ∧ m ≤ 3) (hk : kd (tok B n S.2.1) ≠ 0) (hq3 : m = 3 → ∀ ν', MR B n ν0 ν' (pM3 B n S) → Q (9, 0) ν') (hq : m < 3 → ∀ ν', MR B n ν0 ν' (pMs B n s m S) → Q (9, 0) ν') : MetP mX5_readsMeasure [(105, 0), (0, s)] ν Q := by
  have r12 := hS.2.2.1 hb
  refine MetP.go snX5_readsMeasure [] 100 rfl rfl rfl rfl (fun _ => ?_)
  refine qX5_at ?_
  refine ⟨by omega, fun x1 e1 => ?_⟩
  obtain rfl : x1 = m := (e1.trans (RwM_v r12 s 9 (by omega))).trans h9
  refine ⟨by omega, by omega, fun q => ?_, fun q => ?_⟩
  · have hq := hq (by omega)
    unfold pMs at hq
    rw [if_pos ⟨hb, hk⟩] at hq
    refine qX5_at ?_
    refine ⟨by omega, fun ν1 d1 => ?_⟩
    have k1 : MR B n ν0 ν1 _ := (show ν1 = _ from d1) ▸ hS.wv (x := x1 + 1) hb (s := s) (w := 9) (by omega)
    refine qX5_atMeasure ?_
    refine qM_kindOf h0 k1 ?_
    rw [if_pos rfl]
    refine ⟨by omega, fun ν2 d2 => ?_⟩
    have k2 : MR B n ν0 ν2 _ := (show ν2 = _ from d2) ▸ k1.wv (x := kd (tok B n S.2.1)) rfl (s := s) (w := 35 + 21 * x1 + 0) (by omega)
    refine qX5_atMeasure ?_
    refine ⟨by omega, fun ν3 d3 => ?_⟩
    have k3 : MR B n ν0 ν3 _ := (show ν3 = _ from d3) ▸ k2.wv (x := -1) rfl (s := s) (w := 35 + 21 * x1 + 2) (by omega)
    refine qM_reads h0 k3 rfl (fun ν4 k4 => ?_)
    have k4' : MR B n ν0 ν4 (pM0 B n s x1 S) := k4
    refine qX5_atMeasure ?_
    refine qM_numV (s := s) (w := 35 + 21 * x1 + 1) h0 (by omega) (by omega) (by omega) k4' (fun ν5 k5 => ?_)
    exact qM_goesOn h0 (by omega) k5 hq
  · refine qM_wrong (by omega) hS (fun ν' k => hq3 (by omega) ν' ?_)
    unfold pM3
    rw [if_pos ⟨hb, hk⟩]
    unfold pWr at k
    rw [if_pos hb] at k
    exact k
theorem qM_service (h0 : MT B n ν0) (hS : MR B n ν0 ν S) (hb : S.1 = 0) (hs : 0 ≤ s ∧ s ≤ 4) (hZ : ZI s S) (h4 : s = 4 → tok B n S.2.1 ≠ -1) (hq4 : s = 4 → ∀ ν', MR B n ν0 ν' (pfi B n S) → Q (9, 0) ν') (hq : s < 4 → ∀ ν', MR B n ν0 ν' (svP B n s S) → Q (9, 0) ν') : MetP mX5_readsService [(105, 0)] ν Q := by
  have r12 := hS.2.2.1 hb
  have z7 := (hZ hb).2.1
  have T : ∀ Q0, Q0 (0, s) ν → MetP mX5_of [(105, 0), (0, 12), (0, 7)] ν Q0 := fun Q0 hh => by
    rw [RwM_wk r12]
    refine qX5_of 7 (by omega) (by omega) ?_
    rw [← RwM_wk r12, z7]
    exact hh
  by_cases hs4 : s = 4
  · have hq4 := hq4 hs4
    have h4 := h4 hs4
    unfold pfi at hq4
    rw [if_pos ⟨hb, h4⟩] at hq4
    have fin : ∀ ν' S', MR B n ν0 ν' S' → S'.1 ≠ 0 → (pSg B n 115 S' = S') → (∀ ν'', MR B n ν0 ν'' S' → Q (9, 0) ν'') → OkE mX5_readsService 28 [(105, 0), (0, s), (9, 0)] [] ν' Q := by
      intro ν' S' k hne hsg hk
      refine OkE.go snX5_readsService [] 100 ?_
      refine qM_sign h0 (by omega) k (fun ν2 k2 => ?_)
      rw [hsg] at k2
      obtain ⟨⟨a1, a2, a3⟩, -⟩ := id k2
      intro x1 e1
      have e1' : x1 = S'.1 := e1.trans a1
      refine ⟨by omega, fun q => absurd q (by omega), fun _ => ?_⟩
      exact hk ν2 k2
    refine MetP.go snX5_readsService [28] 100 rfl rfl rfl rfl (fun _ => ?_)
    refine T _ ?_
    refine qM_isSign h0 (by omega) hS (fun _ ht => ?_) (fun hn => ?_)
    · rw [if_pos ht] at hq4
      refine ⟨by omega, fun q => absurd q (by omega), fun _ => ?_⟩
      refine ⟨by omega, by omega, fun q => absurd hs4 q, fun _ => ?_⟩
      refine qM_wrong (by omega) hS (fun ν' k => ?_)
      unfold pWr at k
      rw [if_pos hb] at k
      exact fin ν' _ k (by show (3 : Int) ≠ 0; omega) (bd_sg (by show (3 : Int) ≠ 0; omega)) hq4
    · rw [if_neg (fun h => hn ⟨hb, h⟩)] at hq4
      refine ⟨by omega, fun _ => ?_, fun q => absurd rfl q⟩
      refine OkE.go snX5_readsService [] 100 ?_
      refine qM_sign h0 (by omega) hS (fun ν2 k2 => ?_)
      unfold pSg at k2
      rw [if_pos hb, if_neg (fun h => hn ⟨hb, h⟩)] at k2
      obtain ⟨⟨a1, a2, a3⟩, -⟩ := id k2
      intro x1 e1
      obtain rfl : x1 = 1 := e1.trans a1
      refine ⟨by omega, fun q => absurd q (by omega), fun _ => ?_⟩
      exact hq4 ν2 k2
  · have hs3 : 0 ≤ s ∧ s < 4 := by omega
    have hq := hq hs3.2
    have nB := NI_B (B := B) (n := n) hs.1 hZ
    have nA := NI_all (B := B) (n := n) nB
    -- the measures
    have LM : ∀ (d m : Nat) (ν' : Mem) (z2 : PV), m + d = 3 → MR B n ν0 ν' (pMN B n s (pRd s (svN B n s (svB B n s S) 9)) m) → MI s (m : Int) (pMN B n s (pRd s (svN B n s (svB B n s S) 9)) m) → OkE mX5_readsService 196 [(105, 0), (0, s), z2] [] ν' Q := by
      intro d
      induction d with
      | zero =>
        intro m ν' z2 hm k hI
        obtain rfl : m = 3 := by omega
        obtain ⟨⟨a1, a2, a3⟩, -⟩ := id k
        refine OkE.go snX5_readsService [196] 100 ?_
        intro x1 e1
        obtain rfl := e1.trans a1
        refine ⟨by omega, fun q => ?_, fun q => ?_⟩
        · refine hq ν' ?_
          unfold svP
          rw [st_M3 (fun h => q h.1)]
          exact k
        · have hz : (pMN B n s (pRd s (svN B n s (svB B n s S) 9)) 3).1 = 0 := by omega
          have kb := kd_bd (tok B n (pMN B n s (pRd s (svN B n s (svB B n s S) 9)) 3).2.1)
          refine qM_kindOf h0 k ?_
          rw [if_pos hz]
          refine ⟨by omega, fun q2 => ?_, fun q2 => ?_⟩
          · refine hq ν' ?_
            unfold svP
            rw [st_M3 (fun h => h.2 (by omega))]
            exact k
          · refine qM_measure (m := 3) h0 k hz hs3 (hI hz).2.2.2.2.2.2.1 (by omega) (by omega) (fun _ ν2 k2 => ?_) (fun q => absurd q (by omega))
            obtain ⟨⟨c1, c2, c3⟩, -⟩ := id k2
            have ne : (pM3 B n (pMN B n s (pRd s (svN B n s (svB B n s S) 9)) 3)).1 = 3 := by
              unfold pM3
              rw [if_pos ⟨hz, by omega⟩]
            refine OkE.go snX5_readsService [] 100 ?_
            intro x2 e2
            obtain rfl : x2 = 3 := (e2.trans c1).trans ne
            refine ⟨by omega, fun _ => ?_, fun q => absurd q (by omega)⟩
            exact hq ν2 k2
      | succ d ih =>
        intro m ν' z2 hm k hI
        obtain ⟨⟨a1, a2, a3⟩, -⟩ := id k
        have stop : ¬ ((pMN B n s (pRd s (svN B n s (svB B n s S) 9)) m).1 = 0 ∧ kd (tok B n (pMN B n s (pRd s (svN B n s (svB B n s S) 9)) m).2.1) ≠ 0) → Q (9, 0) ν' := by
          intro hn
          have e := st_MN hn (3 - m)
          rw [show m + (3 - m) = 3 by omega] at e
          refine hq ν' ?_
          unfold svP
          rw [e, st_M3 hn]
          exact k
        refine OkE.go snX5_readsService [196] 100 ?_
        intro x1 e1
        obtain rfl := e1.trans a1
        refine ⟨by omega, fun q => ?_, fun q => ?_⟩
        · exact stop (fun h => q h.1)
        · have hz : (pMN B n s (pRd s (svN B n s (svB B n s S) 9)) m).1 = 0 := by omega
          have kb := kd_bd (tok B n (pMN B n s (pRd s (svN B n s (svB B n s S) 9)) m).2.1)
          refine qM_kindOf h0 k ?_
          rw [if_pos hz]
          refine ⟨by omega, fun q2 => ?_, fun q2 => ?_⟩
          · exact stop (fun h => h.2 (by omega))
          · refine qM_measure (m := (m : Int)) h0 k hz hs3 (hI hz).2.2.2.2.2.2.1 (by omega) (by omega) (fun q => absurd q (by omega)) (fun _ ν2 k2 => ?_)
            refine ih (m + 1) ν2 z2 (by omega) k2 ?_
            have := MI_s (B := B) (n := n) (m := (m : Int)) (by omega) hI ⟨hz, by omega⟩
            rw [show ((m + 1 : Nat) : Int) = (m : Int) + 1 by omega]
            exact this
    -- the numbers
    have LN : ∀ (d i : Nat) (ν' : Mem) (k : Int), k = (i : Int) → i + d = 9 → MR B n ν0 ν' (svN B n s (svB B n s S) i) → OkE mX5_readsService 55 [(105, 0), (0, s), (0, k)] [] ν' Q := by
      intro d
      induction d with
      | zero =>
        intro i ν' k hk hi h
        obtain rfl : i = 9 := by omega
        refine OkE.go snX5_readsService [196] 100 ?_
        refine ⟨by omega, by omega, fun _ => ?_, fun q => absurd q (by omega)⟩
        refine qX5_at ?_
        refine qX5_at ?_
        refine ⟨by omega, fun x1 e1 => ?_⟩
        refine ⟨by omega, fun ν2 d2 => ?_⟩
        have d2' : ν2 = upm ν' 1 (400 * 12 + 8 + 98 * s + 10) x1 := d2
        refine LM 3 0 ν2 _ (by omega) ?_ (MI_0 (nA 9))
        show MR B n ν0 ν2 (pRd s (svN B n s (svB B n s S) 9))
        unfold pRd
        by_cases hz : (svN B n s (svB B n s S) 9).1 = 0
        · rw [if_pos hz, d2', e1.trans (RwM_v (h.2.2.1 hz) s 0 (by omega))]
          exact h.wv hz (by omega)
        · rw [if_neg hz]
          obtain ⟨⟨a1, a2, a3⟩, ⟨t1, t2, t3, t4, t5⟩, a5, a6⟩ := h
          refine ⟨⟨?_, a2, a3⟩, ⟨?_, ?_, ?_, ?_, ?_⟩, fun h => absurd h hz, fun c i p q => ?_⟩
          · rw [d2', upm_ne (by omega)]; exact a1
          · rw [d2', upm_ne (by omega)]; exact t1
          · rw [d2', upm_ne (by omega)]; exact t2
          · rw [d2', upm_ne (by omega)]; exact t3
          · rw [d2', upm_ne (by omega)]; exact t4
          · rw [d2', upm_ne (by omega)]; exact t5
          · rw [d2', upm_ne (by omega)]; exact a6 c i p q
      | succ d ih =>
        intro i ν' k hk hi h
        have sb := stV_bd (w := k) (by omega)
        have J148 : ∀ ν2, MR B n ν0 ν2 (pX B n s i (pV B n s (i : Int) (pCk B n (stV 2 (i : Int)) (stV 3 (i : Int)) (svN B n s (svB B n s S) i)))) → OkE mX5_readsService 148 [(105, 0), (0, s), (0, k)] [] ν2 Q := by
          intro ν2 k2
          refine OkE.go snX5_readsService [55] 100 ?_
          refine ⟨by omega, by omega, fun q => ?_, fun q => ?_⟩
          · refine qM_goesOn h0 (by omega) k2 (fun ν3 k3 => ?_)
            refine ih (i + 1) ν3 (k + 1) (by omega) (by omega) ?_
            show MR B n ν0 ν3 (pSg B n (if i = 8 then 59 else 44) _)
            rw [if_neg (by omega)]
            exact k3
          · refine qM_goesOn h0 (by omega) k2 (fun ν3 k3 => ?_)
            refine ih (i + 1) ν3 (k + 1) (by omega) (by omega) ?_
            show MR B n ν0 ν3 (pSg B n (if i = 8 then 59 else 44) _)
            rw [if_pos (by omega)]
            exact k3
        refine OkE.go snX5_readsService [116, 148] 100 ?_
        refine ⟨by omega, by omega, fun q => absurd q (by omega), fun _ => ?_⟩
        refine qX5_at ?_
        refine qX5_lowOf (by omega) ?_
        refine qX5_highOf (by omega) ?_
        refine qM_numV (s := s) (w := k) h0 (by omega) (by omega) (by omega) h (fun ν2 k2 => ?_)
        rw [hk] at k2
        -- what it is when it is right
        have good : (pV B n s (i : Int) (pCk B n (stV 2 (i : Int)) (stV 3 (i : Int)) (svN B n s (svB B n s S) i))).1 = 0 → ∃ N, N = num B n (pV B n s (i : Int) (pCk B n (stV 2 (i : Int)) (stV 3 (i : Int)) (svN B n s (svB B n s S) i))).2.1 ∧ (stV 2 (i : Int) ≤ N ∧ N ≤ stV 3 (i : Int)) ∧ ν2 0 16 = N ∧ (∀ s', 0 ≤ s' → s' ≤ s → 0 ≤ (pV B n s (i : Int) (pCk B n (stV 2 (i : Int)) (stV 3 (i : Int)) (svN B n s (svB B n s S) i))).2.2.2 s' 0 ∧ (pV B n s (i : Int) (pCk B n (stV 2 (i : Int)) (stV 3 (i : Int)) (svN B n s (svB B n s S) i))).2.2.2 s' 0 ≤ 9) ∧ (pV B n s (i : Int) (pCk B n (stV 2 (i : Int)) (stV 3 (i : Int)) (svN B n s (svB B n s S) i))).2.2.1 7 = s + 1 ∧ (1 ≤ (pV B n s (i : Int) (pCk B n (stV 2 (i : Int)) (stV 3 (i : Int)) (svN B n s (svB B n s S) i))).2.2.1 0 ∧ (pV B n s (i : Int) (pCk B n (stV 2 (i : Int)) (stV 3 (i : Int)) (svN B n s (svB B n s S) i))).2.2.1 0 ≤ 60) := by
          intro hz
          obtain ⟨x1, x2⟩ := iv_V hz
          obtain ⟨w1, w2, w3, w4⟩ := iv_ck x1
          obtain ⟨a1, a2, a3, a4, a5, a6, a7⟩ := nA i w1
          have f16 := k2.fld.2.2.2.1
          rw [x2, w4] at f16 ⊢
          dsimp only at f16 ⊢
          rw [if_pos w2] at f16
          have sb3 : stV 3 (i : Int) ≤ 99 := by rw [← hk]; omega
          refine ⟨_, rfl, w3, f16.trans (num_eq h0.1 w2 sb3 w3.2).symm, fun s' p q => ?_, a2, a1.1⟩
          by_cases hss : s' = s
          · subst hss
            by_cases hi0 : i = 0
            · subst hi0
              rw [show ((0 : Nat) : Int) = 0 from rfl] at w3 ⊢
              rw [upm_at]
              exact w3
            · rw [upm_ne (by omega)]
              exact a5 0 (by omega) (by omega)
          · rw [upm_ne (by omega)]
            exact (a3 s' p (by omega)).1.1
        generalize pV B n s (i : Int) (pCk B n (stV 2 (i : Int)) (stV 3 (i : Int)) (svN B n s (svB B n s S) i)) = S2 at k2 good J148
        obtain ⟨⟨a1, a2, a3⟩, -⟩ := id k2
        have J116 : ∀ ν3 S3, MR B n ν0 ν3 S3 → (S3.1 = 0 → S3 = S2) → (S3.1 ≠ 0 → pX B n s i S2 = S3) → ¬ (S2.1 = 0 ∧ S3.1 = 0 ∧ i = 1 ∧ num B n S2.2.1 < S2.2.2.2 s 0) → OkE mX5_readsService 116 [(105, 0), (0, s), (0, k)] [] ν3 Q := by
          intro ν3 S3 k3 e0 e1 hno
          obtain ⟨⟨c1, c2, c3⟩, -⟩ := id k3
          refine OkE.go snX5_readsService [148] 100 ?_
          intro x1 ex1
          obtain rfl := ex1.trans c1
          refine ⟨by omega, fun q => ?_, fun q => ?_⟩
          · exact J148 ν3 (by rw [e1 q]; exact k3)
          · have z3 : S3.1 = 0 := by omega
            have eS := e0 z3
            subst eS
            obtain ⟨N, g1, g2, g3, g4, g5, g6⟩ := good z3
            have r3 := k3.2.2.1 z3
            refine ⟨by omega, fun q2 => ?_, fun q2 => ?_⟩
            · refine J148 ν3 ?_
              unfold pX
              rw [if_pos z3, if_neg (fun h => hno ⟨z3, z3, h⟩), if_neg (by omega)]
              exact k3
            · have i0 : i = 0 := by omega
              have sl := sumI_bd4 (f := fun s' => S3.2.2.2 s' 0) (n := S3.2.2.1 7) (B := 9) (by omega) (by omega) (fun s' p q => g4 s' p (by omega))
              have T2 : ∀ Q0, Q0 (0, sumI (fun s' => S3.2.2.2 s' 0) (S3.2.2.1 7)) ν3 → MetP mX5_leasts [(105, 0), (0, 12)] ν3 Q0 := fun Q0 hh => by
                rw [RwM_wk r3]
                refine qX5_leasts (r := 12) (by omega) (by omega) ?_
                rw [← RwM_wk r3]
                exact hh
              have T3 : ∀ Q0, Q0 (0, S3.2.2.1 0) ν3 → MetP mX5_of [(105, 0), (0, 12), (0, 0)] ν3 Q0 := fun Q0 hh => by
                rw [RwM_wk r3]
                refine qX5_of 0 (by omega) (by omega) ?_
                rw [← RwM_wk r3]
                exact hh
              refine T2 _ ?_
              refine T3 _ ?_
              refine ⟨by omega, by omega, fun q4 => ?_, fun q4 => ?_⟩
              · refine J148 ν3 ?_
                unfold pX
                rw [if_pos z3, if_neg (by omega), if_neg (by omega)]
                exact k3
              · refine qM_wrong (by omega) k3 (fun ν4 k4 => J148 ν4 ?_)
                unfold pX
                rw [if_pos z3, if_neg (by omega), if_pos ⟨i0, by omega⟩]
                unfold pWr at k4
                rw [if_pos z3] at k4
                exact k4
        intro x1 e1
        obtain rfl := e1.trans a1
        refine ⟨by omega, fun q => ?_, fun q => ?_⟩
        · exact J116 ν2 S2 k2 (fun _ => rfl) (fun h => bd_X h) (fun h => q h.1)
        · have z2 : S2.1 = 0 := by omega
          obtain ⟨N, g1, g2, g3, g4, g5, g6⟩ := good z2
          refine ⟨by omega, by omega, fun q2 => ?_, fun q2 => ?_⟩
          · exact J116 ν2 S2 k2 (fun _ => rfl) (fun h => bd_X h) (fun h => absurd h.2.2.1 (by omega))
          · have i1 : i = 1 := by omega
            have b0 := g4 s hs.1 (by omega)
            have sb3 : stV 2 (i : Int) = 1 ∧ stV 3 (i : Int) = 20 := by rw [i1]; exact ⟨rfl, rfl⟩
            intro x3 e3
            obtain rfl : x3 = N := e3.trans g3
            refine qX5_at ?_
            refine ⟨by omega, fun x4 e4 => ?_⟩
            obtain rfl : x4 = S2.2.2.2 s 0 := e4.trans (RwM_v (k2.2.2.1 z2) s 0 (by omega))
            refine ⟨by omega, by omega, fun q4 => ?_, fun q4 => ?_⟩
            · exact J116 ν2 S2 k2 (fun _ => rfl) (fun h => bd_X h) (fun h => absurd h.2.2.2 (by rw [← g1]; omega))
            · refine qM_wrong (by omega) k2 (fun ν4 k4 => ?_)
              unfold pWr at k4
              rw [if_pos z2] at k4
              refine J116 ν4 _ k4 (fun h => absurd h (by show ¬ (2 : Int) = 0; omega)) (fun _ => ?_) (fun h => absurd h.2.1 (by show ¬ (2 : Int) = 0; omega))
              unfold pX
              rw [if_pos z2, if_pos ⟨i1, by rw [← g1]; omega⟩]
    refine MetP.go snX5_readsService [28, 55] 100 rfl rfl rfl rfl (fun _ => ?_)
    refine T _ ?_
    have J28 : OkE mX5_readsService 28 [(105, 0), (0, s), (9, 0)] [] ν Q := by
      refine OkE.go snX5_readsService [55] 100 ?_
      refine qM_sign h0 (by omega) hS (fun ν2 k2 => ?_)
      obtain ⟨⟨a1, a2, a3⟩, -⟩ := id k2
      intro x1 e1
      obtain rfl := e1.trans a1
      refine ⟨by omega, fun q => ?_, fun q => ?_⟩
      · have hz : (pSg B n 115 S).1 = 0 := by omega
        have r2 := k2.2.2.1 hz
        refine qX5_lays_raw (by omega) ?_
        refine LN 9 0 _ 0 (by omega) (by omega) ?_
        show MR B n ν0 _ (svB B n s S)
        unfold svB
        rw [if_pos hz]
        have e3 := (iv_sg hz).2.2
        have k3 := k2.wg (x := s + 1) (j := 7) hz (by omega)
        rw [e3] at k3 ⊢
        exact k3
      · refine hq ν2 ?_
        have hz : (pSg B n 115 S).1 ≠ 0 := by omega
        have eB : svB B n s S = pSg B n 115 S := by unfold svB; rw [if_neg hz]
        rw [bd_svP_B (by rw [eB]; exact hz), eB]
        exact k2
    refine qM_isSign h0 (by omega) hS (fun _ ht => ?_) (fun hn => ?_)
    · refine ⟨by omega, fun q => absurd q (by omega), fun _ => ?_⟩
      refine ⟨by omega, by omega, fun _ => ?_, fun q => absurd q (by omega)⟩
      exact J28
    · refine ⟨by omega, fun _ => ?_, fun q => absurd rfl q⟩
      exact J28
end T79
