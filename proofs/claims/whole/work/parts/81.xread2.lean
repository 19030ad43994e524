section T81
variable {μ ν μ0 : Mem} {B : Int → Int} {Q : PV → Mem → Prop} {n p q e x c lo hi s m w j h b : Int} {S R : PS} {i k : Nat}
theorem qX0_leasts0_loop {f : Int → Int} {n : Int} (hn : 0 ≤ n ∧ n ≤ 4) (h2 : μ h 2 = n) (hc : ∀ s, 0 ≤ s → s < n → μ (h + 2 + 1 + 12 * s + 1) 0 = f s) (hq : Q (0, sumI f n) μ) : ∀ (d : Nat) (s a : Int), 0 ≤ s → s + d = n → a = sumI f s → OkE mX0_leasts 4 [(100, h), (0, a), (0, s)] [] μ Q
  | 0, s, a, h0, hd, ha => by
    refine OkE.go snX0_leasts [4] 100 ?_
    intro x1 e1
    obtain rfl := e1.trans h2
    refine ⟨by omega, by omega, fun _ => ?_, fun q => absurd q (by omega)⟩
    rw [ha, show s = x1 by omega]
    exact hq
  | d + 1, s, a, h0, hd, ha => by
    refine OkE.go snX0_leasts [4] 100 ?_
    intro x1 e1
    obtain rfl := e1.trans h2
    refine ⟨by omega, by omega, fun q => absurd q (by omega), fun _ => ?_⟩
    refine ⟨by omega, ?_⟩
    refine ⟨by omega, fun x2 e2 => ?_⟩
    obtain rfl := e2.trans (hc s h0 (by omega))
    exact qX0_leasts0_loop hn h2 hc hq d (s + 1) _ (by omega) (by omega) (by rw [sumI_succ _ h0, ha])
theorem qX0_leasts0 {f : Int → Int} {n : Int} (hn : 0 ≤ n ∧ n ≤ 4) (h2 : μ h 2 = n) (hc : ∀ s, 0 ≤ s → s < n → μ (h + 2 + 1 + 12 * s + 1) 0 = f s) (hq : Q (0, sumI f n) μ) : MetP mX0_leasts [(100, h)] μ Q := by
  refine MetP.go snX0_leasts [4] 100 rfl rfl rfl rfl (fun _ => ?_)
  exact qX0_leasts0_loop hn h2 hc hq n.toNat 0 0 (by omega) (by omega) rfl
theorem sumN_ext {f g : Int → Int} : ∀ n : Nat, (∀ k, 0 ≤ k → k < (n : Int) → f k = g k) → sumN f n = sumN g n
  | 0, _ => rfl
  | n + 1, h => by
    show sumN f n + f (n : Int) = sumN g n + g (n : Int)
    rw [sumN_ext n (fun k p q => h k p (by omega)), h (n : Int) (by omega) (by omega)]
theorem X_2 {k : Nat} {g : Int → Int} {v : Mem} (h1 : i = 1) (h : num B n k < v s 0) : pX B n s i (0, k, g, v) = (2, k, g, v) := by
  unfold pX
  rw [if_pos rfl, if_pos (show i = 1 ∧ num B n k < v s 0 from ⟨h1, h⟩)]
theorem X_4 {k : Nat} {g : Int → Int} {v : Mem} (h0 : i = 0) (h : g 0 < sumI (fun s => v s 0) (g 7)) : pX B n s i (0, k, g, v) = (4, k, g, v) := by
  unfold pX
  rw [if_pos rfl, if_neg (show ¬ (i = 1 ∧ num B n k < v s 0) by omega), if_pos (show i = 0 ∧ g 0 < sumI (fun s => v s 0) (g 7) from ⟨h0, h⟩)]
theorem X_ok {k : Nat} {g : Int → Int} {v : Mem} (h1 : ¬ (i = 1 ∧ num B n k < v s 0)) (h0 : ¬ (i = 0 ∧ g 0 < sumI (fun s => v s 0) (g 7))) : pX B n s i (0, k, g, v) = (0, k, g, v) := by
  unfold pX
  rw [if_pos rfl, if_neg (show ¬ (i = 1 ∧ num B n k < v s 0) from h1), if_neg (show ¬ (i = 0 ∧ g 0 < sumI (fun s => v s 0) (g 7)) from h0)]
theorem qX3_readNumbers (h0 : CT B n μ0) (hs : 0 ≤ s ∧ s < 4) (hb1 : S.1 = 0) (hN : NI s 0 S) (hS : CR B n μ0 μ 0 S.2.1) (h2 : μ 54 2 = s) (hl : ∀ s', 0 ≤ s' → s' < s → μ (54 + 2 + 1 + 12 * s' + 1) 0 = S.2.2.2 s' 0) (hg0 : μ 55 0 = S.2.2.1 0)
    (hg : ∀ μ', (svN B n s S 9).1 = 0 → CR B n μ0 μ' 0 (svN B n s S 9).2.1 → (∀ j, 0 ≤ j → j < 9 → μ' (54 + 2 + 1 + 12 * s + 1) j = (svN B n s S 9).2.2.2 s j) → (∀ c i, ¬ (c = 1 ∧ 2 ≤ i ∧ i ≤ 6) → c ≠ 54 + 2 + 1 + 12 * s + 1 → μ' c i = μ c i) → Q (0, 1) μ') (hb : ∀ μ', (svN B n s S 9).1 ≠ 0 → CR B n μ0 μ' (svN B n s S 9).1 (svN B n s S 9).2.1 → Q (0, 0) μ') : MetP mX3_readNumbers [(103, 1), (100, 54), (102, 54 + 2 + 1 + 12 * s)] μ Q := by
  obtain ⟨v1, v2, v3, v4, -⟩ := hN hb1
  have lb := sumI_bd4 (f := fun s' => S.2.2.2 s' 0) (n := s) (B := 9) (by omega) (by omega) (fun s' p q => (v3 s' p q).1.1)
  have bad : ∀ (i : Nat) (μ' : Mem), i ≤ 9 → (svN B n s S i).1 ≠ 0 → CR B n μ0 μ' (svN B n s S i).1 (svN B n s S i).2.1 → Q (0, 0) μ' := by
    intro i μ' hi hne k
    have e := bd_svNN hne (9 - i)
    rw [show i + (9 - i) = 9 by omega] at e
    exact hb μ' (by rw [e]; exact hne) (by rw [e]; exact k)
  have L : ∀ (d i : Nat) (k : Int) (z5 : PV) (μ' : Mem), k = (i : Int) → i + d = 9 → (svN B n s S i).1 = 0 → CR B n μ0 μ' 0 (svN B n s S i).2.1 → (∀ j, 0 ≤ j → j < k → μ' (54 + 2 + 1 + 12 * s + 1) j = (svN B n s S i).2.2.2 s j) → (∀ c i, ¬ (c = 1 ∧ 2 ≤ i ∧ i ≤ 6) → c ≠ 54 + 2 + 1 + 12 * s + 1 → μ' c i = μ c i) → OkE mX3_readNumbers 8 [(103, 1), (100, 54), (102, 54 + 2 + 1 + 12 * s), (0, sumI (fun s' => S.2.2.2 s' 0) s), (0, k), z5] [] μ' Q := by
    intro d
    induction d with
    | zero =>
      intro i k z5 μ' hk hi hz hc hn hf
      refine OkE.go snX3_readNumbers [8] 100 ?_
      refine ⟨by omega, by omega, fun _ => ?_, fun q => absurd q (by omega)⟩
      rw [show i = 9 by omega] at hz hc hn
      exact ⟨by omega, hg μ' hz hc (fun j p q => hn j p (by omega)) hf⟩
    | succ d ih =>
      intro i k z5 μ' hk hi hz hc hn hf
      have sb := stV_bd (w := k) (by omega)
      have st : svN B n s S (i + 1) = pSg B n (if i = 8 then 59 else 44) (pNx (pX B n s i (pV B n s (i : Int) (pCk B n (stV 2 (i : Int)) (stV 3 (i : Int)) (svN B n s S i))))) := rfl
      obtain ⟨a1, a2, a3, a4, a5, a6, a7⟩ := NI_all (B := B) (n := n) hN i hz
      -- once it is in: lay it, go on
      have J90 : ∀ z5 : PV, tok B n (svN B n s S i).2.1 = -2 → pX B n s i (pV B n s (i : Int) (pCk B n (stV 2 (i : Int)) (stV 3 (i : Int)) (svN B n s S i))) = (0, (svN B n s S i).2.1, (svN B n s S i).2.2.1, upm (svN B n s S i).2.2.2 s (i : Int) (num B n (svN B n s S i).2.1)) → OkE mX3_readNumbers 90 [(103, 1), (100, 54), (102, 54 + 2 + 1 + 12 * s), (0, sumI (fun s' => S.2.2.2 s' 0) s), (0, k), z5] [] μ' Q := by
        intro z5 ht eX
        rw [eX] at st
        have eN : pNx ((0 : Int), (svN B n s S i).2.1, (svN B n s S i).2.2.1, upm (svN B n s S i).2.2.2 s (i : Int) (num B n (svN B n s S i).2.1)) = (0, (svN B n s S i).2.1 + 1, (svN B n s S i).2.2.1, upm (svN B n s S i).2.2.2 s (i : Int) (num B n (svN B n s S i).2.1)) := by
          unfold pNx; rw [if_pos rfl]
        rw [eN] at st
        refine OkE.go snX3_readNumbers [8, 120] 100 ?_
        intro x3 e3
        obtain rfl : x3 = num B n (svN B n s S i).2.1 := e3.trans (hc.fld.2.2.2 ht)
        refine ⟨by omega, fun μ2 d2 => ?_⟩
        have d2' : μ2 = upm μ' (54 + 2 + 1 + 12 * s + 1) k (num B n (svN B n s S i).2.1) := d2
        have n2 : ∀ a b, ¬ (a = 54 + 2 + 1 + 12 * s + 1 ∧ b = k) → μ2 a b = μ' a b := fun a b hn => by rw [d2']; exact upm_ne hn
        have w2 : μ2 (54 + 2 + 1 + 12 * s + 1) k = num B n (svN B n s S i).2.1 := by rw [d2']; exact upm_at _ _ _ _
        have c2 : CR B n μ0 μ2 0 (svN B n s S i).2.1 := hc.mem (fun c i hn => n2 c i (by omega))
        refine qC_step h0 c2 (fun μ3 c3 f3 => ?_)
        have J120 : ∀ c, c = (if i = 8 then 59 else 44) → OkE mX3_readNumbers 120 [(103, 1), (100, 54), (102, 54 + 2 + 1 + 12 * s), (0, sumI (fun s' => S.2.2.2 s' 0) s), (0, k), z5] [(0, c), (103, 1)] μ3 Q := by
          intro c hc0
          rw [← hc0] at st
          refine OkE.go snX3_readNumbers [8] 100 ?_
          refine qC_passes h0 (by rw [hc0]; split <;> omega) c3 (fun ht μ4 c4 f4 => ?_) (fun ht μ4 c4 f4 => ?_)
          · refine ⟨by omega, fun _ => ?_, fun q => absurd q (by omega)⟩
            rw [sg_yes (S := (0, (svN B n s S i).2.1 + 1, (svN B n s S i).2.2.1, upm (svN B n s S i).2.2.2 s (i : Int) (num B n (svN B n s S i).2.1))) rfl ht] at st
            refine ih (i + 1) (k + 1) z5 μ4 (by omega) (by omega) (by rw [st]) (by rw [st]; exact c4) (fun j p q => ?_) (fun c i p q => ?_)
            · rw [st, f4 _ _ (by omega), f3 _ _ (by omega)]
              dsimp only
              by_cases hj : j = k
              · subst hj; rw [w2, hk, upm_at]
              · rw [n2 _ _ (by omega), upm_ne (by omega)]; exact hn j p (by omega)
            · rw [f4 c i p, f3 c i p, n2 c i (by omega)]; exact hf c i p q
          · refine ⟨by omega, fun q => absurd rfl q, fun _ => ?_⟩
            rw [sg_no (S := (0, (svN B n s S i).2.1 + 1, (svN B n s S i).2.2.1, upm (svN B n s S i).2.2.2 s (i : Int) (num B n (svN B n s S i).2.1))) rfl ht] at st
            exact ⟨by omega, bad (i + 1) μ4 (by omega) (by rw [st]; show (1 : Int) ≠ 0; omega) (by rw [st]; exact c4)⟩
        refine ⟨by omega, by omega, fun q => ?_, fun q => ?_⟩
        · exact J120 44 (by rw [if_neg (by omega)])
        · exact J120 59 (by rw [if_pos (by omega)])
      have J45 : ∀ (fr : Int) (z5 : PV), fr = (if i = 1 then max 1 ((svN B n s S i).2.2.2 s 0) else stV 2 k) → OkE mX3_readNumbers 45 [(103, 1), (100, 54), (102, 54 + 2 + 1 + 12 * s), (0, sumI (fun s' => S.2.2.2 s' 0) s), (0, k), z5] [(0, fr)] μ' Q := by
        intro fr z5 hfr
        have b1 : i = 1 → (0 ≤ (svN B n s S i).2.2.2 s 0 ∧ (svN B n s S i).2.2.2 s 0 ≤ 9) ∧ stV 2 k = 1 ∧ stV 3 k = 20 := by
          intro h
          have k1 : k = 1 := by omega
          have := a5 0 (by omega) (by omega)
          rw [k1]
          exact ⟨this, rfl, rfl⟩
        have frb : 0 ≤ fr ∧ fr ≤ 20 := by
          rw [hfr]
          split
          · rename_i h; have := b1 h; omega
          · omega
        refine OkE.go snX3_readNumbers [90] 100 ?_
        refine ⟨rfl, by omega, fun x1 e1 => ?_⟩
        rw [e1]
        refine qC_isNumber h0 (by omega) (by omega) hc (fun ht hnb => ?_) (fun ht hnb μ2 k2 f2 => ?_) (fun ht μ2 k2 f2 => ?_)
        · refine ⟨by omega, fun _ => ?_, fun q => absurd q (by omega)⟩
          have nb := num_bd h0.1 ht
          have ok : stV 2 (i : Int) ≤ num B n (svN B n s S i).2.1 ∧ num B n (svN B n s S i).2.1 ≤ stV 3 (i : Int) := by
            rw [← hk]
            by_cases h1 : i = 1
            · rw [if_pos h1] at hfr
              have := b1 h1
              omega
            · rw [if_neg h1] at hfr; omega
          have eV : pV B n s (i : Int) (pCk B n (stV 2 (i : Int)) (stV 3 (i : Int)) (svN B n s S i)) = (0, (svN B n s S i).2.1, (svN B n s S i).2.2.1, upm (svN B n s S i).2.2.2 s (i : Int) (num B n (svN B n s S i).2.1)) := by
            rw [ck_yes hz ht ok]
            unfold pV
            rw [if_pos hz]
          refine ⟨by omega, fun q => ?_, fun q => ?_⟩
          · refine J90 _ ht ?_
            rw [eV]
            refine X_ok (fun h => ?_) (fun h => absurd h.1 (by omega))
            rw [if_pos h.1] at hfr
            have h2 := h.2
            rw [upm_ne (by omega)] at h2
            omega
          · have i0 : i = 0 := by omega
            subst i0
            have es : sumI (fun s' => upm S.2.2.2 s ((0 : Nat) : Int) (num B n S.2.1) s' 0) (S.2.2.1 7) = sumI (fun s' => S.2.2.2 s' 0) s + num B n S.2.1 := by
              rw [v2, sumI_succ _ hs.1, show ((0 : Nat) : Int) = 0 from rfl, upm_at]
              congr 1
              exact sumN_ext s.toNat (fun k' p q => upm_ne (by omega))
            intro x3 e3
            obtain rfl : x3 = num B n S.2.1 := e3.trans (hc.fld.2.2.2 ht)
            have g0b := v1.1
            have nb' : 0 ≤ num B n S.2.1 ∧ num B n S.2.1 ≤ 100 := nb
            refine ⟨by omega, fun x4 e4 => ?_⟩
            obtain rfl : x4 = S.2.2.1 0 := e4.trans ((hf 55 0 (by omega) (by omega)).trans hg0)
            refine ⟨by omega, by omega, fun q2 => ?_, fun q2 => ?_⟩
            · refine J90 _ ht ?_
              rw [eV]
              exact X_ok (fun h => absurd h.1 (by omega)) (fun h => absurd (es ▸ h.2 : S.2.2.1 0 < sumI (fun s' => S.2.2.2 s' 0) s + num B n S.2.1) (by omega))
            · refine qC_fails hc (fun μ5 k5 f5 => ?_)
              rw [eV] at st
              have eX : pX B n s 0 ((0 : Int), S.2.1, S.2.2.1, upm S.2.2.2 s ((0 : Nat) : Int) (num B n S.2.1)) = (4, S.2.1, S.2.2.1, upm S.2.2.2 s ((0 : Nat) : Int) (num B n S.2.1)) := by
                exact X_4 rfl (by rw [es]; omega)
              have ne : ((4 : Int), S.2.1, S.2.2.1, upm S.2.2.2 s ((0 : Nat) : Int) (num B n S.2.1)).1 ≠ 0 := by show (4 : Int) ≠ 0; omega
              have st' : svN B n s S (0 + 1) = ((4 : Int), S.2.1, S.2.2.1, upm S.2.2.2 s ((0 : Nat) : Int) (num B n S.2.1)) := by
                rw [st]
                show pSg B n _ (pNx (pX B n s 0 ((0 : Int), S.2.1, S.2.2.1, upm S.2.2.2 s ((0 : Nat) : Int) (num B n S.2.1)))) = _
                rw [eX, bd_nx ne, bd_sg ne]
              exact ⟨by omega, bad (0 + 1) μ5 (by omega) (by rw [st']; exact ne) (by rw [st']; exact k5)⟩
        · refine ⟨by omega, fun q => absurd rfl q, fun _ => ?_⟩
          by_cases ok : stV 2 (i : Int) ≤ num B n (svN B n s S i).2.1 ∧ num B n (svN B n s S i).2.1 ≤ stV 3 (i : Int)
          · have h1 : i = 1 := by
              by_cases h1 : i = 1
              · exact h1
              · rw [if_neg h1, hk] at hfr
                rw [hk, hfr] at hnb
                exact absurd ok hnb
            rw [if_pos h1] at hfr
            rw [← hk] at ok
            have lt : num B n (svN B n s S i).2.1 < (svN B n s S i).2.2.2 s 0 := by have := b1 h1; omega
            rw [hk] at ok
            have ne : ((2 : Int), (svN B n s S i).2.1, (svN B n s S i).2.2.1, upm (svN B n s S i).2.2.2 s (i : Int) (num B n (svN B n s S i).2.1)).1 ≠ 0 := by show (2 : Int) ≠ 0; omega
            have st' : svN B n s S (i + 1) = ((2 : Int), (svN B n s S i).2.1, (svN B n s S i).2.2.1, upm (svN B n s S i).2.2.2 s (i : Int) (num B n (svN B n s S i).2.1)) := by
              rw [st, ck_yes hz ht ok]
              unfold pV
              rw [if_pos hz, X_2 h1 (by rw [upm_ne (by omega)]; exact lt), bd_nx ne, bd_sg ne]
            exact ⟨by omega, bad (i + 1) μ2 (by omega) (by rw [st']; exact ne) (by rw [st']; exact k2)⟩
          · have ne : ((2 : Int), (svN B n s S i).2).1 ≠ 0 := by show (2 : Int) ≠ 0; omega
            rw [ck_2 hz ht ok, bd_V ne, bd_X ne, bd_nx ne, bd_sg ne] at st
            exact ⟨by omega, bad (i + 1) μ2 (by omega) (by rw [st]; exact ne) (by rw [st]; exact k2)⟩
        · refine ⟨by omega, fun q => absurd rfl q, fun _ => ?_⟩
          have ne : ((1 : Int), (svN B n s S i).2).1 ≠ 0 := by show (1 : Int) ≠ 0; omega
          rw [ck_1 hz ht, bd_V ne, bd_X ne, bd_nx ne, bd_sg ne] at st
          exact ⟨by omega, bad (i + 1) μ2 (by omega) (by rw [st]; exact ne) (by rw [st]; exact k2)⟩
      refine OkE.go snX3_readNumbers [45] 100 ?_
      refine ⟨by omega, by omega, fun q => absurd q (by omega), fun _ => ?_⟩
      refine ⟨by omega, by omega, fun q => ?_, fun q => ?_⟩
      · refine ⟨rfl, by omega, fun x1 e1 => ?_⟩
        exact J45 x1 _ (by rw [if_neg (by omega)]; exact e1)
      · refine ⟨rfl, by omega, fun x1 e1 => ?_⟩
        have i1 : i = 1 := by omega
        obtain rfl : x1 = 1 := by rw [e1, show k = 1 by omega]; rfl
        have b0 : 0 ≤ (svN B n s S i).2.2.2 s 0 ∧ (svN B n s S i).2.2.2 s 0 ≤ 9 := a5 0 (by omega) (by omega)
        refine ⟨by omega, fun x2 e2 => ?_⟩
        obtain rfl : x2 = (svN B n s S i).2.2.2 s 0 := e2.trans (hn 0 (by omega) (by omega))
        refine ⟨by omega, by omega, ?_⟩
        exact J45 _ _ (by rw [if_pos i1])
  refine MetP.go snX3_readNumbers [8] 100 rfl rfl rfl rfl (fun _ => ?_)
  refine qX0_leasts0 (f := fun s' => S.2.2.2 s' 0) (n := s) (by omega) h2 hl ?_
  exact L 9 0 0 _ μ (by omega) (by omega) hb1 hS (fun j p q => absurd q (by omega)) (fun _ _ _ _ => rfl)
end T81
