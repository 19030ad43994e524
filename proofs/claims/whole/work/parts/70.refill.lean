/-- the refill set anew -/
def st3 (r : Int) (x : GS) : GS := (upg x.1 3 r, x.2)
section T70
variable {g u : Int → Int} {v W : Mem} {r s m x : Int}
theorem upg_comm {f : Int → Int} {a b x y : Int} (h : a ≠ b) : upg (upg f a x) b y = upg (upg f b y) a x := by
  funext j
  unfold upg
  by_cases h1 : j = a
  · rw [if_pos h1, if_pos h1, if_neg (by omega)]
  · rw [if_neg h1, if_neg h1]
theorem g3_fcP {h k : Int} : fcP (upg g 3 r) u m h k = fcP g u m h k := by
  unfold fcP
  rw [upg_ne (show (4 : Int) ≠ 3 by omega), upg_ne (show (6 : Int) ≠ 3 by omega)]
theorem g3_fcS {h k : Int} : fcS (upg g 3 r) u m h k = fcS g u m h k := by
  unfold fcS
  rw [g3_fcP, upg_ne (show (4 : Int) ≠ 3 by omega)]
theorem g3_fcM {h k : Int} : fcM (upg g 3 r) u m h k = fcM g u m h k := by
  unfold fcM
  rw [g3_fcP]
theorem g3_foreV {h : Int} : foreV (upg g 3 r) u m h = foreV g u m h := by
  unfold foreV
  rw [g3_fcM, g3_fcM, g3_fcM, g3_fcS, g3_fcS, g3_fcS]
theorem g3_wantV : wantV (upg g 3 r) u m x = wantV g u m x := by
  unfold wantV
  rw [upg_ne (show (1 : Int) ≠ 3 by omega), g3_foreV]
theorem g3_mxN : ∀ k : Nat, mxN (upg g 3 r) u k = mxN g u k
  | 0 => rfl
  | k + 1 => by
    unfold mxN
    rw [g3_mxN k, g3_wantV]
theorem g3_wanted : wantedV (upg g 3 r) u = wantedV g u := g3_mxN _
theorem g3_7 : upg g 3 r 7 = g 7 := upg_ne (by omega)
theorem g3_d1v : d1v (upg g 3 r) v = d1v g v := by
  unfold d1v
  rw [g3_7]
theorem g3_d2W : d2W (upg g 3 r) v W = d2W g v W := by
  unfold d2W
  rw [g3_d1v, g3_7]
  funext c s
  unfold weighTo
  rw [g3_wanted]
theorem g3_d3v : d3v (upg g 3 r) v W = d3v g v W := by
  unfold d3v
  rw [g3_d1v, g3_d2W, g3_7]
theorem g3_d3W : d3W (upg g 3 r) v W = d3W g v W := by
  unfold d3W
  rw [g3_d1v, g3_d2W, g3_7]
theorem g3_some (x : GS) (s : Int) : someV (st3 r x) s = someV x s := by
  unfold someV st3
  dsimp only
  rw [upg_ne (show (0 : Int) ≠ 3 by omega), g3_7]
theorem g3_got (x : GS) (s : Int) : gotV (st3 r x) s = gotV x s := by
  unfold gotV
  rw [g3_some]
theorem g3_warm (x : GS) (s : Int) : warmV (st3 r x) s = warmV x s := by
  unfold warmV
  rw [g3_got]
  show min (gotV x s) (upg x.1 3 r 5) = _
  rw [upg_ne (show (5 : Int) ≠ 3 by omega)]
theorem g3_gone (x : GS) (s : Int) : gone (st3 r x) s = st3 r (gone x s) := by
  show (upg (upg x.1 3 r) 5 (upg x.1 3 r 5 - warmV (st3 r x) s), setS x.2.1 s (getV (x.2.1 s) (warmV (st3 r x) s) (gotV (st3 r x) s) (upg x.1 3 r 1)), upm x.2.2 8 s (gotV (st3 r x) s)) = (upg (upg x.1 5 (x.1 5 - warmV x s)) 3 r, setS x.2.1 s (getV (x.2.1 s) (warmV x s) (gotV x s) (x.1 1)), upm x.2.2 8 s (gotV x s))
  rw [g3_warm, g3_got, upg_ne (show (5 : Int) ≠ 3 by omega), upg_ne (show (1 : Int) ≠ 3 by omega), upg_comm (show (3 : Int) ≠ 5 by omega)]
theorem g3_inN (t : Int) (x : GS) : ∀ k : Nat, inN t k (st3 r x) = st3 r (inN t k x)
  | 0 => rfl
  | k + 1 => by
    unfold inN
    rw [g3_inN t x k]
    show (if (inN t k x).2.2 7 (k : Int) = t then _ else _) = _
    split
    · exact g3_gone _ _
    · rfl
theorem g3_outN (n : Nat) (x : GS) : ∀ t : Nat, outN n t (st3 r x) = st3 r (outN n t x)
  | 0 => rfl
  | t + 1 => by
    unfold outN
    rw [g3_outN n x t, g3_inN]
theorem g3_d4 : d4 (upg g 3 r) v W = st3 r (d4 g v W) := by
  unfold d4
  rw [g3_d3v, g3_d3W]
  unfold getsX
  rw [g3_7]
  exact g3_outN _ (g, _, _) _
theorem g3_does (hG : BG g) (hB : ∀ s, 0 ≤ s → s < g 7 → BV (v s)) (h2 : g 2 = 0) (hr : 0 ≤ r) : doesX (upg g 3 r) v W = st3 r (doesX g v W) := by
  obtain ⟨⟨B, hO⟩, -, k1, -, -⟩ := d4_ok (W := W) hG hB
  have h5 := hO.2.2.1
  have h3 := hG.2.2.2.1
  have ev : d5v (upg g 3 r) v W = d5v g v W := by
    unfold d5v
    rw [g3_d4, g3_7]; rfl
  have eW : d5W (upg g 3 r) v W = d5W g v W := by
    unfold d5W
    rw [g3_d4, g3_7]; rfl
  have eg : d5g (upg g 3 r) v W = upg (d5g g v W) 3 r := by
    unfold d5g
    rw [g3_d4]
    show upg (upg (d4 g v W).1 3 r) 5 (min (upg (d4 g v W).1 3 r 5 + upg (d4 g v W).1 3 r 3) (upg (d4 g v W).1 3 r 2)) = upg (upg (d4 g v W).1 5 (min ((d4 g v W).1 5 + (d4 g v W).1 3) ((d4 g v W).1 2))) 3 r
    rw [upg_ne (show (5 : Int) ≠ 3 by omega), upg_at, upg_ne (show (2 : Int) ≠ 3 by omega), k1 2 (by omega), k1 3 (by omega), h2, upg_comm (show (3 : Int) ≠ 5 by omega), show min ((d4 g v W).1 5 + r) 0 = 0 by omega, show min ((d4 g v W).1 5 + g 3) 0 = 0 by omega]
  show (upg (d5g (upg g 3 r) v W) 6 (d5g (upg g 3 r) v W 6 + 1), d5v (upg g 3 r) v W, d5W (upg g 3 r) v W) = (upg (upg (d5g g v W) 6 (d5g g v W 6 + 1)) 3 r, d5v g v W, d5W g v W)
  rw [ev, eW, eg, upg_ne (show (6 : Int) ≠ 3 by omega), upg_comm (show (3 : Int) ≠ 6 by omega)]
theorem d4_hi (hG : BG g) (hB : ∀ s, 0 ≤ s → s < g 7 → BV (v s)) (hs : 0 ≤ s ∧ s < g 7) {j : Int} (hj : j < 10 ∨ 17 < j) : (d4 g v W).2.1 s j = v s j := by
  obtain ⟨-, -, -, -, k5⟩ := d4_ok (W := W) hG hB
  rw [k5 s j (by omega), d3v_at hs, giveV_ne (by omega), wake_ne (by omega) (by omega)]
/-- what a round adds -/
theorem does_sp (hG : BG g) (hB : ∀ s, 0 ≤ s → s < g 7 → BV (v s)) (hs : 0 ≤ s ∧ s < g 7) : (v s 32 ≤ (doesX g v W).2.1 s 32 ∧ (doesX g v W).2.1 s 32 ≤ v s 32 + 20) ∧ (v s 33 ≤ (doesX g v W).2.1 s 33 ∧ (doesX g v W).2.1 s 33 ≤ v s 33 + 300000) ∧ (v s 34 ≤ (doesX g v W).2.1 s 34 ∧ (doesX g v W).2.1 s 34 ≤ v s 34 + 1) ∧ (doesX g v W).2.1 s 9 = v s 9 := by
  have pb := pl_bd (W := W) hG hB hs
  have hb := cntV_bd (does_BV (W := W) hG hB hs).1
  show (v s 32 ≤ d5v g v W s 32 ∧ d5v g v W s 32 ≤ v s 32 + 20) ∧ (v s 33 ≤ d5v g v W s 33 ∧ d5v g v W s 33 ≤ v s 33 + 300000) ∧ (v s 34 ≤ d5v g v W s 34 ∧ d5v g v W s 34 ≤ v s 34 + 1) ∧ d5v g v W s 9 = v s 9
  rw [d5v_at hs, sv_32, sv_33, sv_34, sv_9, d4_hi (j := 32) hG hB hs (by omega), d4_hi (j := 33) hG hB hs (by omega), d4_hi (j := 34) hG hB hs (by omega), d4_hi (j := 9) hG hB hs (by omega)]
  refine ⟨by omega, by omega, ?_, rfl⟩
  split <;> omega
end T70
