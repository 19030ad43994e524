def cntA (g : Int → Int) (t S w : Int) : Int := if w = 0 then g 6 else if w = 1 then g 7 else if w = 2 then S else if w = 3 then g 5 else if w = 9 then t else if 4 ≤ w ∧ w ≤ 8 then g (w - 4) else -1000002
section T52
variable {N : Int} {μ ν : Mem} {g u : Int → Int} {v : Mem} {Q : PV → Mem → Prop} {w t : Int}
theorem qX5_count (hw : I32 w) (h10 : w ≠ 10) (b7 : 1 ≤ g 7 ∧ g 7 ≤ 4) (s3 : ν 0 1 = t) (s4 : RwM ν 0 g v) (hq : ∀ y, y = cntA g t (sumI (fun s => cntV (v s)) (g 7)) w → Q (0, y) ν) : MetP mX5_count [(105, 0), (0, w)] ν Q := by
  unfold cntA at hq
  unfold I32 at hw
  have e7 : ν 1 7 = g 7 := RwM_g s4 7 (by omega)
  have J : 4 ≤ w ∧ w ≤ 8 ∨ ¬ (0 ≤ w ∧ w ≤ 9) → OkE mX5_count 110 [(105, 0), (0, w)] [] ν Q := by
    intro hc
    refine OkE.go snX5_count [] 100 ?_
    refine ⟨by omega, ?_⟩
    refine qX5_in (by omega) (by omega) (by omega) (fun q => ?_) (fun q => ?_)
    · refine ⟨by omega, fun q' => absurd q' (by omega), fun _ => ?_⟩
      refine ⟨by omega, fun x1 e1 => ?_⟩
      refine hq x1 ?_
      rw [if_neg (by omega), if_neg (by omega), if_neg (by omega), if_neg (by omega), if_neg (by omega), if_pos (by omega)]
      exact e1.trans ((congrArg (ν 1) (show w - 4 = 400 * 0 + (w - 4) by omega)).trans (RwM_g s4 (w - 4) (by omega)))
    · refine ⟨by omega, fun _ => ?_, fun q' => absurd rfl q'⟩
      refine hq _ ?_
      rw [if_neg (by omega), if_neg (by omega), if_neg (by omega), if_neg (by omega), if_neg (by omega), if_neg (by omega)]
  refine MetP.go snX5_count [110] 100 rfl rfl rfl rfl (fun _ => ?_)
  refine ⟨by omega, by omega, fun _ => ?_, fun q => absurd h10 q⟩
  refine qX5_isHouse (fun q => absurd q (by omega)) (fun _ => ?_) (by omega)
  refine ⟨by omega, fun _ => ?_, fun q => absurd q (by omega)⟩
  refine ⟨by omega, ?_⟩
  refine And.intro (fun q => ?_) (fun n0 => And.intro (fun q => ?_) (fun n1 => And.intro (fun q => ?_) (fun n2 => And.intro (fun q => ?_) (fun n3 => And.intro (fun q => ?_) (fun n4 => And.intro (fun q => ?_) (fun n5 => And.intro (fun q => ?_) (fun n6 => And.intro (fun q => ?_) (fun n7 => And.intro (fun q => ?_) (fun n8 => And.intro (fun q => ?_) (fun n9 => ?_))))))))))
  · refine ⟨by omega, fun x1 e1 => hq x1 ?_⟩
    rw [if_pos q]; exact e1.trans (RwM_g s4 6 (by omega))
  · refine ⟨by omega, fun x1 e1 => hq x1 ?_⟩
    rw [if_neg (by omega), if_pos q]; exact e1.trans (RwM_g s4 7 (by omega))
  · rw [RwM_wk s4]
    refine qX5_allCounts (r := 0) (by omega) b7 ?_
    rw [← RwM_wk s4]
    refine hq _ ?_
    rw [if_neg (by omega), if_neg (by omega), if_pos q]
  · refine ⟨by omega, fun x1 e1 => hq x1 ?_⟩
    rw [if_neg (by omega), if_neg (by omega), if_neg (by omega), if_pos q]; exact e1.trans (RwM_g s4 5 (by omega))
  · exact J (by omega)
  · exact J (by omega)
  · exact J (by omega)
  · exact J (by omega)
  · exact J (by omega)
  · intro x1 e1
    refine hq x1 ?_
    rw [if_neg (by omega), if_neg (by omega), if_neg (by omega), if_neg (by omega), if_pos q]; exact e1.trans s3
  · exact J (by omega)
end T52
