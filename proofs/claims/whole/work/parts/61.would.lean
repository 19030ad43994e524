section T61
variable {N : Int} {μ ν : Mem} {g : Int → Int} {v W : Mem} {s : Int}
theorem d5W_at (c : Int) (hc : c ≠ 6) : d5W g v W c s = (d4 g v W).2.2 c s := by
  unfold d5W smW
  rw [if_neg (by omega)]
end T61
