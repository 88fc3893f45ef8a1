/-! WHAT THE LAW'S CODE GIVES (wip/whole/f) -/
theorem k_gives {sl : Nat} {sx : Nat → Int32} {d t m : Nat} {M : QM} {h : Nat → Int32} (ht : qIsT t) (hT : TW M t m h) : ∃ M', qK sl sx (d + 4) 27 [.ref 17, .ref 13, .ref t] M = some (some (.int (GC M (M.1 13 1) (M.1 13 2) (M.1 13 3) (h m) (nI (lr h m)) (nI (m + 1)))), M') ∧ Fr [1703, 19] M M' := by
  sorry
