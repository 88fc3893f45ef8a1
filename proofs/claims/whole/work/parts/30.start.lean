/-! FROM THE LAW'S ENTRY TO ITS LOOP: the objects are made -/
def q_M0 : QM := (fun _ _ => 0, fun _ _ => 0)
def q_start (sl : Nat) (sx : Nat → Int32) : Option (Nat × QL × List Value × QG × QM) := q_gin q_P q_cd q_ct (qX sl sx) 1000 (q_gcall q_P q_cd q_ct q_cg q_B (qX sl sx) 1000) 100 10000 (fun pc => q_l1 m_L_law pc) (q_cd 260) (q_ct 260) (fun pc L S G M => some (pc, L, S, G, M)) (fun _ _ _ => none) 400 0 (q_entry 4 [.ref 3]) [] [] q_M0
def q_M1 (sl : Nat) (sx : Nat → Int32) : QM := match q_start sl sx with
  | some r => r.2.2.2.2
  | none => q_M0
set_option maxRecDepth 1000000 in
set_option maxHeartbeats 4000000 in
theorem q_start_ok (sl : Nat) (sx : Nat → Int32) : q_start sl sx = some (18, [some (.ref 3), some (.ref 4), some (.ref 48), some (.int 0)], [], qG0, q_M1 sl sx) := by sorry
