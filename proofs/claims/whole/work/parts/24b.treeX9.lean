/-! TREES, written by wip/whole/gentree2.py: what a method does between its cut places -/
set_option maxRecDepth 100000 in
theorem e_X9_isSeen {sl : Nat} {sx : Nat → Int32} (d : Nat) (x1 : Int32) (M : QM) : qK sl sx (d + 1) 181 [.ref 48, .int x1] M = (q_bi (qK sl sx d 180 [.ref 48] M) (fun v2 M1 => if v2 = x1 then (some (some (.int 1), ((q_up M1.1 48 22 ((M1.1 48 22) + 1)), M1.2))) else (some (some (.int 0), M1)))) := rfl
set_option maxRecDepth 100000 in
theorem e_X9_one {sl : Nat} {sx : Nat → Int32} (d : Nat) (x1 : Int32) (M : QM) : qK sl sx (d + 1) 182 [.ref 48, .int x1] M = (if x1 = 0 then (some (some (.int 0), M)) else (some (some (.int 1), M))) := rfl
set_option maxRecDepth 100000 in
theorem e_X9_takesO {sl : Nat} {sx : Nat → Int32} (d : Nat)  (M : QM) : qK sl sx (d + 1) 183 [.ref 48] M = (if (M.1 48 22) < 0 ∨ 120 ≤ (M.1 48 22).toNatClampNeg then none else (q_bi (qK sl sx d 170 [.ref 48, .int (M.1 55 (M.1 48 22).toNatClampNeg)] M) (fun v2 M1 => if v2 = 0 then (if (M.1 55 (M.1 48 22).toNatClampNeg) = 33 then (q_bi (qK sl sx d 183 [.ref 48] ((q_up M1.1 48 22 ((M1.1 48 22) + 1)), M1.2)) (fun v4 M3 => if v4 = 0 then (q_bi (qK sl sx d 182 [.ref 48, .int 1] M3) (fun v6 M5 => some (some (.int v6), M5))) else (q_bi (qK sl sx d 182 [.ref 48, .int 0] M3) (fun v8 M7 => some (some (.int v8), M7))))) else (if (M.1 55 (M.1 48 22).toNatClampNeg) = 45 then (q_bi (qK sl sx d 183 [.ref 48] ((q_up M1.1 48 22 ((M1.1 48 22) + 1)), M1.2)) (fun v10 M9 => some (some (.int (-v10)), M9))) else (if (M.1 55 (M.1 48 22).toNatClampNeg) = 40 then (q_bi (qK sl sx d 188 [.ref 48] ((q_up M1.1 48 22 ((M1.1 48 22) + 1)), M1.2)) (fun v12 M11 => some (some (.int v12), ((q_up M11.1 48 22 ((M11.1 48 22) + 1)), M11.2)))) else (if (M.1 55 (M.1 48 22).toNatClampNeg) < 0 ∨ 128 ≤ (M.1 55 (M.1 48 22).toNatClampNeg).toNatClampNeg then none else (some (some (.int (M1.1 60 (M.1 55 (M.1 48 22).toNatClampNeg).toNatClampNeg)), ((q_up M1.1 48 22 ((M1.1 48 22) + 1)), M1.2))))))) else (qF sl sx d 183 q_n1 20 [some (.ref 48), none, some (.int 0)] [] M1)))) := by
  rw [q_ent0]
  generalize q_n1 = n
  rfl
set_option maxRecDepth 100000 in
theorem b_X9_takesO_20 {sl : Nat} {sx : Nat → Int32} (d n : Nat) (l2 : Int32) (M : QM) : qF sl sx d 183 (n + 1) 20 [some (.ref 48), none, some (.int l2)] [] M = (q_bi (qK sl sx d 180 [.ref 48] M) (fun v14 M13 => q_bi (qK sl sx d 170 [.ref 48, .int v14] M13) (fun v16 M15 => if v16 = 0 then (some (some (.int l2), M15)) else (if (M15.1 48 22) < 0 ∨ 120 ≤ (M15.1 48 22).toNatClampNeg then none else (qF sl sx d 183 n 20 [some (.ref 48), none, some (.int (((10 * l2) + (M15.1 55 (M15.1 48 22).toNatClampNeg)) - 48))] [] ((q_up M15.1 48 22 ((M15.1 48 22) + 1)), M15.2)))))) := rfl
set_option maxRecDepth 100000 in
theorem e_X9_takesP {sl : Nat} {sx : Nat → Int32} (d : Nat)  (M : QM) : qK sl sx (d + 1) 184 [.ref 48] M = (q_bi (qK sl sx d 183 [.ref 48] M) (fun v2 M1 => qF sl sx d 184 q_n1 5 [some (.ref 48), some (.int v2), none] [] M1)) := by
  rw [q_ent0]
  generalize q_n1 = n
  rfl
set_option maxRecDepth 100000 in
theorem b_X9_takesP_5 {sl : Nat} {sx : Nat → Int32} (d n : Nat) (l1 : Int32) (M : QM) : qF sl sx d 184 (n + 1) 5 [some (.ref 48), some (.int l1), none] [] M = (q_bi (qK sl sx d 181 [.ref 48, .int 42] M) (fun v4 M3 => if v4 = 0 then (q_bi (qK sl sx d 181 [.ref 48, .int 47] M3) (fun v6 M5 => if v6 = 0 then (q_bi (qK sl sx d 181 [.ref 48, .int 37] M5) (fun v8 M7 => if v8 = 0 then (some (some (.int l1), M7)) else (q_bi (qK sl sx d 183 [.ref 48] M7) (fun v10 M9 => if v10 = 0 then (qF sl sx d 184 n 5 [some (.ref 48), some (.int 0), none] [] M9) else (if v10 = 0 then none else (qF sl sx d 184 n 5 [some (.ref 48), some (.int (l1 - l1 / v10 * v10)), none] [] M9)))))) else (q_bi (qK sl sx d 183 [.ref 48] M5) (fun v12 M11 => if v12 = 0 then (qF sl sx d 184 n 5 [some (.ref 48), some (.int 0), none] [] M11) else (if v12 = 0 then none else (qF sl sx d 184 n 5 [some (.ref 48), some (.int (l1 / v12)), none] [] M11)))))) else (q_bi (qK sl sx d 183 [.ref 48] M3) (fun v14 M13 => qF sl sx d 184 n 5 [some (.ref 48), some (.int (l1 * v14)), none] [] M13)))) := rfl
set_option maxRecDepth 100000 in
theorem e_X9_takesS {sl : Nat} {sx : Nat → Int32} (d : Nat)  (M : QM) : qK sl sx (d + 1) 185 [.ref 48] M = (q_bi (qK sl sx d 184 [.ref 48] M) (fun v2 M1 => qF sl sx d 185 q_n1 5 [some (.ref 48), some (.int v2)] [] M1)) := by
  rw [q_ent0]
  generalize q_n1 = n
  rfl
set_option maxRecDepth 100000 in
theorem b_X9_takesS_5 {sl : Nat} {sx : Nat → Int32} (d n : Nat) (l1 : Int32) (M : QM) : qF sl sx d 185 (n + 1) 5 [some (.ref 48), some (.int l1)] [] M = (q_bi (qK sl sx d 181 [.ref 48, .int 43] M) (fun v4 M3 => if v4 = 0 then (q_bi (qK sl sx d 181 [.ref 48, .int 45] M3) (fun v6 M5 => if v6 = 0 then (some (some (.int l1), M5)) else (q_bi (qK sl sx d 184 [.ref 48] M5) (fun v8 M7 => qF sl sx d 185 n 5 [some (.ref 48), some (.int (l1 - v8))] [] M7)))) else (q_bi (qK sl sx d 184 [.ref 48] M3) (fun v10 M9 => qF sl sx d 185 n 5 [some (.ref 48), some (.int (l1 + v10))] [] M9)))) := rfl
set_option maxRecDepth 100000 in
theorem e_X9_takesB {sl : Nat} {sx : Nat → Int32} (d : Nat)  (M : QM) : qK sl sx (d + 1) 186 [.ref 48] M = (q_bi (qK sl sx d 185 [.ref 48] M) (fun v2 M1 => q_bi (qK sl sx d 181 [.ref 48, .int 60] M1) (fun v4 M3 => if v4 = 0 then (q_bi (qK sl sx d 181 [.ref 48, .int 61] M3) (fun v6 M5 => if v6 = 0 then (q_bi (qK sl sx d 181 [.ref 48, .int 62] M5) (fun v8 M7 => if v8 = 0 then (some (some (.int v2), M7)) else (q_bi (qK sl sx d 185 [.ref 48] M7) (fun v10 M9 => if v2 ≤ v10 then (q_bi (qK sl sx d 182 [.ref 48, .int 0] M9) (fun v12 M11 => some (some (.int v12), M11))) else (q_bi (qK sl sx d 182 [.ref 48, .int 1] M9) (fun v14 M13 => some (some (.int v14), M13))))))) else (q_bi (qK sl sx d 185 [.ref 48] M5) (fun v16 M15 => if v2 = v16 then (q_bi (qK sl sx d 182 [.ref 48, .int 1] M15) (fun v18 M17 => some (some (.int v18), M17))) else (q_bi (qK sl sx d 182 [.ref 48, .int 0] M15) (fun v20 M19 => some (some (.int v20), M19))))))) else (q_bi (qK sl sx d 185 [.ref 48] M3) (fun v22 M21 => if v22 ≤ v2 then (q_bi (qK sl sx d 182 [.ref 48, .int 0] M21) (fun v24 M23 => some (some (.int v24), M23))) else (q_bi (qK sl sx d 182 [.ref 48, .int 1] M21) (fun v26 M25 => some (some (.int v26), M25)))))))) := rfl
set_option maxRecDepth 100000 in
theorem e_X9_takesA {sl : Nat} {sx : Nat → Int32} (d : Nat)  (M : QM) : qK sl sx (d + 1) 187 [.ref 48] M = (q_bi (qK sl sx d 186 [.ref 48] M) (fun v2 M1 => qF sl sx d 187 q_n1 5 [some (.ref 48), some (.int v2), none] [] M1)) := by
  rw [q_ent0]
  generalize q_n1 = n
  rfl
set_option maxRecDepth 100000 in
theorem b_X9_takesA_5 {sl : Nat} {sx : Nat → Int32} (d n : Nat) (l1 : Int32) (M : QM) : qF sl sx d 187 (n + 1) 5 [some (.ref 48), some (.int l1), none] [] M = (q_bi (qK sl sx d 181 [.ref 48, .int 38] M) (fun v4 M3 => if v4 = 0 then (some (some (.int l1), M3)) else (q_bi (qK sl sx d 186 [.ref 48] M3) (fun v6 M5 => if l1 = 0 then (q_bi (qK sl sx d 182 [.ref 48, .int 0] M5) (fun v8 M7 => qF sl sx d 187 n 5 [some (.ref 48), some (.int v8), none] [] M7)) else (if v6 = 0 then (q_bi (qK sl sx d 182 [.ref 48, .int 0] M5) (fun v10 M9 => qF sl sx d 187 n 5 [some (.ref 48), some (.int v10), none] [] M9)) else (q_bi (qK sl sx d 182 [.ref 48, .int 1] M5) (fun v12 M11 => qF sl sx d 187 n 5 [some (.ref 48), some (.int v12), none] [] M11))))))) := rfl
set_option maxRecDepth 100000 in
theorem e_X9_takesE {sl : Nat} {sx : Nat → Int32} (d : Nat)  (M : QM) : qK sl sx (d + 1) 188 [.ref 48] M = (q_bi (qK sl sx d 187 [.ref 48] M) (fun v2 M1 => qF sl sx d 188 q_n1 5 [some (.ref 48), some (.int v2), none] [] M1)) := by
  rw [q_ent0]
  generalize q_n1 = n
  rfl
set_option maxRecDepth 100000 in
theorem b_X9_takesE_5 {sl : Nat} {sx : Nat → Int32} (d n : Nat) (l1 : Int32) (M : QM) : qF sl sx d 188 (n + 1) 5 [some (.ref 48), some (.int l1), none] [] M = (q_bi (qK sl sx d 181 [.ref 48, .int 124] M) (fun v4 M3 => if v4 = 0 then (some (some (.int l1), M3)) else (q_bi (qK sl sx d 187 [.ref 48] M3) (fun v6 M5 => if l1 = 0 then (if v6 = 0 then (q_bi (qK sl sx d 182 [.ref 48, .int 0] M5) (fun v8 M7 => qF sl sx d 188 n 5 [some (.ref 48), some (.int v8), none] [] M7)) else (q_bi (qK sl sx d 182 [.ref 48, .int 1] M5) (fun v10 M9 => qF sl sx d 188 n 5 [some (.ref 48), some (.int v10), none] [] M9))) else (q_bi (qK sl sx d 182 [.ref 48, .int 1] M5) (fun v12 M11 => qF sl sx d 188 n 5 [some (.ref 48), some (.int v12), none] [] M11)))))) := rfl
set_option maxRecDepth 100000 in
theorem e_X9_given {sl : Nat} {sx : Nat → Int32} (d : Nat)  (M : QM) : qK sl sx (d + 1) 189 [.ref 48] M = (qF sl sx d 189 q_n1 5 [some (.ref 48), none, none] [] ((q_up M.1 48 22 0), M.2)) := by
  rw [q_ent0]
  generalize q_n1 = n
  rfl
set_option maxRecDepth 100000 in
theorem b_X9_given_5 {sl : Nat} {sx : Nat → Int32} (d n : Nat)  (M : QM) : qF sl sx d 189 (n + 1) 5 [some (.ref 48), none, none] [] M = (if (M.1 48 5) ≤ (M.1 48 22) then (some (some (.int 0), M)) else (q_bi (qK sl sx d 188 [.ref 48] M) (fun v2 M1 => q_bi (qK sl sx d 181 [.ref 48, .int 63] M1) (fun v4 M3 => if v4 = 0 then (some (some (.int v2), M3)) else (q_bi (qK sl sx d 188 [.ref 48] M3) (fun v6 M5 => if v2 = 0 then (qF sl sx d 189 n 5 [some (.ref 48), none, none] [] ((q_up M5.1 48 22 ((M5.1 48 22) + 1)), M5.2)) else (some (some (.int v6), M5)))))))) := rfl
set_option maxRecDepth 100000 in
theorem e_X9_plain {sl : Nat} {sx : Nat → Int32} (d : Nat)  (M : QM) : qK sl sx (d + 1) 190 [.ref 48] M = (qF sl sx d 190 q_n1 17 [some (.ref 48), some (.int 0)] [] ((q_up (q_up (q_up M.1 48 30 0) 48 31 (-1)) 48 34 0), M.2)) := by
  rw [q_ent0]
  generalize q_n1 = n
  rfl
set_option maxRecDepth 100000 in
theorem b_X9_plain_17 {sl : Nat} {sx : Nat → Int32} (d n : Nat) (l1 : Int32) (M : QM) : qF sl sx d 190 (n + 1) 17 [some (.ref 48), some (.int l1)] [] M = (if 300 < l1 then (some (none, M)) else (if l1 < 0 ∨ 301 ≤ l1.toNatClampNeg then none else (qF sl sx d 190 n 17 [some (.ref 48), some (.int (l1 + 1))] [] ((q_up M.1 65 l1.toNatClampNeg (vp_nar .boolean 0)), M.2)))) := rfl
set_option maxRecDepth 100000 in
theorem e_X9_rungAt {sl : Nat} {sx : Nat → Int32} (d : Nat) (a1 : Nat) (x2 : Int32) (M : QM) : qK sl sx (d + 1) 191 [.ref 48, .ref a1, .int x2] M = (if 0 ≤ x2 then (q_arI qG0 (qX sl sx) M a1 x2 (fun v1 => some (some (.int v1), M))) else (some (some (.int 0), M))) := rfl
set_option maxRecDepth 100000 in
theorem e_X9_signOf {sl : Nat} {sx : Nat → Int32} (d : Nat) (a1 : Nat) (x2 : Int32) (x3 : Int32) (M : QM) : qK sl sx (d + 1) 192 [.ref 48, .ref a1, .int x2, .int x3] M = (if x2 < 0 ∨ 10 ≤ x2.toNatClampNeg then none else (q_bi (qK sl sx d 191 [.ref 48, .ref a1, .int (x3 - (M.1 49 x2.toNatClampNeg))] M) (fun v2 M1 => if x2 < 0 ∨ 10 ≤ x2.toNatClampNeg then none else (if (M1.1 50 x2.toNatClampNeg) = 0 then (some (some (.int v2), M1)) else (if (M1.1 50 x2.toNatClampNeg) = 1 then (some (some (.int 0), M1)) else (if (M1.1 50 x2.toNatClampNeg) = 2 then (if v2 = 1 then (some (some (.int 2), M1)) else (if v2 = 2 then (some (some (.int 1), M1)) else (some (some (.int v2), M1)))) else (if (M1.1 50 x2.toNatClampNeg) = 3 then (if x2 < 0 ∨ 10 ≤ x2.toNatClampNeg then none else (if (M1.1 51 x2.toNatClampNeg) + 1 = 0 then none else (if (x3 - x3 / ((M1.1 51 x2.toNatClampNeg) + 1) * ((M1.1 51 x2.toNatClampNeg) + 1)) = 0 then (if x2 < 0 ∨ 10 ≤ x2.toNatClampNeg then none else (some (some (.int (M1.1 52 x2.toNatClampNeg)), M1))) else (some (some (.int 0), M1))))) else (if (M1.1 50 x2.toNatClampNeg) = 4 then (if x2 < 0 ∨ 10 ≤ x2.toNatClampNeg then none else (if x2 < 0 ∨ 10 ≤ x2.toNatClampNeg then none else (q_bi (qK sl sx d 191 [.ref 48, .ref a1, .int ((x3 - (M1.1 49 x2.toNatClampNeg)) - (M1.1 53 x2.toNatClampNeg))] M1) (fun v4 M3 => some (some (.int v4), M3))))) else (if x2 < 0 ∨ 10 ≤ x2.toNatClampNeg then none else (if x3 < (M1.1 51 x2.toNatClampNeg) then (some (some (.int v2), M1)) else (if x2 < 0 ∨ 10 ≤ x2.toNatClampNeg then none else (some (some (.int (M1.1 52 x2.toNatClampNeg)), M1))))))))))))) := rfl
set_option maxRecDepth 100000 in
theorem e_X9_sign {sl : Nat} {sx : Nat → Int32} (d : Nat) (x1 : Int32) (x2 : Int32) (M : QM) : qK sl sx (d + 1) 193 [.ref 48, .int x1, .int x2] M = (if x2 < 0 ∨ 301 ≤ x2.toNatClampNeg then none else (if (M.1 65 x2.toNatClampNeg) = 0 then (if x1 = (M.1 48 31) then (if x2 = (M.1 48 32) then (some (some (.int (M.1 48 33)), M)) else (q_bi (qK sl sx d 154 [.ref 48, .int (M.1 48 30), .int x1] M) (fun v2 M1 => if v2 = 0 then (q_bi (qK sl sx d 154 [.ref 48, .int (M1.1 48 34), .int x1] M1) (fun v4 M3 => if v4 = 0 then (q_bi (qK sl sx d 192 [.ref 48, .ref 61, .int x1, .int x2] M3) (fun v6 M5 => some (some (.int v6), M5))) else (q_bi (qK sl sx d 192 [.ref 48, .ref 62, .int x1, .int x2] M3) (fun v8 M7 => some (some (.int v8), M7))))) else (some (some (.int 0), M1))))) else (q_bi (qK sl sx d 154 [.ref 48, .int (M.1 48 30), .int x1] M) (fun v10 M9 => if v10 = 0 then (q_bi (qK sl sx d 154 [.ref 48, .int (M9.1 48 34), .int x1] M9) (fun v12 M11 => if v12 = 0 then (q_bi (qK sl sx d 192 [.ref 48, .ref 61, .int x1, .int x2] M11) (fun v14 M13 => some (some (.int v14), M13))) else (q_bi (qK sl sx d 192 [.ref 48, .ref 62, .int x1, .int x2] M11) (fun v16 M15 => some (some (.int v16), M15))))) else (some (some (.int 0), M9))))) else (some (some (.int 0), M)))) := rfl
set_option maxRecDepth 100000 in
theorem e_X9_counts {sl : Nat} {sx : Nat → Int32} (d : Nat) (x1 : Int32) (M : QM) : qK sl sx (d + 1) 194 [.ref 48, .int x1] M = (qF sl sx d 194 q_n1 2 [some (.ref 48), some (.int x1), some (.int 0)] [] M) := by
  rw [q_ent0]
  generalize q_n1 = n
  rfl
set_option maxRecDepth 100000 in
theorem b_X9_counts_2 {sl : Nat} {sx : Nat → Int32} (d n : Nat) (l1 : Int32) (l2 : Int32) (M : QM) : qF sl sx d 194 (n + 1) 2 [some (.ref 48), some (.int l1), some (.int l2)] [] M = (if 4 ≤ l2 then (qF sl sx d 194 n 22 [some (.ref 48), some (.int l1), some (.int 0)] [] M) else (if l2 < 0 ∨ 4 ≤ l2.toNatClampNeg then none else (qF sl sx d 194 n 2 [some (.ref 48), some (.int l1), some (.int (l2 + 1))] [] ((q_up M.1 66 l2.toNatClampNeg 0), M.2)))) := rfl
set_option maxRecDepth 100000 in
theorem b_X9_counts_22 {sl : Nat} {sx : Nat → Int32} (d n : Nat) (l1 : Int32) (l2 : Int32) (M : QM) : qF sl sx d 194 (n + 1) 22 [some (.ref 48), some (.int l1), some (.int l2)] [] M = (if (M.1 48 0) ≤ l2 then (some (none, M)) else (q_bi (qK sl sx d 193 [.ref 48, .int l2, .int l1] M) (fun v2 M1 => if v2 < 0 ∨ 4 ≤ v2.toNatClampNeg then none else (if v2 < 0 ∨ 4 ≤ v2.toNatClampNeg then none else (qF sl sx d 194 n 22 [some (.ref 48), some (.int l1), some (.int (l2 + 1))] [] ((q_up M1.1 66 v2.toNatClampNeg ((M1.1 66 v2.toNatClampNeg) + 1)), M1.2)))))) := rfl
set_option maxRecDepth 100000 in
theorem e_X9_rungNext {sl : Nat} {sx : Nat → Int32} (d : Nat) (a1 : Nat) (x2 : Int32) (M : QM) : qK sl sx (d + 1) 195 [.ref 48, .ref a1, .int x2] M = (if (M.1 48 8) = 0 then (qF sl sx d 195 q_n1 12 [some (.ref 48), none, none, some (.int 0), some (.int 1)] [] M) else (qF sl sx d 195 q_n1 77 [some (.ref 48), some (.ref a1), some (.int x2), none, some (.int 1)] [] M)) := by
  rw [q_ent0]
  generalize q_n1 = n
  rfl
set_option maxRecDepth 100000 in
theorem b_X9_rungNext_12 {sl : Nat} {sx : Nat → Int32} (d n : Nat) (l3 : Int32) (l4 : Int32) (M : QM) : qF sl sx d 195 (n + 1) 12 [some (.ref 48), none, none, some (.int l3), some (.int l4)] [] M = (if 4 ≤ l4 then (some (some (.int l3), M)) else (if l4 < 0 ∨ 4 ≤ l4.toNatClampNeg then none else (if (M.1 66 l4.toNatClampNeg) < (M.1 48 1) then (qF sl sx d 195 n 12 [some (.ref 48), none, none, some (.int l3), some (.int (l4 + 1))] [] M) else (if l4 < 0 ∨ 4 ≤ l4.toNatClampNeg then none else (if (M.1 66 l4.toNatClampNeg) < 1 then (qF sl sx d 195 n 12 [some (.ref 48), none, none, some (.int l3), some (.int (l4 + 1))] [] M) else (if l3 = 0 then (qF sl sx d 195 n 12 [some (.ref 48), none, none, some (.int l4), some (.int (l4 + 1))] [] M) else (if l4 < 0 ∨ 4 ≤ l4.toNatClampNeg then none else (if l3 < 0 ∨ 4 ≤ l3.toNatClampNeg then none else (if (M.1 66 l4.toNatClampNeg) ≤ (M.1 66 l3.toNatClampNeg) then (qF sl sx d 195 n 12 [some (.ref 48), none, none, some (.int l3), some (.int (l4 + 1))] [] M) else (qF sl sx d 195 n 12 [some (.ref 48), none, none, some (.int l4), some (.int (l4 + 1))] [] M)))))))))) := rfl
set_option maxRecDepth 100000 in
theorem b_X9_rungNext_77 {sl : Nat} {sx : Nat → Int32} (d n : Nat) (l1 : Nat) (l2 : Int32) (l4 : Int32) (M : QM) : qF sl sx d 195 (n + 1) 77 [some (.ref 48), some (.ref l1), some (.int l2), none, some (.int l4)] [] M = (if l2 ≤ l4 then (q_arI qG0 (qX sl sx) ((q_up (q_up (q_up M.1 60 97 (M.1 66 1)) 60 98 (M.1 66 2)) 60 99 (M.1 66 3)), M.2) l1 (l2 - 1) (fun v1 => q_bi (qK sl sx d 189 [.ref 48] ((q_up (q_up (q_up (q_up (q_up (q_up M.1 60 97 (M.1 66 1)) 60 98 (M.1 66 2)) 60 99 (M.1 66 3)) 60 114 v1) 60 103 l4) 60 109 l2), M.2)) (fun v3 M2 => if 0 ≤ v3 then (if v3 ≤ 3 then (some (some (.int v3), M2)) else (some (some (.int 3), M2))) else (some (some (.int 0), M2))))) else (q_arI qG0 (qX sl sx) M l1 ((l2 - 1) - l4) (fun v4 => q_arI qG0 (qX sl sx) M l1 (l2 - 1) (fun v5 => if v4 = v5 then (qF sl sx d 195 n 77 [some (.ref 48), some (.ref l1), some (.int l2), none, some (.int (l4 + 1))] [] M) else (q_arI qG0 (qX sl sx) ((q_up (q_up (q_up M.1 60 97 (M.1 66 1)) 60 98 (M.1 66 2)) 60 99 (M.1 66 3)), M.2) l1 (l2 - 1) (fun v6 => q_bi (qK sl sx d 189 [.ref 48] ((q_up (q_up (q_up (q_up (q_up (q_up M.1 60 97 (M.1 66 1)) 60 98 (M.1 66 2)) 60 99 (M.1 66 3)) 60 114 v6) 60 103 l4) 60 109 l2), M.2)) (fun v8 M7 => if 0 ≤ v8 then (if v8 ≤ 3 then (some (some (.int v8), M7)) else (some (some (.int 3), M7))) else (some (some (.int 0), M7))))))))) := rfl
set_option maxRecDepth 100000 in
theorem e_X9_goes {sl : Nat} {sx : Nat → Int32} (d : Nat) (x1 : Int32) (M : QM) : qK sl sx (d + 1) 196 [.ref 48, .int x1] M = (qF sl sx d 196 q_n1 12 [some (.ref 48), some (.int x1), some (.int 1)] [] ((q_up M.1 61 0 (M.1 48 2)), M.2)) := by
  rw [q_ent0]
  generalize q_n1 = n
  rfl
set_option maxRecDepth 100000 in
theorem b_X9_goes_12 {sl : Nat} {sx : Nat → Int32} (d n : Nat) (l1 : Int32) (l2 : Int32) (M : QM) : qF sl sx d 196 (n + 1) 12 [some (.ref 48), some (.int l1), some (.int l2)] [] M = (if l1 < l2 then (some (none, M)) else (q_bv (qK sl sx d 194 [.ref 48, .int (l2 - 1)] M) (fun M1 => q_bi (qK sl sx d 195 [.ref 48, .ref 61, .int l2] M1) (fun v3 M2 => if l2 < 0 ∨ 301 ≤ l2.toNatClampNeg then none else (qF sl sx d 196 n 12 [some (.ref 48), some (.int l1), some (.int (l2 + 1))] [] ((q_up M2.1 61 l2.toNatClampNeg v3), M2.2)))))) := rfl
set_option maxRecDepth 100000 in
theorem e_X9_goesPlain {sl : Nat} {sx : Nat → Int32} (d : Nat) (x1 : Int32) (M : QM) : qK sl sx (d + 1) 197 [.ref 48, .int x1] M = (q_bv (qK sl sx d 190 [.ref 48] M) (fun M1 => q_bv (qK sl sx d 196 [.ref 48, .int x1] M1) (fun M2 => some (none, M2)))) := rfl
set_option maxRecDepth 100000 in
theorem e_X9_rung {sl : Nat} {sx : Nat → Int32} (d : Nat) (x1 : Int32) (M : QM) : qK sl sx (d + 1) 198 [.ref 48, .int x1] M = (q_bi (qK sl sx d 153 [.ref 48, .int x1] M) (fun v2 M1 => if v2 = 0 then (some (some (.int (-1)), M1)) else (q_bv (qK sl sx d 197 [.ref 48, .int x1] M1) (fun M3 => if x1 < 0 ∨ 301 ≤ x1.toNatClampNeg then none else (some (some (.int (M3.1 61 x1.toNatClampNeg)), M3)))))) := rfl
set_option maxRecDepth 100000 in
theorem e_X9_does {sl : Nat} {sx : Nat → Int32} (d : Nat) (x1 : Int32) (x2 : Int32) (M : QM) : qK sl sx (d + 1) 199 [.ref 48, .int x1, .int x2] M = (q_bi (qK sl sx d 152 [.ref 48, .int x1] M) (fun v2 M1 => if v2 = 0 then (some (some (.int (-1)), M1)) else (q_bi (qK sl sx d 153 [.ref 48, .int x2] M1) (fun v4 M3 => if v4 = 0 then (some (some (.int (-1)), M3)) else (q_bv (qK sl sx d 197 [.ref 48, .int x2] M3) (fun M5 => q_bi (qK sl sx d 193 [.ref 48, .int x1, .int x2] M5) (fun v7 M6 => some (some (.int v7), M6)))))))) := rfl
set_option maxRecDepth 100000 in
theorem e_X9_signs {sl : Nat} {sx : Nat → Int32} (d : Nat) (x1 : Int32) (x2 : Int32) (M : QM) : qK sl sx (d + 1) 200 [.ref 48, .int x1, .int x2] M = (q_bi (qK sl sx d 153 [.ref 48, .int x1] M) (fun v2 M1 => if v2 = 0 then (some (some (.int (-1)), M1)) else (q_bi (qK sl sx d 151 [.ref 48, .int x2, .int 0, .int 3] M1) (fun v4 M3 => if v4 = 0 then (some (some (.int (-1)), M3)) else (q_bv (qK sl sx d 197 [.ref 48, .int x1] M3) (fun M5 => q_bv (qK sl sx d 194 [.ref 48, .int x1] M5) (fun M6 => if x2 < 0 ∨ 4 ≤ x2.toNatClampNeg then none else (some (some (.int (M6.1 66 x2.toNatClampNeg)), M6))))))))) := rfl
set_option maxRecDepth 100000 in
theorem e_X9_isAgain {sl : Nat} {sx : Nat → Int32} (d : Nat) (x1 : Int32) (x2 : Int32) (M : QM) : qK sl sx (d + 1) 201 [.ref 48, .int x1, .int x2] M = (qF sl sx d 201 q_n1 2 [some (.ref 48), none, some (.int x2), some (.int x1)] [] M) := by
  rw [q_ent0]
  generalize q_n1 = n
  rfl
set_option maxRecDepth 100000 in
theorem b_X9_isAgain_2 {sl : Nat} {sx : Nat → Int32} (d n : Nat) (l2 : Int32) (l3 : Int32) (M : QM) : qF sl sx d 201 (n + 1) 2 [some (.ref 48), none, some (.int l2), some (.int l3)] [] M = (if (300 - l2) < l3 then (some (some (.int 1), M)) else (if l3 < 0 ∨ 301 ≤ l3.toNatClampNeg then none else (if (l3 + l2) < 0 ∨ 301 ≤ (l3 + l2).toNatClampNeg then none else (if (M.1 61 l3.toNatClampNeg) = (M.1 61 (l3 + l2).toNatClampNeg) then (qF sl sx d 201 n 2 [some (.ref 48), none, some (.int l2), some (.int (l3 + 1))] [] M) else (some (some (.int 0), M)))))) := rfl
set_option maxRecDepth 100000 in
theorem e_X9_round {sl : Nat} {sx : Nat → Int32} (d : Nat) (x1 : Int32) (M : QM) : qK sl sx (d + 1) 202 [.ref 48, .int x1] M = (q_bi (qK sl sx d 151 [.ref 48, .int x1, .int 0, .int 1] M) (fun v2 M1 => if v2 = 0 then (some (some (.int (-1)), M1)) else (q_bv (qK sl sx d 197 [.ref 48, .int 300] M1) (fun M3 => qF sl sx d 202 q_n1 21 [some (.ref 48), some (.int x1), some (.int 0), none] [] M3)))) := by
  rw [q_ent0]
  generalize q_n1 = n
  rfl
set_option maxRecDepth 100000 in
theorem b_X9_round_21 {sl : Nat} {sx : Nat → Int32} (d n : Nat) (l1 : Int32) (l2 : Int32) (M : QM) : qF sl sx d 202 (n + 1) 21 [some (.ref 48), some (.int l1), some (.int l2), none] [] M = (if 300 < l2 then (some (some (.int (-2)), M)) else (qF sl sx d 202 n 30 [some (.ref 48), some (.int l1), some (.int l2), some (.int 1)] [] M)) := rfl
set_option maxRecDepth 100000 in
theorem b_X9_round_30 {sl : Nat} {sx : Nat → Int32} (d n : Nat) (l1 : Int32) (l2 : Int32) (l3 : Int32) (M : QM) : qF sl sx d 202 (n + 1) 30 [some (.ref 48), some (.int l1), some (.int l2), some (.int l3)] [] M = (if 60 < l3 then (qF sl sx d 202 n 21 [some (.ref 48), some (.int l1), some (.int (l2 + 1)), none] [] M) else (if (300 - (2 * l3)) < l2 then (qF sl sx d 202 n 21 [some (.ref 48), some (.int l1), some (.int (l2 + 1)), none] [] M) else (q_bi (qK sl sx d 201 [.ref 48, .int l2, .int l3] M) (fun v5 M4 => if v5 = 0 then (qF sl sx d 202 n 30 [some (.ref 48), some (.int l1), some (.int l2), some (.int (l3 + 1))] [] M4) else (if l1 = 0 then (some (some (.int l2), M4)) else (some (some (.int l3), M4))))))) := rfl
set_option maxRecDepth 100000 in
theorem e_X9_end {sl : Nat} {sx : Nat → Int32} (d : Nat)  (M : QM) : qK sl sx (d + 1) 203 [.ref 48] M = (qF sl sx d 203 q_n1 4 [some (.ref 48), some (.int 301)] [] M) := by
  rw [q_ent0]
  generalize q_n1 = n
  rfl
set_option maxRecDepth 100000 in
theorem b_X9_end_4 {sl : Nat} {sx : Nat → Int32} (d n : Nat) (l1 : Int32) (M : QM) : qF sl sx d 203 (n + 1) 4 [some (.ref 48), some (.int l1)] [] M = (if l1 ≤ 0 then (some (some (.int l1), M)) else (if (l1 - 1) < 0 ∨ 301 ≤ (l1 - 1).toNatClampNeg then none else (if (M.1 61 (l1 - 1).toNatClampNeg) = 0 then (qF sl sx d 203 n 4 [some (.ref 48), some (.int (l1 + (-1)))] [] M) else (some (some (.int l1), M))))) := rfl
set_option maxRecDepth 100000 in
theorem e_X9_endOr {sl : Nat} {sx : Nat → Int32} (d : Nat) (x1 : Int32) (M : QM) : qK sl sx (d + 1) 204 [.ref 48, .int x1] M = (if x1 ≤ 300 then (some (some (.int x1), M)) else (some (some (.int (-2)), M))) := rfl
