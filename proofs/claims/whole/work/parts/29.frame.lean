/-! THE LAW'S FRAME: the classes, the tables and the script as the clean machine has them (written by wip/whole/genstart.py) -/
theorem q_classes {s : State} {args : Array Value} (hts : ∀ w ∈ q_GW, w.before args s = true) : ∃ D : va_G, ∀ (k : Nat) (q : vw_C), vwCl[k]? = some q → u_Kn s q.1 q.2.1 q.2.2 (D.1 k) (D.2 k) := by
  have K1 : ∀ k : Nat, ∃ (cC : ClassId) (iS : Nat → Nat), ∀ q : vw_C, vwCl[k]? = some q → u_Kn s q.1 q.2.1 q.2.2 cC iS := by
    intro k
    match k with
    | 0 =>
      obtain ⟨cC, iS, h⟩ := u_known (C := RX0) (T := TX0) (N := 5) (n := 5) hts qk_X0.2.2.2.2 (hts (.instantiable RX0 5) (q_wT1 152 (by decide +kernel) (by decide +kernel)))
      exact ⟨cC, iS, fun q hq => by cases hq; exact h⟩
    | 1 =>
      obtain ⟨cC, iS, h⟩ := u_known (C := RX1) (T := TX1) (N := 6) (n := 6) hts qk_X1.2.2.2.2 (hts (.instantiable RX1 6) (q_wT1 116 (by decide +kernel) (by decide +kernel)))
      exact ⟨cC, iS, fun q hq => by cases hq; exact h⟩
    | 2 =>
      obtain ⟨cC, iS, h⟩ := u_known (C := RX2) (T := TX2) (N := 2) (n := 2) hts qk_X2.2.2.2.2 (hts (.instantiable RX2 2) (q_wT1 23 (by decide +kernel) (by decide +kernel)))
      exact ⟨cC, iS, fun q hq => by cases hq; exact h⟩
    | 3 =>
      obtain ⟨cC, iS, h⟩ := u_known (C := RX3) (T := TX3) (N := 4) (n := 4) hts qk_X3.2.2.2.2 (hts (.instantiable RX3 4) (q_wT1 97 (by decide +kernel) (by decide +kernel)))
      exact ⟨cC, iS, fun q hq => by cases hq; exact h⟩
    | 4 =>
      obtain ⟨cC, iS, h⟩ := u_known (C := RX4) (T := TX4) (N := 6) (n := 6) hts qk_X4.2.2.2.2 (hts (.instantiable RX4 6) (q_wT1 69 (by decide +kernel) (by decide +kernel)))
      exact ⟨cC, iS, fun q hq => by cases hq; exact h⟩
    | 5 =>
      obtain ⟨cC, iS, h⟩ := u_known (C := RX5) (T := TX5) (N := 4) (n := 4) hts qk_X5.2.2.2.2 (hts (.instantiable RX5 4) (q_wT1 201 (by decide +kernel) (by decide +kernel)))
      exact ⟨cC, iS, fun q hq => by cases hq; exact h⟩
    | 6 =>
      obtain ⟨cC, iS, h⟩ := u_known (C := RX6) (T := TX6) (N := 5) (n := 5) hts qk_X6.2.2.2.2 (hts (.instantiable RX6 5) (q_wT1 176 (by decide +kernel) (by decide +kernel)))
      exact ⟨cC, iS, fun q hq => by cases hq; exact h⟩
    | 7 =>
      obtain ⟨cC, iS, h⟩ := u_known (C := RX7) (T := TX7) (N := 3) (n := 3) hts qk_X7.2.2.2.2 (hts (.instantiable RX7 3) (q_wT1 50 (by decide +kernel) (by decide +kernel)))
      exact ⟨cC, iS, fun q hq => by cases hq; exact h⟩
    | 8 =>
      obtain ⟨cC, iS, h⟩ := u_known (C := RX8) (T := TX8) (N := 13) (n := 13) hts qk_X8.2.2.2.2 (hts (.instantiable RX8 13) (q_wT1 15 (by decide +kernel) (by decide +kernel)))
      exact ⟨cC, iS, fun q hq => by cases hq; exact h⟩
    | 9 =>
      obtain ⟨cC, iS, h⟩ := u_known (C := RX9) (T := TX9) (N := 53) (n := 53) hts qk_X9.2.2.2.2 (hts (.instantiable RX9 53) (q_wT4 124 (by decide +kernel) (by decide +kernel)))
      exact ⟨cC, iS, fun q hq => by cases hq; exact h⟩
    | k + 10 => exact ⟨0, fun _ => 0, fun q hq => by simp [vwCl] at hq⟩
  exact ⟨(fun k => Classical.choose (K1 k), fun k => Classical.choose (Classical.choose_spec (K1 k))), fun k q hq => Classical.choose_spec (Classical.choose_spec (K1 k)) q hq⟩
theorem q_arrs {s : State} {args : Array Value} (hts : ∀ w ∈ lw_tbl, w.before args s = true) (t : FieldType) (hw : Cond.arrayClass t ∈ lw_tbl) (ht : ∀ n, t ≠ .object n) : ∃ c : ClassId, ArrOfT s c t ∧ va_RA s c t := by
  obtain ⟨c, k, comp, h1, h2, h3⟩ := Cond.arrayClass_spec (hts _ hw)
  refine ⟨c, fun n z => ⟨(fun k h => by cases h), k, h2, comp, h3⟩, ?_⟩
  cases t with
  | object n => exact absurd rfl (ht n)
  | _ => exact h1
theorem q_arrq {s : State} {args : Array Value} (h : (Cond.arrayOver (.object "RungByHeart$Shelf")).before args s = true) : ∃ c : ClassId, ArrOfT s c (.object "RungByHeart$Shelf") ∧ va_RA s c (.object "RungByHeart$Shelf") := by
  obtain ⟨comp, c, k, h1, h2, h3, h4, h5⟩ := Cond.arrayOver_spec h
  exact ⟨c, fun n z => ⟨(fun k h => by cases h), k, h3, comp, h4⟩, k, comp, h3, h4, h1, h5⟩
theorem q_tab0 {s : State} {args : Array Value} {A : Nat → Prop} (hs : ∀ c ∈ flatC (Jvm.Cond.and given_1 narrow_1), c.before args s = true) (hA : ∀ a : Nat, a < s.heap.size → ¬ A a) : ∃ t : Nat, (Term.static "RungByHeart" "MOST" "[I").eval args s none [] s = some (.ref t) ∧ va_T .int t 8 (fun i => .int (q_t0 i)) A s s.heap := by
  refine va_Tof (tm := (Term.static "RungByHeart" "MOST" "[I")) (by decide) (hs _ (by decide +kernel)) (va_eqt (z := 8) (hs _ (by decide +kernel))) (fun j hj => ?_) hA
  match j, hj with
  | 0, _ => exact va_eqt (z := 9) (hs (.eq (.elem (Term.static "RungByHeart" "MOST" "[I") (.int 0)) (.int 9)) (by decide +kernel))
  | 1, _ => exact va_eqt (z := 5) (hs (.eq (.elem (Term.static "RungByHeart" "MOST" "[I") (.int 1)) (.int 5)) (by decide +kernel))
  | 2, _ => exact va_eqt (z := 99) (hs (.eq (.elem (Term.static "RungByHeart" "MOST" "[I") (.int 2)) (.int 99)) (by decide +kernel))
  | 3, _ => exact va_eqt (z := 3) (hs (.eq (.elem (Term.static "RungByHeart" "MOST" "[I") (.int 3)) (.int 3)) (by decide +kernel))
  | 4, _ => exact va_eqt (z := 9) (hs (.eq (.elem (Term.static "RungByHeart" "MOST" "[I") (.int 4)) (.int 9)) (by decide +kernel))
  | 5, _ => exact va_eqt (z := 10) (hs (.eq (.elem (Term.static "RungByHeart" "MOST" "[I") (.int 5)) (.int 10)) (by decide +kernel))
  | 6, _ => exact va_eqt (z := 3) (hs (.eq (.elem (Term.static "RungByHeart" "MOST" "[I") (.int 6)) (.int 3)) (by decide +kernel))
  | 7, _ => exact va_eqt (z := 12) (hs (.eq (.elem (Term.static "RungByHeart" "MOST" "[I") (.int 7)) (.int 12)) (by decide +kernel))
  | j + 8, hj => exact absurd hj (by omega)
theorem q_tab1 {s : State} {args : Array Value} {A : Nat → Prop} (hs : ∀ c ∈ flatC (Jvm.Cond.and given_1 narrow_1), c.before args s = true) (hA : ∀ a : Nat, a < s.heap.size → ¬ A a) : ∃ t : Nat, (Term.static "RungByHeart$Strokes" "ABOVE" "[I").eval args s none [] s = some (.ref t) ∧ va_T .int t 8 (fun i => .int (q_t1 i)) A s s.heap := by
  refine va_Tof (tm := (Term.static "RungByHeart$Strokes" "ABOVE" "[I")) (by decide) (hs _ (by decide +kernel)) (va_eqt (z := 8) (hs _ (by decide +kernel))) (fun j hj => ?_) hA
  match j, hj with
  | 0, _ => exact va_eqt (z := (-1)) (hs (.eq (.elem (Term.static "RungByHeart$Strokes" "ABOVE" "[I") (.int 0)) (.int (-1))) (by decide +kernel))
  | 1, _ => exact va_eqt (z := 0) (hs (.eq (.elem (Term.static "RungByHeart$Strokes" "ABOVE" "[I") (.int 1)) (.int 0)) (by decide +kernel))
  | 2, _ => exact va_eqt (z := 0) (hs (.eq (.elem (Term.static "RungByHeart$Strokes" "ABOVE" "[I") (.int 2)) (.int 0)) (by decide +kernel))
  | 3, _ => exact va_eqt (z := 2) (hs (.eq (.elem (Term.static "RungByHeart$Strokes" "ABOVE" "[I") (.int 3)) (.int 2)) (by decide +kernel))
  | 4, _ => exact va_eqt (z := 1) (hs (.eq (.elem (Term.static "RungByHeart$Strokes" "ABOVE" "[I") (.int 4)) (.int 1)) (by decide +kernel))
  | 5, _ => exact va_eqt (z := 3) (hs (.eq (.elem (Term.static "RungByHeart$Strokes" "ABOVE" "[I") (.int 5)) (.int 3)) (by decide +kernel))
  | 6, _ => exact va_eqt (z := 0) (hs (.eq (.elem (Term.static "RungByHeart$Strokes" "ABOVE" "[I") (.int 6)) (.int 0)) (by decide +kernel))
  | 7, _ => exact va_eqt (z := 4) (hs (.eq (.elem (Term.static "RungByHeart$Strokes" "ABOVE" "[I") (.int 7)) (.int 4)) (by decide +kernel))
  | j + 8, hj => exact absurd hj (by omega)
theorem q_tab2 {s : State} {args : Array Value} {A : Nat → Prop} (hs : ∀ c ∈ flatC (Jvm.Cond.and given_1 narrow_1), c.before args s = true) (hA : ∀ a : Nat, a < s.heap.size → ¬ A a) : ∃ t : Nat, (Term.static "RungByHeart$Strokes" "OWN" "[I").eval args s none [] s = some (.ref t) ∧ va_T .int t 32 (fun i => .int (q_t2 i)) A s s.heap := by
  refine va_Tof (tm := (Term.static "RungByHeart$Strokes" "OWN" "[I")) (by decide) (hs _ (by decide +kernel)) (va_eqt (z := 32) (hs _ (by decide +kernel))) (fun j hj => ?_) hA
  match j, hj with
  | 0, _ => exact va_eqt (z := 1) (hs (.eq (.elem (Term.static "RungByHeart$Strokes" "OWN" "[I") (.int 0)) (.int 1)) (by decide +kernel))
  | 1, _ => exact va_eqt (z := 10) (hs (.eq (.elem (Term.static "RungByHeart$Strokes" "OWN" "[I") (.int 1)) (.int 10)) (by decide +kernel))
  | 2, _ => exact va_eqt (z := 11) (hs (.eq (.elem (Term.static "RungByHeart$Strokes" "OWN" "[I") (.int 2)) (.int 11)) (by decide +kernel))
  | 3, _ => exact va_eqt (z := 2) (hs (.eq (.elem (Term.static "RungByHeart$Strokes" "OWN" "[I") (.int 3)) (.int 2)) (by decide +kernel))
  | 4, _ => exact va_eqt (z := 20) (hs (.eq (.elem (Term.static "RungByHeart$Strokes" "OWN" "[I") (.int 4)) (.int 20)) (by decide +kernel))
  | 5, _ => exact va_eqt (z := 0) (hs (.eq (.elem (Term.static "RungByHeart$Strokes" "OWN" "[I") (.int 5)) (.int 0)) (by decide +kernel))
  | 6, _ => exact va_eqt (z := 0) (hs (.eq (.elem (Term.static "RungByHeart$Strokes" "OWN" "[I") (.int 6)) (.int 0)) (by decide +kernel))
  | 7, _ => exact va_eqt (z := 0) (hs (.eq (.elem (Term.static "RungByHeart$Strokes" "OWN" "[I") (.int 7)) (.int 0)) (by decide +kernel))
  | 8, _ => exact va_eqt (z := 0) (hs (.eq (.elem (Term.static "RungByHeart$Strokes" "OWN" "[I") (.int 8)) (.int 0)) (by decide +kernel))
  | 9, _ => exact va_eqt (z := 30) (hs (.eq (.elem (Term.static "RungByHeart$Strokes" "OWN" "[I") (.int 9)) (.int 30)) (by decide +kernel))
  | 10, _ => exact va_eqt (z := 0) (hs (.eq (.elem (Term.static "RungByHeart$Strokes" "OWN" "[I") (.int 10)) (.int 0)) (by decide +kernel))
  | 11, _ => exact va_eqt (z := 0) (hs (.eq (.elem (Term.static "RungByHeart$Strokes" "OWN" "[I") (.int 11)) (.int 0)) (by decide +kernel))
  | 12, _ => exact va_eqt (z := 0) (hs (.eq (.elem (Term.static "RungByHeart$Strokes" "OWN" "[I") (.int 12)) (.int 0)) (by decide +kernel))
  | 13, _ => exact va_eqt (z := 41) (hs (.eq (.elem (Term.static "RungByHeart$Strokes" "OWN" "[I") (.int 13)) (.int 41)) (by decide +kernel))
  | 14, _ => exact va_eqt (z := 40) (hs (.eq (.elem (Term.static "RungByHeart$Strokes" "OWN" "[I") (.int 14)) (.int 40)) (by decide +kernel))
  | 15, _ => exact va_eqt (z := 0) (hs (.eq (.elem (Term.static "RungByHeart$Strokes" "OWN" "[I") (.int 15)) (.int 0)) (by decide +kernel))
  | 16, _ => exact va_eqt (z := 0) (hs (.eq (.elem (Term.static "RungByHeart$Strokes" "OWN" "[I") (.int 16)) (.int 0)) (by decide +kernel))
  | 17, _ => exact va_eqt (z := 0) (hs (.eq (.elem (Term.static "RungByHeart$Strokes" "OWN" "[I") (.int 17)) (.int 0)) (by decide +kernel))
  | 18, _ => exact va_eqt (z := 50) (hs (.eq (.elem (Term.static "RungByHeart$Strokes" "OWN" "[I") (.int 18)) (.int 50)) (by decide +kernel))
  | 19, _ => exact va_eqt (z := 0) (hs (.eq (.elem (Term.static "RungByHeart$Strokes" "OWN" "[I") (.int 19)) (.int 0)) (by decide +kernel))
  | 20, _ => exact va_eqt (z := 0) (hs (.eq (.elem (Term.static "RungByHeart$Strokes" "OWN" "[I") (.int 20)) (.int 0)) (by decide +kernel))
  | 21, _ => exact va_eqt (z := 0) (hs (.eq (.elem (Term.static "RungByHeart$Strokes" "OWN" "[I") (.int 21)) (.int 0)) (by decide +kernel))
  | 22, _ => exact va_eqt (z := 0) (hs (.eq (.elem (Term.static "RungByHeart$Strokes" "OWN" "[I") (.int 22)) (.int 0)) (by decide +kernel))
  | 23, _ => exact va_eqt (z := 60) (hs (.eq (.elem (Term.static "RungByHeart$Strokes" "OWN" "[I") (.int 23)) (.int 60)) (by decide +kernel))
  | 24, _ => exact va_eqt (z := 70) (hs (.eq (.elem (Term.static "RungByHeart$Strokes" "OWN" "[I") (.int 24)) (.int 70)) (by decide +kernel))
  | 25, _ => exact va_eqt (z := 0) (hs (.eq (.elem (Term.static "RungByHeart$Strokes" "OWN" "[I") (.int 25)) (.int 0)) (by decide +kernel))
  | 26, _ => exact va_eqt (z := 0) (hs (.eq (.elem (Term.static "RungByHeart$Strokes" "OWN" "[I") (.int 26)) (.int 0)) (by decide +kernel))
  | 27, _ => exact va_eqt (z := 0) (hs (.eq (.elem (Term.static "RungByHeart$Strokes" "OWN" "[I") (.int 27)) (.int 0)) (by decide +kernel))
  | 28, _ => exact va_eqt (z := 0) (hs (.eq (.elem (Term.static "RungByHeart$Strokes" "OWN" "[I") (.int 28)) (.int 0)) (by decide +kernel))
  | 29, _ => exact va_eqt (z := 80) (hs (.eq (.elem (Term.static "RungByHeart$Strokes" "OWN" "[I") (.int 29)) (.int 80)) (by decide +kernel))
  | 30, _ => exact va_eqt (z := 0) (hs (.eq (.elem (Term.static "RungByHeart$Strokes" "OWN" "[I") (.int 30)) (.int 0)) (by decide +kernel))
  | 31, _ => exact va_eqt (z := 81) (hs (.eq (.elem (Term.static "RungByHeart$Strokes" "OWN" "[I") (.int 31)) (.int 81)) (by decide +kernel))
  | j + 32, hj => exact absurd hj (by omega)
theorem q_st {s : State} {args : Array Value} {b L : Nat} {xs : Nat → Int32} (hts : ∀ w ∈ lw_tbl, w.before args s = true) (hX : va_X b L xs s s.heap) (hbl : b < s.heap.size) (hgv : (Jvm.Cond.and given_1 narrow_1).before args s = true) : ∃ (D : va_G) (ty : QTy) (tb : Nat → Nat), tb 3 = b ∧ QSt D ty tb s.heap.size (qX L xs) s := by
  have hs := flat_of_before _ hgv
  have hA : ∀ a : Nat, a < s.heap.size → ¬ q_A s.heap.size a := fun a h => Nat.not_le.mpr h
  have htg : ∀ w ∈ q_GW, w.before args s = true := fun w hw => hts w (List.mem_filter.mp hw).1
  obtain ⟨D, hD⟩ := q_classes htg
  obtain ⟨cI, hI1, hI2⟩ := q_arrs hts .int (List.mem_append_right _ (q_m1_ (List.mem_of_getElem? (i := 48) (by decide +kernel)))) (fun n h => by cases h)
  obtain ⟨cJ, hJ1, hJ2⟩ := q_arrs hts .long (List.mem_append_right _ (q_m1_ (List.mem_of_getElem? (i := 223) (by decide +kernel)))) (fun n h => by cases h)
  obtain ⟨cZ, hZ1, hZ2⟩ := q_arrs hts .boolean (List.mem_append_right _ (q_m5_ (List.mem_of_getElem? (i := 49) (by decide +kernel)))) (fun n h => by cases h)
  have hO : (Cond.arrayOver (.object "RungByHeart$Shelf")).before args s = true := hts _ (List.mem_append_right _ (q_m1_ (List.mem_of_getElem? (i := 200) (by decide +kernel))))
  obtain ⟨cS, hS1, hS2⟩ := q_arrq hO
  obtain ⟨t0, e0, T0⟩ := q_tab0 (A := q_A s.heap.size) hs hA
  obtain ⟨t1, e1, T1⟩ := q_tab1 (A := q_A s.heap.size) hs hA
  obtain ⟨t2, e2, T2⟩ := q_tab2 (A := q_A s.heap.size) hs hA
  have T3 : va_T .int b L (fun i => .int (xs i)) (q_A s.heap.size) s s.heap := by
    obtain ⟨scr, h1, h2, h3, h4, h5⟩ := hX
    exact ⟨scr, h1, h2, h3, by omega, by rw [h4], h5, hA b hbl⟩
  refine ⟨D, (cI, cJ, cZ, cS), (fun j => match j with
    | 0 => t0
    | 1 => t1
    | 2 => t2
    | _ => b), rfl, ⟨hD, fun k q hk => ?_⟩, fun j hj => ?_, fun j hj => ?_, fun w hw => ?_, va_AO.of hO⟩
  · match k, hk with
    | 0, hk => cases hk; exact ⟨hI1, hI2⟩
    | 1, hk => cases hk; exact ⟨hJ1, hJ2⟩
    | 2, hk => cases hk; exact ⟨hZ1, hZ2⟩
    | 3, hk => cases hk; exact ⟨hS1, hS2⟩
    | k + 4, hk => simp [q_tys] at hk
  · match j, hj with
    | 0, _ => exact T0
    | 1, _ => exact T1
    | 2, _ => exact T2
    | 3, _ => exact T3
    | j + 4, hj => exact absurd hj (by omega)
  · match j, hj with
    | 0, _ => exact va_Zref (hts _ (List.mem_append_right _ (q_m2_ (List.mem_of_getElem? (i := 29) (by decide +kernel))))) (hts _ (List.mem_append_right _ (q_m1_ (List.mem_of_getElem? (i := 1) (by decide +kernel))))) e0 hA
    | 1, _ => exact va_Zref (hts _ (List.mem_append_right _ (q_m4_ (List.mem_of_getElem? (i := 44) (by decide +kernel))))) (hts _ (List.mem_append_right _ (q_m1_ (List.mem_of_getElem? (i := 8) (by decide +kernel))))) e1 hA
    | 2, _ => exact va_Zref (hts _ (List.mem_append_right _ (q_m4_ (List.mem_of_getElem? (i := 39) (by decide +kernel))))) (hts _ (List.mem_append_right _ (q_m1_ (List.mem_of_getElem? (i := 8) (by decide +kernel))))) e2 hA
    | j + 3, hj => exact absurd hj (by omega)
  · exact va_Nw.of (q_nest_tabs hw) (hts w (List.mem_filter.mp hw).1)
