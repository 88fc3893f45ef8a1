/-! Math.max and Math.min: their own class is not a plain one -/
def qi_mm (t : Nat) (f : Int32 → Int32 → Int32) : QE := fun _ _ _ _ nx _ L S M => match S with
  | .int y :: .int x :: S => cond (Nat.ble (q_cat S) 8) (nx t L (.int (f x y) :: S) M) none
  | _ => none
def q_mmax (own : String) (index : Nat) : Prop := Cond.methodLink own index Lib.Math.max.name ∈ q_GW ∧ Cond.static Lib.Math.max.name ∈ q_GW ∧ Cond.initialized "java/lang/Math" ∈ q_GW ∧ Cond.code Lib.Math.max.name Lib.Math.max.code 2 (some .int) ∈ q_GW
theorem qg_mmax {l : Launch} {P : QP} {own : String} {cc : ByteArray} {nL pc : Nat} {ret : Option FieldType} {index : Nat} (hw : q_mmax own index) (h : decode cc pc = .ok (.invokestatic index, 3)) : QGood l P own cc nL ret pc (qi_mm (pc + 3) (fun x y => if x < y then y else x)) := by
  intro p e s m args below meth c R D ty tb base X G C d cells slots Q cx hC hroom Rt nx rt L S M r he hn hr H locs ls hR hL
  obtain ⟨hx, hb, hml, hown, hts, hSt⟩ := cx
  obtain ⟨hr1, hr2, hr3, hr4, hr5⟩ := hroom
  unfold qi_mm at he
  split at he
  · rename_i y x S1
    obtain ⟨hcat, he⟩ := q_cond he
    have hcat := Nat.le_of_ble_eq_true hcat
    simp only [List.map_cons, q_rv]
    exact va_mmax hx hb (hml.trans hL.1.1.symm) hown (hts _ hw.1) (hts _ hw.2.1) (hts _ hw.2.2.1) (hts _ hw.2.2.2) (by omega) (by rw [q_cat_eq]; omega) hr3 hr4 h (hn _ _ _ _ he H locs ls hR hL)
  · cases he
def q_mmin (own : String) (index : Nat) : Prop := Cond.methodLink own index Lib.Math.min.name ∈ q_GW ∧ Cond.static Lib.Math.min.name ∈ q_GW ∧ Cond.initialized "java/lang/Math" ∈ q_GW ∧ Cond.code Lib.Math.min.name Lib.Math.min.code 2 (some .int) ∈ q_GW
theorem qg_mmin {l : Launch} {P : QP} {own : String} {cc : ByteArray} {nL pc : Nat} {ret : Option FieldType} {index : Nat} (hw : q_mmin own index) (h : decode cc pc = .ok (.invokestatic index, 3)) : QGood l P own cc nL ret pc (qi_mm (pc + 3) (fun x y => if y < x then y else x)) := by
  intro p e s m args below meth c R D ty tb base X G C d cells slots Q cx hC hroom Rt nx rt L S M r he hn hr H locs ls hR hL
  obtain ⟨hx, hb, hml, hown, hts, hSt⟩ := cx
  obtain ⟨hr1, hr2, hr3, hr4, hr5⟩ := hroom
  unfold qi_mm at he
  split at he
  · rename_i y x S1
    obtain ⟨hcat, he⟩ := q_cond he
    have hcat := Nat.le_of_ble_eq_true hcat
    simp only [List.map_cons, q_rv]
    exact va_mmin hx hb (hml.trans hL.1.1.symm) hown (hts _ hw.1) (hts _ hw.2.1) (hts _ hw.2.2.1) (hts _ hw.2.2.2) (by omega) (by rw [q_cat_eq]; omega) hr3 hr4 h (hn _ _ _ _ he H locs ls hR hL)
  · cases he
theorem qmm_RX5_29 : q_mmin RX5 29 := ⟨q_wT4 78 (by decide +kernel) (by decide +kernel), q_wT2 233 (by decide +kernel) (by decide +kernel), q_wT1 12 (by decide +kernel) (by decide +kernel), q_wT2 234 (by decide +kernel) (by decide +kernel)⟩
theorem qmm_RX5_35 : q_mmax RX5 35 := ⟨q_wT4 79 (by decide +kernel) (by decide +kernel), q_wT2 236 (by decide +kernel) (by decide +kernel), q_wT1 12 (by decide +kernel) (by decide +kernel), q_wT2 237 (by decide +kernel) (by decide +kernel)⟩
theorem qmm_RX7_32 : q_mmax RX7 32 := ⟨q_wT3 40 (by decide +kernel) (by decide +kernel), q_wT2 236 (by decide +kernel) (by decide +kernel), q_wT1 12 (by decide +kernel) (by decide +kernel), q_wT2 237 (by decide +kernel) (by decide +kernel)⟩
theorem qmm_RX8_349 : q_mmin RX8 349 := ⟨q_wT2 232 (by decide +kernel) (by decide +kernel), q_wT2 233 (by decide +kernel) (by decide +kernel), q_wT1 12 (by decide +kernel) (by decide +kernel), q_wT2 234 (by decide +kernel) (by decide +kernel)⟩
theorem qmm_RX8_354 : q_mmax RX8 354 := ⟨q_wT2 235 (by decide +kernel) (by decide +kernel), q_wT2 236 (by decide +kernel) (by decide +kernel), q_wT1 12 (by decide +kernel) (by decide +kernel), q_wT2 237 (by decide +kernel) (by decide +kernel)⟩
