/-! THE CALLS -/
/-- what a call of method k wants of the tables, n arguments beside the receiver -/
def QCal (P : QP) (k n : Nat) : Prop := Cond.code (P k).1 (P k).2.1 (P k).2.2.1 (P k).2.2.2 ∈ q_GW ∧ Cond.initialized (P k).1.cls ∈ q_GW ∧ ((P k).1.cls ≠ "java/lang/invoke/MethodHandle" ∧ (P k).1.cls ≠ "java/lang/invoke/VarHandle") ∧ (parseMethodDescriptor (P k).1.desc).map (fun d => d.parameters.length) = some n ∧ (P k).2.2.1 ≤ 21
def QVir (P : QP) (own : String) (index k : Nat) : Prop := Cond.methodLink own index (P k).1 ∈ q_GW ∧ Cond.instanceMethod (P k).1 ∈ q_GW ∧ Cond.selects (P k).1.cls (P k).1 (P k).1 ∈ q_GW
def QSta (P : QP) (own : String) (index k : Nat) : Prop := Cond.methodLink own index (P k).1 ∈ q_GW ∧ Cond.static (P k).1 ∈ q_GW
theorem q_GW_good {w : Cond} (h : w ∈ q_GW) : w ∈ q_GW ∧ ((w.onTables && w.keeps) = true ∨ ∃ ty, w = .arrayClass ty) := ⟨h, good_of_word (List.mem_filter.mp h).2⟩
theorem q_ws_good {P : QP} {k : Nat} (h : Cond.code (P k).1 (P k).2.1 (P k).2.2.1 (P k).2.2.2 ∈ q_GW) : GoodIn q_GW (q_ws P k) := by
  intro w hw
  rcases List.mem_cons.mp hw with rfl | hw
  · exact q_GW_good h
  · exact q_GW_good hw
section QCALL
variable {l : Launch} {P : QP} {own : String} {cc : ByteArray} {nL pc : Nat} {ret : Option FieldType} {p : Program} {e : Env} {s : State} {m : MethodId} {args : Array Value} {below : List Frame} {meth : Method} {c : Code} {R : Room} {D : va_G} {ty : QTy} {tb : Nat → Nat} {base : Nat} {X : QX} {G : QG} {C : QC} {d cells slots : Nat} {Q : State → Prop} {H : Heap} {locs : List Loc} {ls : Array Slot}
theorem q_wld {M : QM} {U : State} (hSt : QSt D ty tb base X s) (hroom : s.heap.size + cells = base + G.length ∧ base ≤ s.heap.size) (hR : QRel D ty tb base G M s.heap H locs) (hsz : H.size ≤ s.heap.size + cells) (hU : U.heap = H) (hW : s.WarmedH U.vm) : QWld D ty tb base X G M U := by
  refine ⟨hSt.call hR.2 hU hW, by rw [hU]; exact hR.1, ?_⟩
  have h1 := q_lb hR.1 (Nat.le_trans hroom.2 hR.2.1)
  rw [hU]
  omega
theorem q_runV {index k n ci N : Nat} {CN : String} {T : u_T} {rest : List Value} {M M' : QM} {v : Option Value} {a : Nat} {as : List Value} {q : QCell}
    (hcal : QCal P k n) (hvir : QVir P own index k) (hci : vwCl[ci]? = some (CN, T, N)) (hCN : (P k).1.cls = CN) (hlt : ci < 10) (h : decode cc pc = .ok (.invokevirtual index, 3))
    (cx : QCx D ty tb base X p s m args c own cc nL) (hC : QCok l P D ty tb base X G C d) (hroom : d + 1 ≤ R.frames ∧ 40 * (d + 1) ≤ R.locals ∧ cells ≤ R.cells ∧ slots ≤ R.slots ∧ s.heap.size + cells = base + G.length ∧ base ≤ s.heap.size)
    (hr : C k (.ref a :: as) M = some (v, M')) (hn : as.length = n) (hq : q_cell G X a = some q) (hkd : (q.1 == ci) = true) (hcat : q_cat rest ≤ 8)
    (hR : QRel D ty tb base G M s.heap H locs) (hL : lv_has ls nL [])
    (kk : ∀ (H1 : Heap) (locs1 : List Loc), QRel D ty tb base G M' s.heap H1 locs1 → W p l e R s m args below meth c H1 locs1 cells slots Q (F0 m (pc + 3) ls ((v.map (q_rv tb base)).toList ++ rest.map (q_rv tb base)))) :
    W p l e R s m args below meth c H locs cells slots Q (F0 m pc ls ((((.ref a :: as).reverse ++ rest)).map (q_rv tb base))) := by
  obtain ⟨hx, hb, hml, hown, hts, hSt⟩ := cx
  obtain ⟨hr1, hr2, hr3, hr4, hr5⟩ := hroom
  obtain ⟨k1, k2, k3, k4, k5⟩ := hcal
  obtain ⟨i, rfl, hG, hkd⟩ := q_objAt hq hkd hlt
  refine q_size (fun hsz => ?_)
  have hat := q_W_get (ty := ty) (tb := tb) (base := base) (M := M) hG
  rw [q_ent_obj hkd hlt] at hat
  have hGI : GoodIn q_GW (wsV own index (P k).1.cls (P k).1 (q_ws P k)) := by
    intro w hw
    rcases List.mem_append.mp hw with h1 | h1
    · refine q_GW_good ?_
      simp only [List.mem_cons, List.not_mem_nil, or_false] at h1
      rcases h1 with rfl | rfl | rfl | rfl
      · exact hvir.1
      · exact hvir.2.1
      · exact hvir.2.2
      · exact k2
    · exact q_ws_good k1 w h1
  have cw : CallW R s args own (P k).1.cls index (P k).1 (P k).2.1 (P k).2.2.1 (P k).2.2.2 (q_ws P k) (q_rm d 0 0) 0 0 n :=
    cwV n hts hGI rfl rfl rfl ⟨rfl, k3.1, k3.2, k4⟩ ⟨by show d + 1 ≤ _; omega, by show 8 + ((P k).2.2.1 + 11) + 40 * d ≤ _; omega⟩
  have hp : PreV s H (P k).1.cls (base + i) (va_Pc ((.ref (i + 4) :: as).map (q_rv tb base)) (QWld D ty tb base X G M)) (as.map (q_rv tb base)) := by
    refine ⟨q_blind _, ?_, fun U hU hW => ⟨?_, q_wld hSt hr5 hR hsz hU hW⟩⟩
    · rw [hCN]
      exact va_recv hSt.1 hR.1 hci hat
    · simp [q_rv, q_rho_hi]
  have run := va_runV (rest := rest.map (q_rv tb base)) (g := F0 m pc ls ((((.ref (i + 4) :: as).reverse ++ rest)).map (q_rv tb base))) (locs := locs) (e := e) (below := below) (meth := meth) (cells := cells) (slots := slots) ⟨hx, hb, hml, hown, hts⟩ (hC k _ M v M' hr) cw hp rfl (by simpa using hn) hL.1 (by simp [q_rv, q_rho_hi]) (lv_room (by rw [q_cat_eq]; exact hcat)) h ⟨by omega, by omega⟩
  exact q_after run hR.2 kk
theorem q_runS {index k n : Nat} {rest : List Value} {M M' : QM} {v : Option Value} {as : List Value}
    (hcal : QCal P k n) (hsta : QSta P own index k) (h : decode cc pc = .ok (.invokestatic index, 3))
    (cx : QCx D ty tb base X p s m args c own cc nL) (hC : QCok l P D ty tb base X G C d) (hroom : d + 1 ≤ R.frames ∧ 40 * (d + 1) ≤ R.locals ∧ cells ≤ R.cells ∧ slots ≤ R.slots ∧ s.heap.size + cells = base + G.length ∧ base ≤ s.heap.size)
    (hr : C k as M = some (v, M')) (hn : as.length = n) (hcat : q_cat rest ≤ 8)
    (hR : QRel D ty tb base G M s.heap H locs) (hL : lv_has ls nL [])
    (kk : ∀ (H1 : Heap) (locs1 : List Loc), QRel D ty tb base G M' s.heap H1 locs1 → W p l e R s m args below meth c H1 locs1 cells slots Q (F0 m (pc + 3) ls ((v.map (q_rv tb base)).toList ++ rest.map (q_rv tb base)))) :
    W p l e R s m args below meth c H locs cells slots Q (F0 m pc ls (((as.reverse ++ rest)).map (q_rv tb base))) := by
  obtain ⟨hx, hb, hml, hown, hts, hSt⟩ := cx
  obtain ⟨hr1, hr2, hr3, hr4, hr5⟩ := hroom
  obtain ⟨k1, k2, k3, k4, k5⟩ := hcal
  refine q_size (fun hsz => ?_)
  have hGI : GoodIn q_GW (va_wsS own index (P k).1 (q_ws P k)) := by
    intro w hw
    rcases List.mem_append.mp hw with h1 | h1
    · refine q_GW_good ?_
      simp only [List.mem_cons, List.not_mem_nil, or_false] at h1
      rcases h1 with rfl | rfl | rfl
      · exact hsta.1
      · exact hsta.2
      · exact k2
    · exact q_ws_good k1 w h1
  have cw : CallB R s args own index (P k).1 (P k).2.1 (P k).2.2.1 (P k).2.2.2 (q_ws P k) (q_rm d 0 0) 0 0 n ∧ (Cond.static (P k).1).before args s = true :=
    va_cwS n hts hGI rfl rfl rfl ⟨k3.1, k3.2, k4⟩ ⟨by show d + 1 ≤ _; omega, by show 8 + ((P k).2.2.1 + 11) + 40 * d ≤ _; omega⟩
  have hp : PreS s H (va_Pc (as.map (q_rv tb base)) (QWld D ty tb base X G M)) (as.map (q_rv tb base)) :=
    ⟨q_blind _, fun U hU hW => ⟨rfl, q_wld hSt hr5 hR hsz hU hW⟩⟩
  have run := va_runS (rest := rest.map (q_rv tb base)) (g := F0 m pc ls (((as.reverse ++ rest)).map (q_rv tb base))) (locs := locs) (e := e) (below := below) (meth := meth) (cells := cells) (slots := slots) ⟨hx, hb, hml, hown, hts⟩ (hC k _ M v M' hr) cw hp rfl (by simpa using hn) hL.1 (by simp) (lv_room (by rw [q_cat_eq]; exact hcat)) h ⟨by omega, by omega⟩
  exact q_after run hR.2 kk
end QCALL
theorem q_bv_of {Rt : Type} {x : Option (Option Value × QM)} {f : QM → Option Rt} {r : Rt} (h : q_bv x f = some r) : ∃ M, x = some (none, M) ∧ f M = some r := by
  unfold q_bv at h
  split at h
  · exact ⟨_, rfl, h⟩
  · cases h
theorem q_bi_of {Rt : Type} {x : Option (Option Value × QM)} {f : Int32 → QM → Option Rt} {r : Rt} (h : q_bi x f = some r) : ∃ v M, x = some (some (.int v), M) ∧ f v M = some r := by
  unfold q_bi at h
  split at h
  · exact ⟨_, _, rfl, h⟩
  · cases h
theorem q_bl_of {Rt : Type} {x : Option (Option Value × QM)} {f : Int64 → QM → Option Rt} {r : Rt} (h : q_bl x f = some r) : ∃ v M, x = some (some (.long v), M) ∧ f v M = some r := by
  unfold q_bl at h
  split at h
  · exact ⟨_, _, rfl, h⟩
  · cases h
theorem q_br_of {Rt : Type} {x : Option (Option Value × QM)} {f : Nat → QM → Option Rt} {g : QM → Option Rt} {r : Rt} (h : q_br x f g = some r) : (∃ v M, x = some (some (.ref v), M) ∧ f v M = some r) ∨ ∃ M, x = some (some .null, M) ∧ g M = some r := by
  unfold q_br at h
  split at h
  · exact Or.inl ⟨_, _, rfl, h⟩
  · exact Or.inr ⟨_, rfl, h⟩
  · cases h
theorem q_rc_none {β : Type} {G : QG} {X : QX} {as : List Value} {o : Option β} : q_rc G X none as o = o := rfl
theorem q_rc_of {β : Type} {G : QG} {X : QX} {ci : Nat} {as : List Value} {o : Option β} {r : β} (h : q_rc G X (some ci) as o = some r) : ∃ (a : Nat) (as' : List Value) (q : QCell), as = .ref a :: as' ∧ q_cell G X a = some q ∧ (q.1 == ci) = true ∧ o = some r := by
  unfold q_rc at h
  dsimp only at h
  split at h
  · rename_i a as'
    split at h
    · rename_i kd nn rs hq
      obtain ⟨h1, h2⟩ := q_cond h
      exact ⟨a, as', _, rfl, hq, h1, h2⟩
    · cases h
  · cases h
theorem qg_virv {l : Launch} {P : QP} {own : String} {cc : ByteArray} {nL pc : Nat} {ret : Option FieldType} {index k n ci N : Nat} {CN : String} {T : u_T} (hcal : QCal P k n) (hvir : QVir P own index k) (hci : vwCl[ci]? = some (CN, T, N)) (hCN : (P k).1.cls = CN) (hlt : ci < 10) (h : decode cc pc = .ok (.invokevirtual index, 3)) : QGood l P own cc nL ret pc (qi_callv (pc + 3) k (n + 1) (some ci)) := by
  intro p e s m args below meth c R D ty tb base X G C d cells slots Q cx hC hroom Rt nx rt L S M r he hn hr H locs ls hR hL
  unfold qi_callv at he
  obtain ⟨as, rest, h1, rfl, he2⟩ := q_pop_of _ _ _ _ _ he
  clear he
  simp only [List.append_nil] at he2
  obtain ⟨hcat, he⟩ := q_cond he2
  obtain ⟨a, as', q, rfl, hq, hkd, he⟩ := q_rc_of he
  obtain ⟨M', hc, he⟩ := q_bv_of he
  exact q_runV hcal hvir hci hCN hlt h cx hC hroom hc (by simpa using h1) hq hkd (Nat.le_of_ble_eq_true hcat) hR hL.1 (fun H1 locs1 hR1 => hn _ _ _ _ he H1 locs1 ls hR1 hL)
theorem qg_stav {l : Launch} {P : QP} {own : String} {cc : ByteArray} {nL pc : Nat} {ret : Option FieldType} {index k n : Nat} (hcal : QCal P k n) (hsta : QSta P own index k) (h : decode cc pc = .ok (.invokestatic index, 3)) : QGood l P own cc nL ret pc (qi_callv (pc + 3) k n none) := by
  intro p e s m args below meth c R D ty tb base X G C d cells slots Q cx hC hroom Rt nx rt L S M r he hn hr H locs ls hR hL
  unfold qi_callv at he
  obtain ⟨as, rest, h1, rfl, he2⟩ := q_pop_of _ _ _ _ _ he
  clear he
  simp only [List.append_nil] at he2
  obtain ⟨hcat, he⟩ := q_cond he2
  rw [q_rc_none] at he
  obtain ⟨M', hc, he⟩ := q_bv_of he
  exact q_runS hcal hsta h cx hC hroom hc h1 (Nat.le_of_ble_eq_true hcat) hR hL.1 (fun H1 locs1 hR1 => hn _ _ _ _ he H1 locs1 ls hR1 hL)
theorem qg_viri {l : Launch} {P : QP} {own : String} {cc : ByteArray} {nL pc : Nat} {ret : Option FieldType} {index k n ci N : Nat} {CN : String} {T : u_T} (hcal : QCal P k n) (hvir : QVir P own index k) (hci : vwCl[ci]? = some (CN, T, N)) (hCN : (P k).1.cls = CN) (hlt : ci < 10) (h : decode cc pc = .ok (.invokevirtual index, 3)) : QGood l P own cc nL ret pc (qi_calli (pc + 3) k (n + 1) (some ci)) := by
  intro p e s m args below meth c R D ty tb base X G C d cells slots Q cx hC hroom Rt nx rt L S M r he hn hr H locs ls hR hL
  unfold qi_calli at he
  obtain ⟨as, rest, h1, rfl, he2⟩ := q_pop_of _ _ _ _ _ he
  clear he
  simp only [List.append_nil] at he2
  obtain ⟨hcat, he⟩ := q_cond he2
  obtain ⟨a, as', q, rfl, hq, hkd, he⟩ := q_rc_of he
  obtain ⟨v, M', hc, he⟩ := q_bi_of he
  exact q_runV hcal hvir hci hCN hlt h cx hC hroom hc (by simpa using h1) hq hkd (Nat.le_of_ble_eq_true hcat) hR hL.1 (fun H1 locs1 hR1 => hn _ _ _ _ he H1 locs1 ls hR1 hL)
theorem qg_stai {l : Launch} {P : QP} {own : String} {cc : ByteArray} {nL pc : Nat} {ret : Option FieldType} {index k n : Nat} (hcal : QCal P k n) (hsta : QSta P own index k) (h : decode cc pc = .ok (.invokestatic index, 3)) : QGood l P own cc nL ret pc (qi_calli (pc + 3) k n none) := by
  intro p e s m args below meth c R D ty tb base X G C d cells slots Q cx hC hroom Rt nx rt L S M r he hn hr H locs ls hR hL
  unfold qi_calli at he
  obtain ⟨as, rest, h1, rfl, he2⟩ := q_pop_of _ _ _ _ _ he
  clear he
  simp only [List.append_nil] at he2
  obtain ⟨hcat, he⟩ := q_cond he2
  rw [q_rc_none] at he
  obtain ⟨v, M', hc, he⟩ := q_bi_of he
  exact q_runS hcal hsta h cx hC hroom hc h1 (Nat.le_of_ble_eq_true hcat) hR hL.1 (fun H1 locs1 hR1 => hn _ _ _ _ he H1 locs1 ls hR1 hL)
theorem qg_virl {l : Launch} {P : QP} {own : String} {cc : ByteArray} {nL pc : Nat} {ret : Option FieldType} {index k n ci N : Nat} {CN : String} {T : u_T} (hcal : QCal P k n) (hvir : QVir P own index k) (hci : vwCl[ci]? = some (CN, T, N)) (hCN : (P k).1.cls = CN) (hlt : ci < 10) (h : decode cc pc = .ok (.invokevirtual index, 3)) : QGood l P own cc nL ret pc (qi_calll (pc + 3) k (n + 1) (some ci)) := by
  intro p e s m args below meth c R D ty tb base X G C d cells slots Q cx hC hroom Rt nx rt L S M r he hn hr H locs ls hR hL
  unfold qi_calll at he
  obtain ⟨as, rest, h1, rfl, he2⟩ := q_pop_of _ _ _ _ _ he
  clear he
  simp only [List.append_nil] at he2
  obtain ⟨hcat, he⟩ := q_cond he2
  obtain ⟨a, as', q, rfl, hq, hkd, he⟩ := q_rc_of he
  obtain ⟨v, M', hc, he⟩ := q_bl_of he
  exact q_runV hcal hvir hci hCN hlt h cx hC hroom hc (by simpa using h1) hq hkd (Nat.le_of_ble_eq_true hcat) hR hL.1 (fun H1 locs1 hR1 => hn _ _ _ _ he H1 locs1 ls hR1 hL)
theorem qg_stal {l : Launch} {P : QP} {own : String} {cc : ByteArray} {nL pc : Nat} {ret : Option FieldType} {index k n : Nat} (hcal : QCal P k n) (hsta : QSta P own index k) (h : decode cc pc = .ok (.invokestatic index, 3)) : QGood l P own cc nL ret pc (qi_calll (pc + 3) k n none) := by
  intro p e s m args below meth c R D ty tb base X G C d cells slots Q cx hC hroom Rt nx rt L S M r he hn hr H locs ls hR hL
  unfold qi_calll at he
  obtain ⟨as, rest, h1, rfl, he2⟩ := q_pop_of _ _ _ _ _ he
  clear he
  simp only [List.append_nil] at he2
  obtain ⟨hcat, he⟩ := q_cond he2
  rw [q_rc_none] at he
  obtain ⟨v, M', hc, he⟩ := q_bl_of he
  exact q_runS hcal hsta h cx hC hroom hc h1 (Nat.le_of_ble_eq_true hcat) hR hL.1 (fun H1 locs1 hR1 => hn _ _ _ _ he H1 locs1 ls hR1 hL)
theorem qg_virr {l : Launch} {P : QP} {own : String} {cc : ByteArray} {nL pc : Nat} {ret : Option FieldType} {index k n ci N : Nat} {CN : String} {T : u_T} (hcal : QCal P k n) (hvir : QVir P own index k) (hci : vwCl[ci]? = some (CN, T, N)) (hCN : (P k).1.cls = CN) (hlt : ci < 10) (h : decode cc pc = .ok (.invokevirtual index, 3)) : QGood l P own cc nL ret pc (qi_callr (pc + 3) k (n + 1) (some ci)) := by
  intro p e s m args below meth c R D ty tb base X G C d cells slots Q cx hC hroom Rt nx rt L S M r he hn hr H locs ls hR hL
  unfold qi_callr at he
  obtain ⟨as, rest, h1, rfl, he2⟩ := q_pop_of _ _ _ _ _ he
  clear he
  simp only [List.append_nil] at he2
  obtain ⟨hcat, he⟩ := q_cond he2
  obtain ⟨a, as', q, rfl, hq, hkd, he⟩ := q_rc_of he
  rcases q_br_of he with ⟨v, M', hc, he⟩ | ⟨M', hc, he⟩
  · exact q_runV hcal hvir hci hCN hlt h cx hC hroom hc (by simpa using h1) hq hkd (Nat.le_of_ble_eq_true hcat) hR hL.1 (fun H1 locs1 hR1 => hn _ _ _ _ he H1 locs1 ls hR1 hL)
  · exact q_runV hcal hvir hci hCN hlt h cx hC hroom hc (by simpa using h1) hq hkd (Nat.le_of_ble_eq_true hcat) hR hL.1 (fun H1 locs1 hR1 => hn _ _ _ _ he H1 locs1 ls hR1 hL)
theorem qg_objInit {l : Launch} {P : QP} {own : String} {cc : ByteArray} {nL pc : Nat} {ret : Option FieldType} {index : Nat} (h1 : Cond.methodLink own index Lib.objectInit ∈ q_GW) (h2 : Cond.instanceMethod Lib.objectInit ∈ q_GW) (h3 : Cond.code Lib.objectInit ⟨#[0xb1]⟩ 1 none ∈ q_GW) (h : decode cc pc = .ok (.invokespecial index, 3)) : QGood l P own cc nL ret pc (qi_objInit (pc + 3)) := by
  intro p e s m args below meth c R D ty tb base X G C d cells slots Q cx hC hroom Rt nx rt L S M r he hn hr H locs ls hR hL
  obtain ⟨hx, hb, hml, hown, hts, hSt⟩ := cx
  obtain ⟨hr1, hr2, hr3, hr4, hr5⟩ := hroom
  unfold qi_objInit at he
  split at he
  · rename_i a S1
    obtain ⟨hcat, he⟩ := q_cond he
    have hcat := Nat.le_of_ble_eq_true hcat
    refine W.objInit hx hb hown (hts _ h1) (hts _ h2) (hts _ h3) rfl (hL.1.1.trans hml.symm) (rest := S1.map (q_rv tb base)) rfl h (by omega) ?_ ?_
    · rw [q_cat_eq]
      show 2 * 0 + q_cat S1 + 12 ≤ _
      omega
    · exact hn _ _ _ _ he H locs ls hR hL
  · cases he
