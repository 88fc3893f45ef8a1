/-! CONSTRUCTOR CALLS, and every run of the making machine is a run of the real one -/
def QIni (P : QP) (own : String) (index k : Nat) : Prop := (Cond.methodLink own index (P k).1 ∈ q_GW ∨ ∃ host, Cond.methodLinkNest own index (P k).1 host ∈ q_NW) ∧ Cond.instanceMethod (P k).1 ∈ q_GW ∧ (P k).1.name = "<init>" ∧ (P k).2.2.2 = none
theorem qg_init {l : Launch} {P : QP} {B : Nat → Nat × Nat} {own : String} {cc : ByteArray} {nL pc index k n ci : Nat} (hcal : QCal P k n) (hini : QIni P own index k) (hlt : ci < 10) (h : decode cc pc = .ok (.invokespecial index, 3)) : QGoodG l P B own cc nL pc (qa_call B (pc + 3) k n ci) := by
  intro p e s m args below meth c R D ty tb base X CG d lc lsl s0 Q cx hCG hroom hin Rt nx L S G M r he hn cells slots hz1 hz2 hz3 hz4 H locs ls hR hL
  obtain ⟨hx, hb, hml, hown, hts, hSt⟩ := cx
  obtain ⟨r1, r2, r3, r4, r5⟩ := hroom
  obtain ⟨k1, k2, k3, k4, k5⟩ := hcal
  obtain ⟨i1, i2, i3, i4⟩ := hini
  unfold qa_call at he
  obtain ⟨as, rest, h1, rfl, he2⟩ := q_pop_of _ _ _ _ _ he
  clear he
  simp only [List.append_nil] at he2
  obtain ⟨hl, he3⟩ := q_cond he2
  obtain ⟨hcat, hl⟩ := q_and hl
  obtain ⟨hl1, hl2⟩ := q_and hl
  have hcat := Nat.le_of_ble_eq_true hcat
  have hl1 := Nat.le_of_ble_eq_true hl1
  have hl2 := Nat.le_of_ble_eq_true hl2
  obtain ⟨a, as', q, rfl, hq, hkd, he4⟩ := q_rc_of he3
  clear he2 he3
  split at he4
  · rename_i G' M' hcall
    obtain ⟨hM, g1, g2⟩ := hCG k _ G M none G' M' hcall
    obtain ⟨i, rfl, hG, hkd2⟩ := q_objAt hq hkd hlt
    refine q_size (fun hsz => ?_)
    have hGI : GoodIn q_GW (q_ws P k) := q_ws_good k1
    have hp : PreS s H (va_Pc ((.ref (i + 4) :: as').map (q_rv tb base)) (QWld D ty tb base X G M)) (.ref (base + i) :: as'.map (q_rv tb base)) :=
      ⟨q_blind _, fun U hU hW => ⟨by simp [q_rv, q_rho_hi], q_wld hSt ⟨hz1, r5⟩ hR hsz hU hW⟩⟩
    have hws : q_ws P k = Cond.code (P k).1 (P k).2.1 (P k).2.2.1 none :: q_GW := by unfold q_ws; rw [i4]
    have kk : ∀ (H1 : Heap) (locs1 : List Loc), QRel D ty tb base G' M' s.heap H1 locs1 → W p l e R s m args below meth c H1 locs1 (cells + (B k).1) (slots + (B k).2) Q (F0 m (pc + 3) ls (((none : Option Value).map (q_rv tb base)).toList ++ rest.map (q_rv tb base))) :=
      fun H1 locs1 hR1 => hn _ _ _ _ _ he4 (cells + (B k).1) (slots + (B k).2) (by rw [g1]; omega) (by rw [g2]; omega) (by rw [g1]; exact hl1) (by rw [g2]; exact hl2) H1 locs1 ls hR1 hL
    rcases i1 with i1 | ⟨host, i1⟩
    · have cw := cwI (R := R) (args := args) (s := s) (own := own) (index := index) (y := (P k).1) (bytes := (P k).2.1) (maxL := (P k).2.2.1) (ws := q_ws P k) (rm := q_rm d (B k).1 (B k).2) (mc := (B k).1) (ms := (B k).2) n hts hGI hws rfl rfl (hts _ k2) (hts _ i1) (hts _ i2) i3 ⟨k3.1, k3.2, k4⟩ ⟨by show d + 1 ≤ _; omega, by show 8 + ((P k).2.2.1 + 11) + 40 * d ≤ _; omega⟩
      have run := va_runI (rest := rest.map (q_rv tb base)) (g := F0 m pc ls ((((.ref (i + 4) :: as').reverse ++ rest)).map (q_rv tb base))) (locs := locs) (e := e) (below := below) (meth := meth) (cells := cells) (slots := slots) ⟨hx, hb, hml, hown, hts⟩ hM cw hp rfl (by simpa using h1) hL.1.1 (by simp [q_rv, q_rho_hi]) (lv_room (by rw [q_cat_eq]; exact hcat)) h ⟨by omega, by omega⟩
      exact q_after run hR.2 kk
    · have cw := va_cnB (R := R) (args := args) (s := s) (own := own) (host := host) (index := index) (y := (P k).1) (bytes := (P k).2.1) (maxL := (P k).2.2.1) (ret := none) (ws := q_ws P k) (rm := q_rm d (B k).1 (B k).2) (mc := (B k).1) (ms := (B k).2) n hts hGI hws rfl rfl (hSt.2.2.2.1 _ i1) (hts _ k2) ⟨k3.1, k3.2, k4⟩ ⟨by show d + 1 ≤ _; omega, by show 8 + ((P k).2.2.1 + 11) + 40 * d ≤ _; omega⟩
      have run := va_runIN (rest := rest.map (q_rv tb base)) (g := F0 m pc ls ((((.ref (i + 4) :: as').reverse ++ rest)).map (q_rv tb base))) (locs := locs) (e := e) (below := below) (meth := meth) (cells := cells) (slots := slots) ⟨hx, hb, hml, hown, hts⟩ hM ⟨cw, i3, hts _ i2⟩ hp rfl (by simpa using h1) hL.1.1 (by simp [q_rv, q_rho_hi]) (lv_room (by rw [q_cat_eq]; exact hcat)) h ⟨by omega, by omega⟩
      exact q_after run hR.2 kk
  · cases he4
section QGSIM
variable {p : Program} {l : Launch} {e : Env} {R : Room} {s : State} {m : MethodId} {args : Array Value} {below : List Frame} {meth : Method} {c : Code} {D : va_G} {ty : QTy} {tb : Nat → Nat} {base nL : Nat} {Q : State → Prop} {X : QX} {d : Nat} {P : QP} {own : String} {cc : ByteArray} {ret : Option FieldType} {cd : Nat → Nat → Option QE} {ct : Nat → Nat → Option (List Bool)} {CG : QGC} {B : Nat → Nat × Nat} {lc lsl s0 : Nat} {cg1 : Nat → Option QEG} {cd1 : Nat → Option QE} {ct1 : Nat → Option (List Bool)}
theorem q_gin_sim {Rt : Type} {K : Nat → QL → List Value → QG → QM → Option Rt} {rt : Option Value → QG → QM → Option Rt} {r : Rt} (hP : QProg l P cd) (hg : ∀ pc E, cd1 pc = some E → QGood l P own cc nL ret pc E) (hgg : ∀ pc E, cg1 pc = some E → (meth.name = "<init>" ∨ own = "RungByHeartLaw") ∧ QGoodG l P B own cc nL pc E)
    (cx : QCx D ty tb base X p s m args c own cc nL) (hCG : QGok l P B D ty tb base X CG d) (hroom : d + 1 ≤ R.frames ∧ 40 * (d + 1) ≤ R.locals ∧ base + lc ≤ s.heap.size + R.cells ∧ lsl ≤ s0 + R.slots ∧ base ≤ s.heap.size)
    (hK : ∀ pc L S G M, K pc L S G M = some r → QWG p l e R s m args below meth c D ty tb base nL lc lsl s0 Q pc L S G M)
    (hr : ∀ v G M, rt v G M = some r → QRG p l e R s m args below meth c D ty tb base s0 Q cc ret v G M) :
    ∀ (f pc : Nat) (L : QL) (S : List Value) (G : QG) (M : QM), q_gin P cd ct X d CG lc lsl cg1 cd1 ct1 K rt f pc L S G M = some r → QWG p l e R s m args below meth c D ty tb base nL lc lsl s0 Q pc L S G M := by
  intro f
  induction f with
  | zero => intro pc L S G M h; cases h
  | succ f ih =>
    intro pc L S G M h
    unfold q_gin at h
    split at h
    · rename_i E hE
      refine (hgg pc E hE).2 p e s m args below meth c R D ty tb base X CG d lc lsl s0 Q cx hCG hroom (hgg pc E hE).1 _ _ L S G M r h ?_
      intro pc' L' S' G' M' h'
      split at h'
      · exact ih pc' L' S' G' M' h'
      · intro cells slots z1 z2 z3 z4 H locs ls hR hL
        exact hK _ _ _ _ _ h' cells slots z1 z2 z3 z4 H locs ls hR (hL.mask _)
    · split at h
      · cases h
      · rename_i E hE
        intro cells slots z1 z2 z3 z4
        obtain ⟨r1, r2, r3, r4, r5⟩ := hroom
        refine hg pc E hE p e s m args below meth c R D ty tb base X G (q_call P cd ct G X d) d cells slots Q cx (q_sim hP d) ⟨r1, r2, by omega, by omega, z1, r5⟩ _ _ _ L S M r h ?_ ?_
        · intro pc' L' S' M' h'
          split at h'
          · exact ih pc' L' S' G M' h' cells slots z1 z2 z3 z4
          · intro H locs ls hR hL
            exact hK _ _ _ _ _ h' cells slots z1 z2 z3 z4 H locs ls hR (hL.mask _)
        · intro v M' h'
          exact hr v G M' h' cells slots z1 z2
theorem q_gout_sim {r : Option Value × QG × QM} (hP : QProg l P cd) (hg : ∀ pc E, cd1 pc = some E → QGood l P own cc nL ret pc E) (hgg : ∀ pc E, cg1 pc = some E → (meth.name = "<init>" ∨ own = "RungByHeartLaw") ∧ QGoodG l P B own cc nL pc E)
    (cx : QCx D ty tb base X p s m args c own cc nL) (hCG : QGok l P B D ty tb base X CG d) (hroom : d + 1 ≤ R.frames ∧ 40 * (d + 1) ≤ R.locals ∧ base + lc ≤ s.heap.size + R.cells ∧ lsl ≤ s0 + R.slots ∧ base ≤ s.heap.size)
    (hr : QRG p l e R s m args below meth c D ty tb base s0 Q cc ret r.1 r.2.1 r.2.2) :
    ∀ (n pc : Nat) (L : QL) (S : List Value) (G : QG) (M : QM), q_gout P cd ct X d CG lc lsl cg1 cd1 ct1 n pc L S G M = some r → QWG p l e R s m args below meth c D ty tb base nL lc lsl s0 Q pc L S G M := by
  intro n
  induction n with
  | zero => intro pc L S G M h; cases h
  | succ n ih =>
    intro pc L S G M h
    unfold q_gout at h
    refine q_gin_sim hP hg hgg cx hCG hroom ih (fun v G' M' h' => ?_) 400 pc L S G M h
    cases h'
    exact hr
end QGSIM
/-- the makers' rows are good: each is a constructor -/
def QProgG (l : Launch) (P : QP) (B : Nat → Nat × Nat) (cg : Nat → Nat → Option QEG) : Prop := ∀ k pc E, cg k pc = some E → (P k).1.name = "<init>" ∧ plainName (P k).1.cls = true ∧ QGoodG l P B (P k).1.cls (P k).2.1 (P k).2.2.1 pc E
theorem q_chk_of {o : Option (Option Value × QG × QM)} {lc lsl : Nat} {v : Option Value} {G : QG} {M : QM} (h : q_chk o lc lsl = some (v, G, M)) : o = some (v, G, M) ∧ G.length = lc ∧ q_sl G = lsl := by
  unfold q_chk at h
  split at h
  · obtain ⟨h1, h2⟩ := q_cond h
    obtain ⟨h3, h4⟩ := q_and h1
    cases h2
    exact ⟨rfl, by simpa using h3, by simpa using h4⟩
  · cases h
theorem q_gsim {l : Launch} {P : QP} {cd : Nat → Nat → Option QE} {ct : Nat → Nat → Option (List Bool)} {cg : Nat → Nat → Option QEG} {B : Nat → Nat × Nat} (hP : QProg l P cd) (hPG : QProgG l P B cg) {D : va_G} {ty : QTy} {tb : Nat → Nat} {base : Nat} {X : QX} : ∀ d : Nat, QGok l P B D ty tb base X (q_gcall P cd ct cg B X d) d := by
  intro d
  induction d with
  | zero => intro k as G M v G' M' h; cases h
  | succ d ih =>
    intro k as G M v G' M' h
    obtain ⟨hlen, h⟩ := q_cond (show cond (Nat.ble (q_args as).length (P k).2.2.1) _ none = _ from h)
    have hlen := Nat.le_of_ble_eq_true hlen
    obtain ⟨h, hg1, hg2⟩ := q_chk_of h
    refine ⟨?_, hg1, hg2⟩
    have hpl : plainName (P k).1.cls = true := by
      have h2 := h
      rw [show qN = 999999 + 1 from rfl] at h2
      unfold q_gout at h2
      rw [show (400 : Nat) = 399 + 1 from rfl] at h2
      unfold q_gin at h2
      split at h2
      · rename_i E hE
        exact (hPG k 0 E hE).2.1
      · split at h2
        · cases h2
        · rename_i E hE
          exact (hP k 0 E hE).1
    refine Met.ofW (cc := (P k).2.1) (maxL := (P k).2.2.1) (ret := (P k).2.2.2) hpl rfl ?_
    intro p e s m args below meth c s₁ BL hml hv
    obtain ⟨rfl, hSt, hPw, hsz⟩ := hv
    have hts : ∀ w ∈ q_GW, w.before _ s = true := fun w hw => atoms_spec (ws := q_ws P k) BL.pre w (List.mem_cons_of_mem _ hw)
    have hown : s.vm.findClass (P k).1.cls = some m.cls := findClass_of_methodNamed BL.named
    have hname : meth.name = (P k).1.name := (name_of_methodNamed BL.named BL.method).1
    have cx : QCx D ty tb base X p s m (as.map (q_rv tb base)).toArray c (P k).1.cls (P k).2.1 (P k).2.2.1 := ⟨BL.exec, BL.bytes, hml, hown, hts, hSt⟩
    rw [lg_entry_eq]
    refine q_gout_sim (r := (v, G', M')) (s0 := q_sl G) (ret := (P k).2.2.2) hP (fun pc E hE => (hP k pc E hE).2) (fun pc E hE => ⟨Or.inl (hname.trans (hPG k pc E hE).1), (hPG k pc E hE).2.2⟩) cx ih ⟨Nat.le_refl _, Nat.le_refl _, by show base + (G.length + (B k).1) ≤ s.heap.size + (B k).1; omega, Nat.le_refl _, by omega⟩ ?_ qN 0 (q_entry (P k).2.2.1 as) [] G M h 0 0 (by omega) (by omega) (by omega) (by omega) s.heap [] _ ⟨hPw, va_S.rf⟩ (q_entry_lr tb base _ as hlen)
    intro cells slots z1 z2 hok pcr H locs ls hR hd
    dsimp only at z1 z2 hg1 hg2
    have hcc : cells = (B k).1 := by omega
    have hss : slots = (B k).2 := by omega
    subst hcc; subst hss
    have hq : ∀ t : State, t.heap = H → s.WarmedH t.vm → QQ D ty tb base v G' M' (as.map (q_rv tb base)).toArray s (.returned (v.map (q_rv tb base))) t := fun t ht _ => ⟨rfl, by rw [ht]; exact hR.1, hR.2.F ht⟩
    cases v with
    | none => exact W.vret BL.exec BL.bytes (BL.returns.trans hok) hq hR.2.2.2 hd
    | some v =>
      cases v with
      | int x =>
        rcases hok with hok | ⟨hok, hx⟩
        · exact W.iret BL.exec BL.bytes (BL.returns.trans hok) hq hR.2.2.2 hd
        · exact W.zret BL.exec BL.bytes (BL.returns.trans hok) (q_nar hx) hq hR.2.2.2 hd
      | long x => exact W.lret BL.exec BL.bytes (BL.returns.trans hok) hq hR.2.2.2 hd
      | ref a =>
        obtain ⟨n, hok⟩ := hok
        exact W.aret BL.exec BL.bytes (BL.returns.trans hok) (Or.inl ⟨n, rfl⟩) (Or.inr ⟨_, rfl⟩) hq hR.2.2.2 hd
      | null =>
        obtain ⟨n, hok⟩ := hok
        exact W.aret BL.exec BL.bytes (BL.returns.trans hok) (Or.inl ⟨n, rfl⟩) (Or.inl rfl) hq hR.2.2.2 hd
      | _ => exact absurd hok (by intro z; exact z)
