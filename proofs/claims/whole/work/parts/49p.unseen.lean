/-! PAIRS: judge, kinds, howFar, which (wip/whole/f) -/
def gS (b : Int32) (T : QT) (n fm : Nat) (N : Nat → Int32) : Nat → Int32 := fun i => sgn N fm i (dyS b (fS N) n T)
theorem gS_congr {b : Int32} {T : QT} {n fm : Nat} {N N' : Nat → Int32} (hb : q_R3 b) (hT : RT T) (e : ∀ j, j < n → ∀ c, c < 5 → N (5 * j + c) = N' (5 * j + c)) (hf : fm < n) : gS b T n fm N = gS b T n fm N' := by
  have eD : dyS b (fS N) n T = dyS b (fS N') n T := funext fun j => dyS_congr (N := j) hb hT (fun h m k _ _ hk => sgn_congr (e k hk 0 (by decide)) (e k hk 1 (by decide)) (e k hk 2 (by decide)) (e k hk 3 (by decide)) (e k hk 4 (by decide)) (fun _ _ => rfl)) (Nat.le_refl j)
  funext i
  unfold gS
  rw [eD]
  exact sgn_congr (e fm hf 0 (by decide)) (e fm hf 1 (by decide)) (e fm hf 2 (by decide)) (e fm hf 3 (by decide)) (e fm hf 4 (by decide)) (fun _ _ => rfl)
/-- a byte of the row that says another sign -/
def eU (R g : Nat → Int32) : Nat → Bool := fun i => decide ((0 ≤ (R i).toInt ∧ (R i).toInt ≤ 3) ∧ ¬ R i = g i)
def mk (E : Nat → Bool) : Nat → Int32
  | 0 => 0
  | i + 1 => if E i = true then mk E i ||| b1 i else mk E i
/-- one number of one farm thought otherwise -/
def Nv (N : Nat → Int32) (f c : Nat) (v : Int32) : Nat → Int32 := fun i => if i = 5 * f + c then v else N i
section UNSEEN
variable {sl : Nat} {sx : Nat → Int32} {d n s z f t fm c : Nat} {M : QM} {x y v : Int32} {D R : Nat → Int32}
theorem br_lt (h : BR M s z R) {i : Nat} (hi : i < z) : (lg_cmp (M.2 75 (60 * s + i)) 0 < 0 ↔ (R i).toInt < 0) ∧ (0 < lg_cmp (M.2 75 (60 * s + i)) 3 ↔ 3 < (R i).toInt) ∧ ∀ v : Int32, lg_cmp (M.2 75 (60 * s + i)) v.toInt64 = 0 ↔ R i = v := by
  obtain ⟨_, h2, h3⟩ := h.2.2.2.2.2.2.2 i (by have := h.2.1; omega)
  have e : (M.2 75 (60 * s + i)).toInt = (R i).toInt := by
    rw [← h2, h3, Int32.toInt_toInt64]
  refine ⟨?_, ?_, fun v => ?_⟩
  · rw [lg_cmp_lt, Int64.lt_iff_toInt_lt, e, show (0 : Int64).toInt = 0 by decide]
  · rw [lg_cmp_gt, Int64.lt_iff_toInt_lt, e, show (3 : Int64).toInt = 3 by decide]
  · rw [lg_cmp_eq]
    have := br_cmp h hi v
    rw [lg_cmp_eq] at this
    exact ⟨fun q => (this.mp q.symm).symm, fun q => (this.mpr q.symm).symm⟩
theorem k_unseen (hf : qIsF f) (hF : FD M f n) (hfm : fm < n) (hB : BR M s z R) : ∃ M', qK sl sx (d + 8) 145 [.ref 4, .ref (36 + 2 * s), .ref f, .int (nI fm)] M = some (some (.int (ff (eU R (gS (M.1 (f + 1) 51) (ST M) n fm (M.1 (f + 1)))) z 0)), M') ∧ Fr [11, 12, 13, 1703, 19] M M' := by
  have hs := hB.1
  have hq := qs_is hs
  have h6 := hB.2.1
  have hn := hF.2.1
  have ht : qIsT 11 := Or.inr (Or.inl rfl)
  obtain ⟨u, eu⟩ : ∃ u : Int32, u = nI z - 1 := ⟨_, rfl⟩
  have hu : u.toInt ≤ 300 ∧ u.toInt.toNat = z - 1 := by
    rw [eu]
    by_cases c : z = 0
    · subst c; decide
    · obtain ⟨p, rfl⟩ : ∃ p, z = p + 1 := ⟨z - 1, by omega⟩
      rw [nI_pred, nI_toInt (by omega)]
      omega
  obtain ⟨M1, a1, a2, a3⟩ := k_ringDay (sl := sl) (sx := sx) (d := d) (x := u) (f := f) (t := 11) hf ht hF hu.1
  obtain ⟨D, eD⟩ : ∃ D, D = dyS (M.1 (f + 1) 51) (fS (M.1 (f + 1))) n (ST M) := ⟨_, rfl⟩
  rw [hu.2] at a3
  have a3 : TW M1 11 (z - 1) D := tw_congr (fun j hj => by rw [eD]; exact dyS_dt hj) a3
  obtain ⟨F1, _, FN⟩ := fd_fr hf ht a2 hF
  have b1 : BR M1 s z R := br_fr rfl a2 hB
  rw [e_X8_firstUnseen, b_X8_firstUnseen_0, qS_O hq, hB.2.2.2.1, ← eu, a1, q_bv_s]
  obtain ⟨M', g1, g2⟩ := q_ff (fun k i M' => qF sl sx (d + 7) 145 k 18 [some (.ref 4), some (.ref (36 + 2 * s)), some (.ref f), some (.int (nI fm)), some (.int (nI i)), none, none] [] M') [] (eU R (gS (M.1 (f + 1) 51) (ST M) n fm (M.1 (f + 1)))) z (fun _ M' => M' = M1) (fun k i M' hi hI => by
      subst hI
      refine ⟨M', fr_rf, ?_⟩
      obtain ⟨l1, l2, l3⟩ := br_lt b1 hi
      have ev : gS (M.1 (f + 1) 51) (ST M) n fm (M.1 (f + 1)) i = sgn (M'.1 (f + 1)) fm i D := by
        rw [FN, eD]
        rfl
      rw [b_X8_firstUnseen_18, qS_O hq, b1.2.2.2.1, if_neg (nI_ge hi (by omega)), qS_rc hq, br_56 b1 hi, q_bl_s, nI_1]
      by_cases c1 : (R i).toInt < 0
      · right
        refine ⟨decide_eq_false (fun q => by omega), rfl, ?_⟩
        rw [if_pos (l1.mpr c1)]
      · rw [if_neg (fun q => c1 (l1.mp q))]
        by_cases c2 : 3 < (R i).toInt
        · right
          refine ⟨decide_eq_false (fun q => by omega), rfl, ?_⟩
          rw [if_pos (l2.mpr c2)]
        · rw [if_neg (fun q => c2 (l2.mp q)), qF_rc hf, k_doing hf ht a3 (show i ≤ z - 1 by omega) (by omega) (F1.2.2.1 fm hfm), q_bi_s]
          by_cases c3 : R i = sgn (M'.1 (f + 1)) fm i D
          · right
            refine ⟨decide_eq_false (fun q => q.2 (by rw [ev]; exact c3)), rfl, ?_⟩
            rw [if_pos ((l3 _).mpr c3)]
          · left
            refine ⟨decide_eq_true ⟨by omega, by rw [ev]; exact c3⟩, ?_⟩
            rw [if_neg (fun q => c3 ((l3 _).mp q))]) (fun k M' hI => by
      subst hI
      rw [b_X8_firstUnseen_18, qS_O hq, b1.2.2.2.1, if_pos (Int32.le_refl _)]) z 0 q_n1 M1 (by omega) (q_n1b (by omega)) rfl
  exact ⟨M', g1, fr_tr a2 (fr_mo rfl g2)⟩
theorem k9_signR {m : Nat} (hF : RJ n M) (hf : fm < n) (hm : m ≤ 300) (h30 : M.1 48 30 = 0) (h31 : M.1 48 31 = -1) (h34 : M.1 48 34 = 0) (h65 : M.1 65 m = 0) (hT : ∀ j, j ≤ m → M.1 61 j = D j) : qK sl sx (d + 3) 193 [.ref 48, .int (nI fm), .int (nI m)] M = some (some (.int (sgn (RN M) fm m D)), M) := by
  have hn := hF.1
  have h := k9_sign (sl := sl) (sx := sx) (d := d) (M := M) (j := fm) (m := m) (h := D) hm hT (by omega) (hF.2.2.1 fm hf)
  have e : rG M D (M.1 62) m fm = sgn (RN M) fm m D := rS_plain (h := D) h30 h31 h34 h65 (by omega)
  rw [e] at h
  exact h
theorem k9_unlike (hF : RJ n M) (hL : JL M) (hfm : fm < n) (hB : BR M s z R) : ∃ M', qK sl sx (d + 205) 220 [.ref 48, .int (nI s), .int (nI fm)] M = some (some (.int (ff (eU R (gS (M.1 6 51) (ST M) n fm (RN M))) z 0)), M') ∧ Fr kY M M' := by
  have hs := hB.1
  have h6 := hB.2.1
  obtain ⟨M2, a1, a2, a3, a4, a5, a6, a7⟩ := k9_goesPlainR (sl := sl) (sx := sx) (d := d) (x := 60) hF hL (by decide)
  rw [show (60 : Int32).toInt.toNat = 60 by decide] at a3
  have b2 : BR M2 s z R := br_fr rfl a2 hB
  have hF2 := rj_fr rfl a2 hF
  have eN : RN M2 = RN M := rn_kRJ rfl a2
  obtain ⟨D, eD⟩ : ∃ D, D = dyS (M.1 6 51) (fS (RN M)) n (ST M) := ⟨_, rfl⟩
  rw [← eD] at a3
  rw [e_X9_unlike, b_X9_unlike_0, a1, q_bv_s]
  obtain ⟨M', g1, g2⟩ := q_ff (fun k i M' => qF sl sx (d + 204) 220 k 8 [some (.ref 48), some (.int (nI s)), some (.int (nI fm)), some (.int (nI i)), none] [] M') [] (eU R (gS (M.1 6 51) (ST M) n fm (RN M))) z (fun _ M' => M' = M2) (fun k i M' hi hI => by
      subst hI
      refine ⟨M', fr_rf, ?_⟩
      have ev : gS (M.1 6 51) (ST M) n fm (RN M) i = sgn (RN M') fm i D := by
        rw [eN, eD]
        rfl
      rw [b_X9_unlike_8, if_neg (s6 hs), s6c hs, b2.2.2.1, if_neg (nI_ge hi (by omega)), br_247 b2 hi, q_bi_s, k9_w3, nI_1]
      by_cases c1 : rg (R i) 3
      · rw [if_pos c1, q_bi_s, if_neg n10, k9_signR hF2 hfm (by omega) a4 a5 a6 (a7 i (by omega)) (fun j hj => a3 j (by omega)), q_bi_s]
        by_cases c3 : R i = sgn (RN M') fm i D
        · right
          refine ⟨decide_eq_false (fun q => q.2 (by rw [ev]; exact c3)), rfl, ?_⟩
          rw [if_pos c3]
        · left
          refine ⟨decide_eq_true ⟨c1, by rw [ev]; exact c3⟩, ?_⟩
          rw [if_neg c3]
      · right
        refine ⟨decide_eq_false (fun q => c1 q.1), rfl, ?_⟩
        rw [if_neg c1, q_bi_s, if_pos rfl]) (fun k M' hI => by
      subst hI
      rw [b_X9_unlike_8, if_neg (s6 hs), s6c hs, b2.2.2.1, if_pos (Int32.le_refl _)]) z 0 q_n1 M2 (by omega) (q_n1b (by omega)) rfl
  exact ⟨M', g1, fr_tr a2 (fr_mo rfl g2)⟩
theorem jf_rows (hF : JF n M) : ∀ j, j < n → ∀ c, c < 5 → RN M (5 * j + c) = M.1 6 (5 * j + c) := fun j hj c hc => (hF.2.2.2.2.1 _ (by omega)).symm
theorem k9_unlikeJ (hF : JF n M) (hL : JL M) (hfm : fm < n) (hB : BR M s z R) : ∃ M', qK sl sx (d + 205) 220 [.ref 48, .int (nI s), .int (nI fm)] M = some (some (.int (ff (eU R (gS (M.1 6 51) (ST M) n fm (M.1 6))) z 0)), M') ∧ Fr kY M M' := by
  obtain ⟨M', h1, h2⟩ := k9_unlike (sl := sl) (sx := sx) (d := d) (rj_jf hF) hL hfm hB
  rw [gS_congr (jf_FD hF).2.2.2.2 (st_T M) (jf_rows hF) hfm] at h1
  exact ⟨M', h1, h2⟩
theorem k_think (hF : JF n M) (hf : f < n) (hc : c < 5) : ∃ M', qK sl sx (d + 3) 139 [.ref 4, .int (nI f), .int (nI c), .int v] M = some (none, M') ∧ Fr [7, 8] M M' ∧ M'.1 7 1 = nI n ∧ ∀ i, i < 53 → M'.1 8 i = Nv (M.1 6) f c v i := by
  have hn := hF.1
  obtain ⟨M1, a1, a2, a3, a4⟩ := k_copyF (sl := sl) (sx := sx) (d := d + 1) (M := M)
  rw [hF.2.1] at a3
  refine ⟨(q_up M1.1 8 (5 * f + c) v, M1.2), ?_, fr_up rfl a2, ?_, fun i hi => ?_⟩
  · rw [e_X8_think, b_X8_think_0, a1, q_bv_s, k_slot7 a3 hn hf hc, q_bi_s, k_write7 (by omega), q_bv_s]
  · dsimp only
    rw [q_up_a _ _ _ _ (by decide)]
    exact a3
  · dsimp only
    unfold Nv
    by_cases q : i = 5 * f + c
    · rw [if_pos q, q, q_up_s]
    · rw [if_neg q, q_up_k _ _ _ _ q, a4 i hi]
theorem tk_FD {N : Nat → Int32} {M' : QM} (hF : JF n M) (g : Fr [7, 8] M M') (h7 : M'.1 7 1 = nI n) (h8 : ∀ i, i < 53 → M'.1 8 i = N i) (hN : ∀ j, j < n → Rg N j) (h50 : N 50 = M.1 6 50) (h51 : N 51 = M.1 6 51) : FD M' 7 n := by
  have hn := hF.1
  refine ⟨h7, hn, fun j hj => ?_, ?_, ?_⟩
  · have := hN j hj
    show Rg (M'.1 8) j
    unfold Rg at this ⊢
    rw [h8 _ (by omega), h8 _ (by omega), h8 _ (by omega), h8 _ (by omega), h8 _ (by omega)]
    exact this
  · show M'.1 8 50 = M'.1 6 50
    rw [h8 _ (by decide), h50, g.1 6 50 rfl]
  · show q_R3 (M'.1 8 51)
    rw [h8 _ (by decide), h51]
    exact (jf_FD hF).2.2.2.2
theorem k_unseenT (hF : JF n M) (hf : f < n) (hc : c < 5) (hN : ∀ j, j < n → Rg (Nv (M.1 6) f c v) j) (hB : BR M s z R) : ∃ M1 M', qK sl sx (d + 8) 139 [.ref 4, .int (nI f), .int (nI c), .int v] M = some (none, M1) ∧ qK sl sx (d + 8) 145 [.ref 4, .ref (36 + 2 * s), .ref 7, .int (nI f)] M1 = some (some (.int (ff (eU R (gS (M.1 6 51) (ST M) n f (Nv (M.1 6) f c v))) z 0)), M') ∧ Fr kZ M M' := by
  have hn := hF.1
  obtain ⟨M1, a1, a2, a3, a4⟩ := k_think (sl := sl) (sx := sx) (d := d + 5) (v := v) hF hf hc
  have h51 : Nv (M.1 6) f c v 51 = M.1 6 51 := if_neg (by omega)
  have hD := tk_FD hF a2 a3 a4 hN (if_neg (by omega)) h51
  obtain ⟨M', b1, b2⟩ := k_unseen (sl := sl) (sx := sx) (d := d) (Or.inr rfl) hD hf (br_fr rfl a2 hB)
  refine ⟨M1, M', a1, ?_, fr_t2 rfl rfl a2 b2⟩
  rw [b1]
  have es : ST M1 = ST M := st_fr (a2.1 17 1 rfl) (funext fun k => a2.1 18 k rfl) (a2.1 6 50 rfl)
  have e1 : M1.1 (7 + 1) 51 = M.1 6 51 := (a4 51 (by decide)).trans h51
  rw [es, e1, gS_congr (N := M1.1 (7 + 1)) (N' := Nv (M.1 6) f c v) (jf_FD hF).2.2.2.2 (st_T M) (fun j hj c hc => a4 _ (by omega)) hf]
/-- one cell of one array may have changed besides scratch -/
def FO (a f : Nat) (M M' : QM) : Prop := Fr (a :: kY) M M' ∧ ∀ i, i ≠ f → M'.1 a i = M.1 a i
theorem fo_up {a : Nat} {M' : QM} (ha : a = 49 ∨ a = 50) (h : FO a f M M') (v : Int32) : FO a f M (q_up M'.1 a f v, M'.2) := by
  obtain ⟨h1, h2⟩ := h
  refine ⟨by rcases ha with rfl | rfl <;> exact fr_up rfl h1, fun i hi => ?_⟩
  dsimp only
  rw [q_up_k _ _ _ _ hi]
  exact h2 i hi
theorem fo_kY {a : Nat} {M' M2 : QM} (ha : a = 49 ∨ a = 50) (h : FO a f M M') (g : Fr kY M' M2) : FO a f M M2 := by
  obtain ⟨h1, h2⟩ := h
  refine ⟨by rcases ha with rfl | rfl <;> exact fr_t2 rfl rfl h1 g, fun i hi => ?_⟩
  rw [← h2 i hi]
  rcases ha with rfl | rfl <;> exact g.1 _ i rfl
theorem fo_back {a : Nat} {M' : QM} (ha : a = 49 ∨ a = 50) (h : FO a f M M') : Fr kY M (q_up M'.1 a f (M.1 a f), M'.2) := by
  obtain ⟨h1, h2⟩ := h
  refine ⟨fun b k e => ?_, fun b k e => ?_⟩
  · dsimp only
    by_cases q : b = a
    · subst q
      by_cases r : k = f
      · rw [r, q_up_s]
      · rw [q_up_k _ _ _ _ r]
        exact h2 k r
    · rw [q_up_a _ _ _ _ q]
      refine h1.1 b k ?_
      rcases ha with rfl | rfl
      · have : q_key b k ≠ 49 := by unfold q_key; split <;> (try split) <;> (try split) <;> omega
        simp only [List.elem_cons, e, beq_eq_false_iff_ne.mpr this]
      · have : q_key b k ≠ 50 := by unfold q_key; split <;> (try split) <;> (try split) <;> omega
        simp only [List.elem_cons, e, beq_eq_false_iff_ne.mpr this]
  · refine h1.2 b k ?_
    have : 200 + b ≠ a := by omega
    simp only [List.elem_cons, e, beq_eq_false_iff_ne.mpr this]
theorem fo_rf {a : Nat} : FO a f M M := ⟨fr_rf, fun _ _ => rfl⟩
/-- the reference's numbers, one cell written -/
theorem fo_RN {a c : Nat} {M' : QM} (ha : (a = 49 ∧ c = 0) ∨ (a = 50 ∧ c = 1)) (hF : JF n M) (hf : f < n) (h : FO a f M M') (hN : ∀ j, j < n → Rg (Nv (M.1 6) f c v) j) : (∀ j, j < n → ∀ e, e < 5 → RN (q_up M'.1 a f v, M'.2) (5 * j + e) = Nv (M.1 6) f c v (5 * j + e)) ∧ RJ n (q_up M'.1 a f v, M'.2) := by
  have hn := hF.1
  have hr := jf_rows hF
  have rows : ∀ j, j < n → ∀ e, e < 5 → RN (q_up M'.1 a f v, M'.2) (5 * j + e) = Nv (M.1 6) f c v (5 * j + e) := by
    intro j hj e he
    have hre := hr j hj e he
    unfold Nv
    obtain ⟨h1, h2⟩ := h
    have d0 : (5 * j + e) % 5 = e := by omega
    have d1 : (5 * j + e) / 5 = j := by omega
    unfold RN at hre ⊢
    rw [d0, d1] at hre ⊢
    dsimp only
    rcases ha with ⟨rfl, rfl⟩ | ⟨rfl, rfl⟩
    · by_cases e0 : e = 0
      · subst e0
        rw [if_pos rfl] at hre ⊢
        by_cases q : j = f
        · rw [if_pos (by omega), q, q_up_s]
        · rw [if_neg (by omega), q_up_k _ _ _ _ q, h2 j q, hre]
      · rw [if_neg e0] at hre ⊢
        rw [if_neg (show ¬ 5 * j + e = 5 * f + 0 by omega), ← hre]
        rw [q_up_a _ _ _ _ (by decide), q_up_a _ _ _ _ (by decide), q_up_a _ _ _ _ (by decide), q_up_a _ _ _ _ (by decide), h1.1 50 j rfl, h1.1 51 j rfl, h1.1 52 j rfl, h1.1 53 j rfl]
    · by_cases e0 : e = 1
      · subst e0
        rw [if_neg (by decide), if_pos rfl] at hre ⊢
        by_cases q : j = f
        · rw [if_pos (by omega), q, q_up_s]
        · rw [if_neg (by omega), q_up_k _ _ _ _ q, h2 j q, hre]
      · rw [if_neg (show ¬ 5 * j + e = 5 * f + 1 by omega), ← hre]
        rw [if_neg (c := e = 1) e0, if_neg (c := e = 1) e0]
        rw [q_up_a _ _ _ _ (by decide), q_up_a _ _ _ _ (by decide), q_up_a _ _ _ _ (by decide), q_up_a _ _ _ _ (by decide), h1.1 49 j rfl, h1.1 51 j rfl, h1.1 52 j rfl, h1.1 53 j rfl]
  refine ⟨rows, hn, ?_, fun j hj => ?_, ?_, ?_, ?_⟩
  · dsimp only
    rcases ha with ⟨rfl, rfl⟩ | ⟨rfl, rfl⟩ <;> rw [q_up_a _ _ _ _ (by decide), h.1.1 48 0 rfl, hF.2.2.1]
  · have := hN j hj
    unfold Rg at this ⊢
    have r0 := rows j hj 0 (by decide)
    rw [Nat.add_zero] at r0
    rw [r0, rows j hj 1 (by decide), rows j hj 2 (by decide), rows j hj 3 (by decide), rows j hj 4 (by decide)]
    exact this
  · dsimp only
    rcases ha with ⟨rfl, rfl⟩ | ⟨rfl, rfl⟩ <;> rw [q_up_a _ _ _ _ (by decide), q_up_a _ _ _ _ (by decide), h.1.1 48 1 rfl, h.1.1 6 50 rfl, ← hF.2.2.2.2.2.2.1]
  · dsimp only
    rcases ha with ⟨rfl, rfl⟩ | ⟨rfl, rfl⟩ <;> rw [q_up_a _ _ _ _ (by decide), q_up_a _ _ _ _ (by decide), h.1.1 48 2 rfl, h.1.1 6 51 rfl, ← hF.2.2.2.2.2.2.2.1]
  · dsimp only
    rcases ha with ⟨rfl, rfl⟩ | ⟨rfl, rfl⟩ <;> (rw [q_up_a _ _ _ _ (by decide), h.1.1 6 51 rfl]; exact (jf_FD hF).2.2.2.2)
/-- the reference's comparison with one number otherwise -/
theorem k9_unlikeT {a c : Nat} {M' : QM} (ha : (a = 49 ∧ c = 0) ∨ (a = 50 ∧ c = 1)) (hF : JF n M) (hL : JL M) (hf : f < n) (h : FO a f M M') (hN : ∀ j, j < n → Rg (Nv (M.1 6) f c v) j) (hB : BR M s z R) : ∃ M2, qK sl sx (d + 205) 220 [.ref 48, .int (nI s), .int (nI f)] (q_up M'.1 a f v, M'.2) = some (some (.int (ff (eU R (gS (M.1 6 51) (ST M) n f (Nv (M.1 6) f c v))) z 0)), M2) ∧ FO a f M M2 := by
  obtain ⟨r1, r2⟩ := fo_RN ha hF hf h hN
  have ha' : a = 49 ∨ a = 50 := by rcases ha with q | q <;> simp [q.1]
  have h' := fo_up ha' h v
  have hL' : JL (q_up M'.1 a f v, M'.2) := by rcases ha' with rfl | rfl <;> exact jL_fr rfl h'.1 hL
  have hB' : BR (q_up M'.1 a f v, M'.2) s z R := by rcases ha' with rfl | rfl <;> exact br_fr rfl h'.1 hB
  obtain ⟨M2, g1, g2⟩ := k9_unlike (sl := sl) (sx := sx) (d := d) r2 hL' hf hB'
  refine ⟨M2, ?_, fo_kY ha' h' g2⟩
  have es : ST (q_up M'.1 a f v, M'.2) = ST M := by rcases ha' with rfl | rfl <;> exact st_fr (h'.1.1 17 1 rfl) (funext fun k => h'.1.1 18 k rfl) (h'.1.1 6 50 rfl)
  have e1 : q_up M'.1 a f v 6 51 = M.1 6 51 := by rcases ha' with rfl | rfl <;> exact h'.1.1 6 51 rfl
  rw [g1, es]
  dsimp only
  rw [e1, gS_congr (jf_FD hF).2.2.2.2 (st_T M) r1 hf]
theorem fo_f {a : Nat} {M' : QM} (ha : a = 49 ∨ a = 50) (h : FO a f M M') : M'.1 48 0 = M.1 48 0 := by
  rcases ha with rfl | rfl <;> exact h.1.1 48 0 rfl
theorem nv_Rg (hF : JF n M) (hv : (c = 0 ∧ 0 ≤ v.toInt ∧ v.toInt ≤ 9) ∨ (c = 1 ∧ 0 ≤ v.toInt ∧ v.toInt ≤ 5)) : ∀ j, j < n → Rg (Nv (M.1 6) f c v) j := by
  intro j hj
  obtain ⟨r0, r1, r2, r3, r4, r5, r6, r7, r8, r9⟩ := hF.2.2.2.1 j hj
  unfold Rg Nv
  rcases hv with ⟨rfl, v1, v2⟩ | ⟨rfl, v1, v2⟩
  · rw [if_neg (show ¬ 5 * j + 1 = 5 * f + 0 by omega), if_neg (show ¬ 5 * j + 2 = 5 * f + 0 by omega), if_neg (show ¬ 5 * j + 3 = 5 * f + 0 by omega), if_neg (show ¬ 5 * j + 4 = 5 * f + 0 by omega)]
    refine ⟨?_, ?_, r2, r3, r4, r5, r6, r7, r8, r9⟩
    · split <;> assumption
    · split <;> assumption
  · rw [if_neg (show ¬ 5 * j = 5 * f + 1 by omega), if_neg (show ¬ 5 * j + 2 = 5 * f + 1 by omega), if_neg (show ¬ 5 * j + 3 = 5 * f + 1 by omega), if_neg (show ¬ 5 * j + 4 = 5 * f + 1 by omega)]
    refine ⟨r0, r1, ?_, ?_, r4, r5, r6, r7, r8, r9⟩
    · split <;> assumption
    · split <;> assumption
theorem nm1 : ¬ (-1 : Int32) = 0 := by decide
theorem p_judge (x y : Int32) : QPi sl sx JA 101 222 [.int x, .int y] := by
  intro M hJ
  obtain ⟨n, b, hF, hT, hL, hC, hD, hK, hS, hH⟩ := id hJ
  have hn := hF.1
  rcases in6 (x := x) with hx | hx
  rotate_left
  · refine ⟨-1, M, M, ?_, ?_, hJ⟩
    · rw [e_X8_judge, b_X8_judge_0, k_shelfN hx, q_br_n]
    · rw [e_X9_judge, b_X9_judge_0, e_X9_barsFor, b_X9_barsFor_0, k9_isShelfN hx, q_bi_s, if_pos rfl, q_bi_s, if_neg nm1]
  have ex : x = nI x.toInt.toNat := q_ofN hx.1
  have hs : x.toInt.toNat < 6 := by omega
  generalize x.toInt.toNat = s at *
  subst ex
  have hq := qs_is hs
  by_cases q : 0 ≤ y.toInt ∧ y.toInt < (n : Int)
  rotate_left
  · refine ⟨-1, M, M, ?_, ?_, hJ⟩
    · rw [e_X8_judge, b_X8_judge_0, k_shelfY hs, q_br_s, k_isFarmJ hF, if_neg q, q_bi_s, if_pos rfl]
    · rw [e_X9_judge, b_X9_judge_0, e_X9_barsFor, b_X9_barsFor_0, k9_isShelfY hs, q_bi_s, if_neg n10, k9_isFarmJ hF, if_neg q, q_bi_s, if_pos rfl, q_bi_s, if_neg nm1]
  have ey : y = nI y.toInt.toNat := q_ofN q.1
  have hf : y.toInt.toNat < n := by omega
  have q2 := q
  rw [ey] at q2
  generalize y.toInt.toNat = f at *
  subst ey
  rcases br_of (sl := sl) (sx := sx) hs hH with ⟨v, v0, g1, g2, g3⟩ | ⟨z, R, hB⟩
  · refine ⟨v, M, M, ?_, ?_, hJ⟩
    · rw [e_X8_judge, b_X8_judge_0, k_shelfY hs, q_br_s, k_isFarmJ hF, if_pos q2, q_bi_s, if_neg n10, qS_rc hq, g1, q_bi_s, if_pos rfl, qS_rc hq, g2, q_bi_s]
    · rw [e_X9_judge, b_X9_judge_0, e_X9_barsFor, b_X9_barsFor_0, k9_isShelfY hs, q_bi_s, if_neg n10, k9_isFarmJ hF, if_pos q2, q_bi_s, if_neg n10, g3, q_bi_s, q_bi_s, if_neg v0]
  obtain ⟨M1, a1, a2⟩ := k_unseen (sl := sl) (sx := sx) (d := 991) (Or.inl rfl) (jf_FD hF) hf hB
  have f1 : Fr kY M M1 := fr_mo rfl a2
  have hF1 := jF_fr rfl f1 hF
  obtain ⟨M2, b1, b2⟩ := k9_unlikeJ (sl := sl) (sx := sx) (d := 794) hF1 (jL_fr rfl f1 hL) hf (br_fr rfl f1 hB)
  rw [n6_kY f1, st_kY f1] at b1
  refine ⟨ff (eU R (gS (M.1 6 51) (ST M) n f (M.1 6))) z 0, M1, M2, ?_, ?_, ja_kY b2 (ja_kY f1 hJ)⟩
  rotate_left
  · rw [e_X9_judge, b_X9_judge_0, e_X9_barsFor, b_X9_barsFor_0, k9_isShelfY hs, q_bi_s, if_neg n10, k9_isFarmJ hF1, if_pos q2, q_bi_s, if_neg n10, br_207 (br_fr rfl f1 hB), q_bi_s, q_bi_s, if_pos rfl, b1, q_bi_s]
  · rw [e_X8_judge, b_X8_judge_0, k_shelfY hs, q_br_s, k_isFarmJ hF, if_pos q2, q_bi_s, if_neg n10, qS_rc hq, br_49 hB, q_bi_s, if_neg n10, a1, q_bi_s]
def eK (M : QM) (n f z c : Nat) (R : Nat → Int32) : Nat → Bool := fun k => decide (ff (eU R (gS (M.1 6 51) (ST M) n f (Nv (M.1 6) f c (nI k)))) z 0 = -2)
theorem p_kinds (x y : Int32) : QPi sl sx JA 102 223 [.int x, .int y] := by
  intro M hJ
  obtain ⟨n, b, hF, hT, hL, hC, hD, hK, hS, hH⟩ := id hJ
  have hn := hF.1
  rcases in6 (x := x) with hx | hx
  rotate_left
  · refine ⟨-1, M, M, ?_, ?_, hJ⟩
    · rw [e_X8_kinds, b_X8_kinds_0, k_shelfN hx, q_br_n]
    · rw [e_X9_kinds, b_X9_kinds_0, e_X9_barsFor, b_X9_barsFor_0, k9_isShelfN hx, q_bi_s, if_pos rfl, q_bi_s, if_neg nm1]
  have ex : x = nI x.toInt.toNat := q_ofN hx.1
  have hs : x.toInt.toNat < 6 := by omega
  generalize x.toInt.toNat = s at *
  subst ex
  have hq := qs_is hs
  by_cases q : 0 ≤ y.toInt ∧ y.toInt < (n : Int)
  rotate_left
  · refine ⟨-1, M, M, ?_, ?_, hJ⟩
    · rw [e_X8_kinds, b_X8_kinds_0, k_shelfY hs, q_br_s, k_isFarmJ hF, if_neg q, q_bi_s, if_pos rfl]
    · rw [e_X9_kinds, b_X9_kinds_0, e_X9_barsFor, b_X9_barsFor_0, k9_isShelfY hs, q_bi_s, if_neg n10, k9_isFarmJ hF, if_neg q, q_bi_s, if_pos rfl, q_bi_s, if_neg nm1]
  have ey : y = nI y.toInt.toNat := q_ofN q.1
  have hf : y.toInt.toNat < n := by omega
  have q2 := q
  rw [ey] at q2
  generalize y.toInt.toNat = f at *
  subst ey
  rcases br_of (sl := sl) (sx := sx) hs hH with ⟨v, v0, g1, g2, g3⟩ | ⟨z, R, hB⟩
  · refine ⟨v, M, M, ?_, ?_, hJ⟩
    · rw [e_X8_kinds, b_X8_kinds_0, k_shelfY hs, q_br_s, k_isFarmJ hF, if_pos q2, q_bi_s, if_neg n10, qS_rc hq, g1, q_bi_s, if_pos rfl, qS_rc hq, g2, q_bi_s]
    · rw [e_X9_kinds, b_X9_kinds_0, e_X9_barsFor, b_X9_barsFor_0, k9_isShelfY hs, q_bi_s, if_neg n10, k9_isFarmJ hF, if_pos q2, q_bi_s, if_neg n10, g3, q_bi_s, q_bi_s, if_neg v0]
  have rgk : ∀ k, k < 6 → ∀ j, j < n → Rg (Nv (M.1 6) f 1 (nI k)) j := fun k hk => nv_Rg hF (Or.inr ⟨rfl, by rw [nI_toInt (by omega)]; omega, by rw [nI_toInt (by omega)]; omega⟩)
  obtain ⟨M1, c1, c2⟩ := q_lz (fun k i (a : Int32) M' => qF sl sx 999 102 k 41 [some (.ref 4), none, some (.int (nI f)), some (.ref (36 + 2 * s)), some (.int a), some (.int (nI i))] [] M') kZ M 6 (fun i => mk (eK M n f z 1 R) i) (fun o => ∃ M', o = some (some (.int (mk (eK M n f z 1 R) 6)), M') ∧ Fr kZ M M') (fun k i M' hi hM => by
      obtain ⟨M2, M3, a1, a2, a3⟩ := k_unseenT (sl := sl) (sx := sx) (d := 991) (v := nI i) (c := 1) (jF_fr rfl hM hF) hf (by decide) (by rw [n6_kY (fr_mo rfl hM)]; exact rgk i hi) (br_fr rfl hM hB)
      have fk : Fr kY M M' := fr_mo rfl hM
      rw [n6_kY fk, st_kY fk] at a2
      refine ⟨M3, fr_tr hM a3, ?_⟩
      have a1' : qK sl sx 999 139 [.ref 4, .int (nI f), .int 1, .int (nI i)] M' = some (none, M2) := a1
      rw [b_X8_kinds_41, if_neg (show ¬ (5 : Int32) < nI i by rw [Int32.lt_iff_toInt_lt, nI_toInt (by omega), show (5 : Int32).toInt = 5 by decide]; omega), a1', q_bv_s, a2, q_bi_s, nI_1, mk]
      by_cases c : ff (eU R (gS (M.1 6 51) (ST M) n f (Nv (M.1 6) f 1 (nI i)))) z 0 = -2
      · rw [if_pos c, if_pos (show eK M n f z 1 R i = true from decide_eq_true c)]
        rfl
      · rw [if_neg c, if_neg (show ¬ eK M n f z 1 R i = true by rw [show eK M n f z 1 R i = false from decide_eq_false c]; exact Bool.false_ne_true)]) (fun k M' hM => by
      refine ⟨M', ?_, hM⟩
      rw [b_X8_kinds_41, if_pos (by decide)]) 0 q_n1 M (by decide) (q_n1b (by decide)) fr_rf
  have f1 : Fr kY M M1 := fr_mo rfl c2
  have hF1 := jF_fr rfl f1 hF
  have hB1 := br_fr rfl f1 hB
  obtain ⟨M2, d1, d2⟩ := q_lu (fun k i (a : Int32) M' => qF sl sx 999 223 k 27 [some (.ref 48), some (.int (nI s)), some (.int (nI f)), none, some (.int (M1.1 50 f)), some (.int a), some (.int (nI i))] [] M') 6 (fun i a M' => a = mk (eK M n f z 1 R) i ∧ FO 50 f M1 M') (fun o => ∃ M', o = some (some (.int (mk (eK M n f z 1 R) 6)), M') ∧ Fr kY M1 M') (fun k i a M' hi hI => by
      obtain ⟨ea, hI⟩ := hI
      right
      obtain ⟨M3, a1, a2⟩ := k9_unlikeT (sl := sl) (sx := sx) (d := 794) (v := nI i) (Or.inr ⟨rfl, rfl⟩) hF1 (jL_fr rfl f1 hL) hf hI (by rw [n6_kY f1]; exact rgk i hi) hB1
      rw [n6_kY f1, st_kY f1] at a1
      refine ⟨mk (eK M n f z 1 R) (i + 1), M3, ⟨rfl, a2⟩, ?_⟩
      rw [b_X9_kinds_27, if_neg (show ¬ (6 : Int32) ≤ nI i by rw [Int32.le_iff_toInt_le, nI_toInt (by omega), show (6 : Int32).toInt = 6 by decide]; omega), if_neg (nI_in (by omega) (by decide)), nI_clamp (by omega), a1, q_bi_s, nI_1, mk, ea]
      by_cases c : ff (eU R (gS (M.1 6 51) (ST M) n f (Nv (M.1 6) f 1 (nI i)))) z 0 = -2
      · rw [if_pos c, if_pos (show eK M n f z 1 R i = true from decide_eq_true c)]
        rfl
      · rw [if_neg c, if_neg (show ¬ eK M n f z 1 R i = true by rw [show eK M n f z 1 R i = false from decide_eq_false c]; exact Bool.false_ne_true)]) (fun k a M' hI => by
      obtain ⟨ea, hI⟩ := hI
      refine ⟨_, ?_, fo_back (Or.inr rfl) hI⟩
      rw [b_X9_kinds_27, if_pos (by decide), if_neg (nI_in (by omega) (by decide)), nI_clamp (by omega), ea]) (i := 0) (n := q_n1) (s := 0) (M := M1) (by decide) (q_n1b (by decide)) ⟨rfl, fo_rf⟩
  refine ⟨mk (eK M n f z 1 R) 6, M1, M2, ?_, ?_, ja_kY d2 (ja_kY f1 hJ)⟩
  · rw [e_X8_kinds, b_X8_kinds_0, k_shelfY hs, q_br_s, k_isFarmJ hF, if_pos q2, q_bi_s, if_neg n10, qS_rc hq, br_49 hB, q_bi_s, if_neg n10]
    exact c1
  · rw [e_X9_kinds, b_X9_kinds_0, e_X9_barsFor, b_X9_barsFor_0, k9_isShelfY hs, q_bi_s, if_neg n10, k9_isFarmJ hF1, if_pos q2, q_bi_s, if_neg n10, br_207 (br_fr rfl f1 hB), q_bi_s, q_bi_s, if_pos rfl, if_neg (nI_in (by omega) (by decide)), nI_clamp (by omega)]
    exact d1
def Ld (i : Nat) : Int32 := if i = 10 then -1 else nI (9 - i)
theorem p_howFar (x y : Int32) : QPi sl sx JA 103 224 [.int x, .int y] := by
  intro M hJ
  obtain ⟨n, b, hF, hT, hL, hC, hD, hK, hS, hH⟩ := id hJ
  have hn := hF.1
  rcases in6 (x := x) with hx | hx
  rotate_left
  · refine ⟨-1, M, M, ?_, ?_, hJ⟩
    · rw [e_X8_howFar, b_X8_howFar_0, k_shelfN hx, q_br_n]
    · rw [e_X9_howFar, b_X9_howFar_0, e_X9_barsFor, b_X9_barsFor_0, k9_isShelfN hx, q_bi_s, if_pos rfl, q_bi_s, if_neg nm1]
  have ex : x = nI x.toInt.toNat := q_ofN hx.1
  have hs : x.toInt.toNat < 6 := by omega
  generalize x.toInt.toNat = s at *
  subst ex
  have hq := qs_is hs
  by_cases q : 0 ≤ y.toInt ∧ y.toInt < (n : Int)
  rotate_left
  · refine ⟨-1, M, M, ?_, ?_, hJ⟩
    · rw [e_X8_howFar, b_X8_howFar_0, k_shelfY hs, q_br_s, k_isFarmJ hF, if_neg q, q_bi_s, if_pos rfl]
    · rw [e_X9_howFar, b_X9_howFar_0, e_X9_barsFor, b_X9_barsFor_0, k9_isShelfY hs, q_bi_s, if_neg n10, k9_isFarmJ hF, if_neg q, q_bi_s, if_pos rfl, q_bi_s, if_neg nm1]
  have ey : y = nI y.toInt.toNat := q_ofN q.1
  have hf : y.toInt.toNat < n := by omega
  have q2 := q
  rw [ey] at q2
  generalize y.toInt.toNat = f at *
  subst ey
  rcases br_of (sl := sl) (sx := sx) hs hH with ⟨v, v0, g1, g2, g3⟩ | ⟨z, R, hB⟩
  · refine ⟨v, M, M, ?_, ?_, hJ⟩
    · rw [e_X8_howFar, b_X8_howFar_0, k_shelfY hs, q_br_s, k_isFarmJ hF, if_pos q2, q_bi_s, if_neg n10, qS_rc hq, g1, q_bi_s, if_pos rfl, qS_rc hq, g2, q_bi_s]
    · rw [e_X9_howFar, b_X9_howFar_0, e_X9_barsFor, b_X9_barsFor_0, k9_isShelfY hs, q_bi_s, if_neg n10, k9_isFarmJ hF, if_pos q2, q_bi_s, if_neg n10, g3, q_bi_s, q_bi_s, if_neg v0]
  have rgk : ∀ k, k < 10 → ∀ j, j < n → Rg (Nv (M.1 6) f 0 (nI k)) j := fun k hk => nv_Rg hF (Or.inl ⟨rfl, by rw [nI_toInt (by omega)]; omega, by rw [nI_toInt (by omega)]; omega⟩)
  obtain ⟨M1, c1, c2⟩ := q_ff (fun k i M' => qF sl sx 999 103 k 38 [some (.ref 4), none, some (.int (nI f)), some (.ref (36 + 2 * s)), some (.int (nI i))] [] M') kZ (eK M n f z 0 R) 10 (fun _ M' => Fr kZ M M') (fun k i M' hi hM => by
      obtain ⟨M2, M3, a1, a2, a3⟩ := k_unseenT (sl := sl) (sx := sx) (d := 991) (v := nI i) (c := 0) (jF_fr rfl hM hF) hf (by decide) (by rw [n6_kY (fr_mo rfl hM)]; exact rgk i hi) (br_fr rfl hM hB)
      have fk : Fr kY M M' := fr_mo rfl hM
      rw [n6_kY fk, st_kY fk] at a2
      refine ⟨M3, a3, ?_⟩
      have a1' : qK sl sx 999 139 [.ref 4, .int (nI f), .int 0, .int (nI i)] M' = some (none, M2) := a1
      rw [b_X8_howFar_38, if_neg (show ¬ (9 : Int32) < nI i by rw [Int32.lt_iff_toInt_lt, nI_toInt (by omega), show (9 : Int32).toInt = 9 by decide]; omega), a1', q_bv_s, a2, q_bi_s, nI_1]
      by_cases c : ff (eU R (gS (M.1 6 51) (ST M) n f (Nv (M.1 6) f 0 (nI i)))) z 0 = -2
      · left
        refine ⟨decide_eq_true c, ?_⟩
        rw [if_pos c]
      · right
        refine ⟨decide_eq_false c, fr_tr hM a3, ?_⟩
        rw [if_neg c]) (fun k M' hM => by
      rw [b_X8_howFar_38, if_pos (by decide)]) 10 0 q_n1 M (by decide) (q_n1b (by decide)) fr_rf
  have f1 : Fr kY M M1 := fr_mo rfl c2
  have hF1 := jF_fr rfl f1 hF
  have hB1 := br_fr rfl f1 hB
  obtain ⟨M2, d1, d2⟩ := q_lu (fun k i (a : Int32) M' => qF sl sx 999 224 k 29 [some (.ref 48), some (.int (nI s)), some (.int (nI f)), none, some (.int (M1.1 49 f)), some (.int a), some (.int (Ld i))] [] M') 10 (fun i a M' => a = ff (eK M n f z 0 R) i (10 - i) ∧ FO 49 f M1 M') (fun o => ∃ M', o = some (some (.int (ff (eK M n f z 0 R) 10 0)), M') ∧ Fr kY M1 M') (fun k i a M' hi hI => by
      obtain ⟨ea, hI⟩ := hI
      right
      obtain ⟨M3, a1, a2⟩ := k9_unlikeT (sl := sl) (sx := sx) (d := 794) (v := nI (9 - i)) (Or.inl ⟨rfl, rfl⟩) hF1 (jL_fr rfl f1 hL) hf hI (by rw [n6_kY f1]; exact rgk (9 - i) (by omega)) hB1
      rw [n6_kY f1, st_kY f1] at a1
      refine ⟨ff (eK M n f z 0 R) (i + 1) (10 - (i + 1)), M3, ⟨rfl, a2⟩, ?_⟩
      have el : Ld i = nI (9 - i) := if_neg (by omega)
      have el1 : nI (9 - i) + (-1) = Ld (i + 1) := by
        by_cases q9 : i = 9
        · rw [q9]; decide
        · unfold Ld
          rw [if_neg (by omega), show 9 - i = 9 - (i + 1) + 1 by omega, pk_m1]
      rw [el, b_X9_howFar_29, if_neg (show ¬ nI (9 - i) < 0 by rw [Int32.lt_iff_toInt_lt, nI_toInt (by omega), show (0 : Int32).toInt = 0 by decide]; omega), if_neg (nI_in (by omega) (by decide)), nI_clamp (by omega), a1, q_bi_s, el1, ff, ea, show 10 - (i + 1) + 1 = 10 - i by omega, show 10 - (i + 1) = 9 - i by omega]
      by_cases c : ff (eU R (gS (M.1 6 51) (ST M) n f (Nv (M.1 6) f 0 (nI (9 - i))))) z 0 = -2
      · rw [if_pos c, if_pos (show eK M n f z 0 R (9 - i) = true from decide_eq_true c)]
      · rw [if_neg c, if_neg (show ¬ eK M n f z 0 R (9 - i) = true by rw [show eK M n f z 0 R (9 - i) = false from decide_eq_false c]; exact Bool.false_ne_true)]) (fun k a M' hI => by
      obtain ⟨ea, hI⟩ := hI
      refine ⟨_, ?_, fo_back (Or.inl rfl) hI⟩
      rw [show Ld 10 = -1 from rfl, b_X9_howFar_29, if_pos (by decide), if_neg (nI_in (by omega) (by decide)), nI_clamp (by omega), ea]) (i := 0) (n := q_n1) (s := -2) (M := M1) (by decide) (q_n1b (by decide)) ⟨rfl, fo_rf⟩
  refine ⟨ff (eK M n f z 0 R) 10 0, M1, M2, ?_, ?_, ja_kY d2 (ja_kY f1 hJ)⟩
  · rw [e_X8_howFar, b_X8_howFar_0, k_shelfY hs, q_br_s, k_isFarmJ hF, if_pos q2, q_bi_s, if_neg n10, qS_rc hq, br_49 hB, q_bi_s, if_neg n10]
    exact c1
  · rw [e_X9_howFar, b_X9_howFar_0, e_X9_barsFor, b_X9_barsFor_0, k9_isShelfY hs, q_bi_s, if_neg n10, k9_isFarmJ hF1, if_pos q2, q_bi_s, if_neg n10, br_207 (br_fr rfl f1 hB), q_bi_s, q_bi_s, if_pos rfl, if_neg (nI_in (by omega) (by decide)), nI_clamp (by omega)]
    exact d1
def eW (M : QM) (n z : Nat) (R : Nat → Int32) : Nat → Bool := fun k => decide (ff (eU R (gS (M.1 6 51) (ST M) n k (M.1 6))) z 0 = -2)
theorem p_which (x : Int32) : QPi sl sx JA 104 225 [.int x] := by
  intro M hJ
  obtain ⟨n, b, hF, hT, hL, hC, hD, hK, hS, hH⟩ := id hJ
  have hn := hF.1
  rcases in6 (x := x) with hx | hx
  rotate_left
  · refine ⟨-1, M, M, ?_, ?_, hJ⟩
    · rw [e_X8_which, b_X8_which_0, k_shelfN hx, q_br_n]
    · rw [e_X9_which, b_X9_which_0, k9_isShelfN hx, q_bi_s, if_pos rfl]
  have ex : x = nI x.toInt.toNat := q_ofN hx.1
  have hs : x.toInt.toNat < 6 := by omega
  generalize x.toInt.toNat = s at *
  subst ex
  have hq := qs_is hs
  rcases br_of (sl := sl) (sx := sx) hs hH with ⟨v, v0, g1, g2, g3⟩ | ⟨z, R, hB⟩
  · refine ⟨v, M, M, ?_, ?_, hJ⟩
    · rw [e_X8_which, b_X8_which_0, k_shelfY hs, q_br_s, qS_rc hq, g1, q_bi_s, if_pos rfl, qS_rc hq, g2, q_bi_s]
    · rw [e_X9_which, b_X9_which_0, k9_isShelfY hs, q_bi_s, if_neg n10, g3, q_bi_s, if_neg v0, g3, q_bi_s]
  obtain ⟨M1, c1, c2⟩ := q_lz (fun k i (a : Int32) M' => qF sl sx 999 104 k 29 [some (.ref 4), none, some (.ref (36 + 2 * s)), some (.int a), some (.int (nI i))] [] M') kZ M n (fun i => mk (eW M n z R) i) (fun o => ∃ M', o = some (some (.int (mk (eW M n z R) n)), M') ∧ Fr kZ M M') (fun k i M' hi hM => by
      obtain ⟨M3, a2, a3⟩ := k_unseen (sl := sl) (sx := sx) (d := 991) (f := 5) (Or.inl rfl) (jf_FD (jF_fr rfl hM hF)) hi (br_fr rfl hM hB)
      have fk : Fr kY M M' := fr_mo rfl hM
      rw [show 5 + 1 = 6 from rfl, n6_kY fk, st_kY fk] at a2
      refine ⟨M3, fr_tr hM (fr_mo rfl a3), ?_⟩
      rw [b_X8_which_29, hM.1 5 1 rfl, hF.2.1, if_neg (nI_ge hi (by omega)), a2, q_bi_s, nI_1, mk]
      by_cases c : ff (eU R (gS (M.1 6 51) (ST M) n i (M.1 6))) z 0 = -2
      · rw [if_pos c, if_pos (show eW M n z R i = true from decide_eq_true c)]
        rfl
      · rw [if_neg c, if_neg (show ¬ eW M n z R i = true by rw [show eW M n z R i = false from decide_eq_false c]; exact Bool.false_ne_true)]) (fun k M' hM => by
      refine ⟨M', ?_, hM⟩
      rw [b_X8_which_29, hM.1 5 1 rfl, hF.2.1, if_pos (Int32.le_refl _)]) 0 q_n1 M (by omega) (q_n1b (by omega)) fr_rf
  have f1 : Fr kY M M1 := fr_mo rfl c2
  have hF1 := jF_fr rfl f1 hF
  have hB1 := br_fr rfl f1 hB
  obtain ⟨M2, d1, d2⟩ := q_lz (fun k i (a : Int32) M' => qF sl sx 999 225 k 28 [some (.ref 48), some (.int (nI s)), some (.int a), some (.int (nI i))] [] M') kY M1 n (fun i => mk (eW M n z R) i) (fun o => ∃ M', o = some (some (.int (mk (eW M n z R) n)), M') ∧ Fr kY M1 M') (fun k i M' hi hM => by
      obtain ⟨M3, a2, a3⟩ := k9_unlikeJ (sl := sl) (sx := sx) (d := 794) (jF_fr rfl hM hF1) (jL_fr rfl hM (jL_fr rfl f1 hL)) hi (br_fr rfl hM hB1)
      rw [n6_kY hM, st_kY hM, n6_kY f1, st_kY f1] at a2
      refine ⟨M3, fr_tr hM a3, ?_⟩
      rw [b_X9_which_28, hM.1 48 0 rfl, hF1.2.2.1, if_neg (nI_ge hi (by omega)), a2, q_bi_s, nI_1, mk]
      by_cases c : ff (eU R (gS (M.1 6 51) (ST M) n i (M.1 6))) z 0 = -2
      · rw [if_pos c, if_pos (show eW M n z R i = true from decide_eq_true c)]
        rfl
      · rw [if_neg c, if_neg (show ¬ eW M n z R i = true by rw [show eW M n z R i = false from decide_eq_false c]; exact Bool.false_ne_true)]) (fun k M' hM => by
      refine ⟨M', ?_, hM⟩
      rw [b_X9_which_28, hM.1 48 0 rfl, hF1.2.2.1, if_pos (Int32.le_refl _)]) 0 q_n1 M1 (by omega) (q_n1b (by omega)) fr_rf
  refine ⟨mk (eW M n z R) n, M1, M2, ?_, ?_, ja_kY d2 (ja_kY f1 hJ)⟩
  · rw [e_X8_which, b_X8_which_0, k_shelfY hs, q_br_s, qS_rc hq, br_49 hB, q_bi_s, if_neg n10]
    exact c1
  · rw [e_X9_which, b_X9_which_0, k9_isShelfY hs, q_bi_s, if_neg n10, br_207 hB1, q_bi_s, if_pos rfl]
    exact d1
end UNSEEN
