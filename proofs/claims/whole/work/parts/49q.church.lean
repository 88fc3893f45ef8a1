/-! PAIRS: church, alike (wip/whole/f) -/
theorem dg10 {x : Int32} (h : 0 ≤ x.toInt) : (x / 10).toInt = x.toInt / 10 ∧ (x - x / 10 * 10).toInt = x.toInt % 10 := by
  have hx := x.toInt_lt
  have e10 : (10 : Int32).toInt = 10 := by decide
  have e1 : (x / 10).toInt = x.toInt / 10 := by
    rw [Int32.toInt_div, e10, Int.tdiv_eq_ediv_of_nonneg h, Int.bmod_eq_of_le (by omega) (by omega)]
  refine ⟨e1, ?_⟩
  rw [Int32.toInt_sub, Int32.toInt_mul, e1, e10, Int.bmod_eq_of_le (n := x.toInt / 10 * 10) (by omega) (by omega), Int.bmod_eq_of_le (by omega) (by omega)]
  omega
def gB (N : Nat → Int32) (set : Int32) (p : (Nat → Int32) × (Nat → Int32)) (m j : Nat) : Int32 := if bt set j then sgn N j m p.2 else sgn N j m p.1
/-- both churches' days, minute by minute -/
def dB (b c : Int32) (N : Nat → Int32) (set : Int32) (n : Nat) (T : QT) : Nat → (Nat → Int32) × (Nat → Int32)
  | 0 => (fun _ => b, fun _ => c)
  | m + 1 =>
    let p := dB b c N set n T m
    let g := gB N set p m
    (fun i => if i = m + 1 then T (cn g (nI 1) n) (cn g (nI 2) n) (cn g (nI 3) n) (p.1 m) (lr p.1 m) (m + 1) else p.1 i, fun i => if i = m + 1 then T (cn g (nI 1) n) (cn g (nI 2) n) (cn g (nI 3) n) (p.2 m) (lr p.2 m) (m + 1) else p.2 i)
section CHURCH
variable {sl : Nat} {sx : Nat → Int32} {d n s : Nat} {M : QM} {x y z set b c : Int32} {N : Nat → Int32} {T : QT}
theorem dB_k {m j : Nat} (h : j ≤ m) : (dB b c N set n T (m + 1)).1 j = (dB b c N set n T m).1 j ∧ (dB b c N set n T (m + 1)).2 j = (dB b c N set n T m).2 j := by
  rw [dB]
  dsimp only
  rw [if_neg (by omega), if_neg (by omega)]
  exact ⟨rfl, rfl⟩
theorem dB_le {m m' j : Nat} (h : j ≤ m) (hm : m ≤ m') : (dB b c N set n T m').1 j = (dB b c N set n T m).1 j ∧ (dB b c N set n T m').2 j = (dB b c N set n T m).2 j := by
  induction m' with
  | zero => rw [show m = 0 by omega]; exact ⟨rfl, rfl⟩
  | succ m' ih =>
    rcases Nat.lt_or_ge m' m with q | q
    · rw [show m = m' + 1 by omega]; exact ⟨rfl, rfl⟩
    · obtain ⟨h1, h2⟩ := dB_k (b := b) (c := c) (N := N) (set := set) (n := n) (T := T) (show j ≤ m' by omega)
      obtain ⟨h3, h4⟩ := ih q
      exact ⟨h1.trans h3, h2.trans h4⟩
theorem dB_R (hb : q_R3 b) (hc : q_R3 c) (hT : RT T) (m : Nat) : ∀ j, j ≤ m → q_R3 ((dB b c N set n T m).1 j) ∧ q_R3 ((dB b c N set n T m).2 j) := by
  induction m with
  | zero => intro j _; exact ⟨hb, hc⟩
  | succ m ih =>
    intro j hj
    rcases Nat.lt_or_ge m j with q | q
    · have : j = m + 1 := by omega
      subst this
      rw [dB]
      dsimp only
      rw [if_pos rfl, if_pos rfl]
      exact ⟨hT _ _ _ _ _ _, hT _ _ _ _ _ _⟩
    · obtain ⟨h1, h2⟩ := dB_k (b := b) (c := c) (N := N) (set := set) (n := n) (T := T) q
      rw [h1, h2]
      exact ih j q
theorem gB_R {p : (Nat → Int32) × (Nat → Int32)} {m j : Nat} (hR : Rg N j) (hp : ∀ i, i ≤ m → q_R3 (p.1 i) ∧ q_R3 (p.2 i)) : q_R3 (gB N set p m j) := by
  unfold gB
  split
  · exact sgn_R hR (fun i hi => (hp i hi).2)
  · exact sgn_R hR (fun i hi => (hp i hi).1)
/-- the class's counts of a minute -/
theorem k_bothL {m : Nat} {p : (Nat → Int32) × (Nat → Int32)} (hF : JF n M) (h1 : TW M 9 m p.1) (h2 : TW M 11 m p.2) (hp : ∀ i, i ≤ m → q_R3 (p.1 i) ∧ q_R3 (p.2 i)) : ∀ j i k M', i + j = n → Fr [13] M M' → (∀ v, v < 4 → M'.1 13 v = nI (cn (gB (M.1 6) set p m) (nI v) i)) → ∃ M2, qF sl sx (d + 2) 143 (k + j) 48 [some (.ref 4), none, some (.int x), some (.int set), some (.int (nI (m + 1))), some (.int (nI i))] [] M' = qF sl sx (d + 2) 143 k 48 [some (.ref 4), none, some (.int x), some (.int set), some (.int (nI (m + 1))), some (.int (nI n))] [] M2 ∧ Fr [13] M M2 ∧ ∀ v, v < 4 → M2.1 13 v = nI (cn (gB (M.1 6) set p m) (nI v) n) := by
  intro j
  have hn := hF.1
  have hm := h1.2.2.1
  induction j with
  | zero =>
    intro i k M' hi f hc
    have : i = n := by omega
    subst this
    exact ⟨M', rfl, f, hc⟩
  | succ j ih =>
    intro i k M' hi f hc
    have hil : i < n := by omega
    have hF' := jF_fr rfl f hF
    have e6 : M'.1 6 = M.1 6 := funext fun k => f.1 6 k rfl
    have t9 : TW M' 9 m p.1 := tw_fr (fun k => f.1 9 k rfl) (fun k => f.1 10 k rfl) h1
    have t11 : TW M' 11 m p.2 := tw_fr (fun k => f.1 11 k rfl) (fun k => f.1 12 k rfl) h2
    have hg : q_R3 (gB (M.1 6) set p m i) := gB_R (hF.2.2.2.1 i hil) hp
    have g4 : (gB (M.1 6) set p m i).toInt.toNat < 4 := by have := hg.2; omega
    obtain ⟨M2, c1, c2, c3⟩ := ih (i + 1) k (q_up M'.1 13 (gB (M.1 6) set p m i).toInt.toNat (M'.1 13 (gB (M.1 6) set p m i).toInt.toNat + 1), M'.2) (by omega) (fr_up rfl f) (fun v hv => by
      show q_up M'.1 13 _ _ 13 v = _
      rw [cn]
      by_cases q : v = (gB (M.1 6) set p m i).toInt.toNat
      · rw [← q, q_up_s, hc v hv, nI_1, if_pos]
        rw [q]
        exact q_ofN hg.1
      · rw [q_up_k _ _ _ _ q, hc v hv, if_neg]
        · rfl
        · intro e
          apply q
          have e2 : gB (M.1 6) set p m i = nI v := e
          rw [e2, nI_toInt (by omega), Int.toNat_natCast])
    refine ⟨M2, ?_, c2, c3⟩
    rw [show k + (j + 1) = k + j + 1 by omega, b_X8_ringBoth_48, hF'.2.1, if_neg (nI_ge hil (by omega)), nI_pred]
    have ka := k_addSign (sl := sl) (sx := sx) (d := d + 1) (M := M') (y := 1) hg
    by_cases q : bt set i
    · rw [if_pos q]
      have kd := k_doing (sl := sl) (sx := sx) (d := d) (f := 5) (t := 11) (Or.inl rfl) (Or.inr (Or.inl rfl)) t11 (Nat.le_refl m) (show i < 10 by omega) (hF'.2.2.2.1 i hil)
      rw [show 5 + 1 = 6 from rfl, e6] at kd
      have eg : gB (M.1 6) set p m i = sgn (M.1 6) i m p.2 := if_pos q
      rw [← eg] at kd
      rw [kd, q_bi_s, ka, q_bv_s, nI_1]
      exact c1
    · rw [if_neg q]
      have kd := k_doing (sl := sl) (sx := sx) (d := d) (f := 5) (t := 9) (Or.inl rfl) (Or.inl rfl) t9 (Nat.le_refl m) (show i < 10 by omega) (hF'.2.2.2.1 i hil)
      rw [show 5 + 1 = 6 from rfl, e6] at kd
      have eg : gB (M.1 6) set p m i = sgn (M.1 6) i m p.1 := if_neg q
      rw [← eg] at kd
      rw [kd, q_bi_s, ka, q_bv_s, nI_1]
      exact c1
theorem k_ringBoth {l : Nat} (hF : JF n M) (hl : l ≤ 300) (hc : q_R3 (x - x / 10 * 10)) : ∃ M', qK sl sx (d + 7) 143 [.ref 4, .int x, .int (nI l)] M = some (none, M') ∧ Fr [9, 10, 11, 12, 13, 1703, 19] M M' ∧ TW M' 9 l (dB (M.1 6 51) (x - x / 10 * 10) (M.1 6) (x / 10) n (ST M) l).1 ∧ TW M' 11 l (dB (M.1 6 51) (x - x / 10 * 10) (M.1 6) (x / 10) n (ST M) l).2 := by
  have hn := hF.1
  have hb : q_R3 (M.1 6 51) := (jf_FD hF).2.2.2.2
  obtain ⟨P, eP⟩ : ∃ P, P = dB (M.1 6 51) (x - x / 10 * 10) (M.1 6) (x / 10) n (ST M) := ⟨_, rfl⟩
  have PR : ∀ m i, i ≤ m → q_R3 ((P m).1 i) ∧ q_R3 ((P m).2 i) := by
    rw [eP]
    exact fun m => dB_R hb hc (st_T M) m
  have Pk : ∀ m j, j ≤ m → (P (m + 1)).1 j = (P m).1 j ∧ (P (m + 1)).2 j = (P m).2 j := by
    rw [eP]
    exact fun m j hj => dB_k hj
  have Ps : ∀ m, (P (m + 1)).1 (m + 1) = ST M (cn (gB (M.1 6) (x / 10) (P m) m) (nI 1) n) (cn (gB (M.1 6) (x / 10) (P m) m) (nI 2) n) (cn (gB (M.1 6) (x / 10) (P m) m) (nI 3) n) ((P m).1 m) (lr (P m).1 m) (m + 1) ∧ (P (m + 1)).2 (m + 1) = ST M (cn (gB (M.1 6) (x / 10) (P m) m) (nI 1) n) (cn (gB (M.1 6) (x / 10) (P m) m) (nI 2) n) (cn (gB (M.1 6) (x / 10) (P m) m) (nI 3) n) ((P m).2 m) (lr (P m).2 m) (m + 1) := by
    intro m
    rw [eP, dB]
    dsimp only
    rw [if_pos rfl, if_pos rfl]
    exact ⟨rfl, rfl⟩
  obtain ⟨M1, a1, a2, a3⟩ := k_beginT (sl := sl) (sx := sx) (d := d + 5) (M := M) (t := 9) (D := (P 0).1) (x := M.1 6 51) (Or.inl rfl) (by rw [eP]; rfl)
  obtain ⟨M2, b1, b2, b3⟩ := k_beginT (sl := sl) (sx := sx) (d := d + 5) (M := M1) (t := 11) (D := (P 0).2) (x := x - x / 10 * 10) (Or.inr (Or.inl rfl)) (by rw [eP]; rfl)
  have f2 : Fr [9, 10, 11, 12, 13, 1703, 19] M M2 := fr_t2 rfl rfl a2 b2
  have c6 := k_common6 (sl := sl) (sx := sx) (d := d + 4) (f := 5) (M := M) (Or.inl rfl)
  rw [e_X8_ringBoth, b_X8_ringBoth_0, c6, q_bi_s, a1, q_bv_s, b1, q_bv_s, ← eP]
  have main : ∀ j m k M', m + 1 + j = l + 1 → 14 * (j + 1) < k → Fr [9, 10, 11, 12, 13, 1703, 19] M M' → TW M' 9 m (P m).1 → TW M' 11 m (P m).2 → ∃ M3, qF sl sx (d + 6) 143 k 35 [some (.ref 4), none, some (.int (nI l)), some (.int (x / 10)), some (.int (nI (m + 1))), none] [] M' = some (none, M3) ∧ Fr [9, 10, 11, 12, 13, 1703, 19] M M3 ∧ TW M3 9 l (P l).1 ∧ TW M3 11 l (P l).2 := by
    intro j
    induction j with
    | zero =>
      intro m k M' hm hk f t9 t11
      have : m = l := by omega
      subst this
      obtain ⟨k, rfl⟩ : ∃ k', k = k' + 1 := ⟨k - 1, by omega⟩
      refine ⟨M', ?_, f, t9, t11⟩
      rw [b_X8_ringBoth_35, if_pos (nI_lt (by omega) (by omega))]
    | succ j ih =>
      intro m k M' hm hk f t9 t11
      obtain ⟨k, rfl⟩ : ∃ k', k = k' + 1 + n + 1 := ⟨k - n - 2, by omega⟩
      have hF' := jF_fr rfl f hF
      have e6 : M'.1 6 = M.1 6 := funext fun k => f.1 6 k rfl
      have es : ST M' = ST M := st_fr (f.1 17 1 rfl) (funext fun k => f.1 18 k rfl) (f.1 6 50 rfl)
      obtain ⟨N1, c1, c2, c3⟩ := k_clearSigns (sl := sl) (sx := sx) (d := d + 5) (M := M')
      have hF1 := jF_fr rfl c2 hF'
      have s9 : TW N1 9 m (P m).1 := tw_fr (fun k => c2.1 9 k rfl) (fun k => c2.1 10 k rfl) t9
      have s11 : TW N1 11 m (P m).2 := tw_fr (fun k => c2.1 11 k rfl) (fun k => c2.1 12 k rfl) t11
      have e61 : N1.1 6 = M.1 6 := (funext fun k => c2.1 6 k rfl : N1.1 6 = M'.1 6).trans e6
      obtain ⟨N2, g1, g2, g3⟩ := k_bothL (sl := sl) (sx := sx) (d := d + 4) (set := x / 10) (x := nI l) hF1 s9 s11 (PR m) n 0 (k + 1) N1 (by omega) fr_rf (fun v hv => by rw [c3 v hv]; rfl)
      rw [e61] at g3
      have f2 : Fr [13] M' N2 := fr_tr c2 g2
      have r9 : TW N2 9 m (P m).1 := tw_fr (fun k => f2.1 9 k rfl) (fun k => f2.1 10 k rfl) t9
      have q50 : N2.1 (5 + 1) 50 = N2.1 6 50 := rfl
      have es2 : ST N2 = ST M := (st_fr (f2.1 17 1 rfl) (funext fun k => f2.1 18 k rfl) (f2.1 6 50 rfl)).trans es
      obtain ⟨N3, h1, h2⟩ := k_nextStroke (sl := sl) (sx := sx) (d := d + 1) (f := 5) (t := 9) (M := N2) (Or.inl rfl) (Or.inl rfl) r9 (c := fun v => cn (gB (M.1 6) (x / 10) (P m) m) (nI v) n) g3 (fun v => by have := cn_le (gB (M.1 6) (x / 10) (P m) m) (nI v) n; omega) q50
      rw [es2, ← (Ps m).1] at h1
      have r9' : TW N3 9 m (P m).1 := tw_fr (fun k => h2.1 9 k rfl) (fun k => h2.1 10 k rfl) r9
      obtain ⟨N4, i1, i2, i3⟩ := k_addT (sl := sl) (sx := sx) (d := d + 4) (t := 9) (M := N3) (h' := (P (m + 1)).1) (x := (P (m + 1)).1 (m + 1)) (Or.inl rfl) r9' (by omega) (fun j hj => (Pk m j hj).1) rfl
      have f4 : Fr [9, 10, 11, 12, 13, 1703, 19] N2 N4 := fr_t2 rfl rfl h2 i2
      have f24 : Fr [9, 10, 1703, 19] N2 N4 := fr_t2 rfl rfl h2 i2
      have r11 : TW N4 11 m (P m).2 := tw_fr (fun k => (f24.1 11 k rfl).trans (f2.1 11 k rfl)) (fun k => (f24.1 12 k rfl).trans (f2.1 12 k rfl)) t11
      have es4 : ST N4 = ST M := (st_fr (f24.1 17 1 rfl) (funext fun k => f24.1 18 k rfl) (f24.1 6 50 rfl)).trans es2
      obtain ⟨N5, j1, j2⟩ := k_nextStroke (sl := sl) (sx := sx) (d := d + 1) (f := 5) (t := 11) (M := N4) (Or.inl rfl) (Or.inr (Or.inl rfl)) r11 (c := fun v => cn (gB (M.1 6) (x / 10) (P m) m) (nI v) n) (fun v hv => (f24.1 13 v rfl).trans (g3 v hv)) (fun v => by have := cn_le (gB (M.1 6) (x / 10) (P m) m) (nI v) n; omega) rfl
      rw [es4, ← (Ps m).2] at j1
      have r11' : TW N5 11 m (P m).2 := tw_fr (fun k => j2.1 11 k rfl) (fun k => j2.1 12 k rfl) r11
      obtain ⟨N6, o1, o2, o3⟩ := k_addT (sl := sl) (sx := sx) (d := d + 4) (t := 11) (M := N5) (h' := (P (m + 1)).2) (x := (P (m + 1)).2 (m + 1)) (Or.inr (Or.inl rfl)) r11' (by omega) (fun j hj => (Pk m j hj).2) rfl
      have f46 : Fr [11, 12, 1703, 19] N4 N6 := fr_t2 rfl rfl j2 o2
      have t9' : TW N6 9 (m + 1) (P (m + 1)).1 := tw_fr (fun k => f46.1 9 k rfl) (fun k => f46.1 10 k rfl) i3
      obtain ⟨M3, z1, z2⟩ := ih (m + 1) k N6 (by omega) (by omega) (fr_tr (fr_tr f (fr_mo rfl f2)) (fr_t2 rfl rfl f4 f46)) t9' o3
      refine ⟨M3, ?_, z2⟩
      rw [b_X8_ringBoth_35, if_neg (nI_nlt (by omega) (by omega)), c1, q_bv_s]
      show qF sl sx (d + 6) 143 (k + 1 + n) 48 [some (.ref 4), none, some (.int (nI l)), some (.int (x / 10)), some (.int (nI (m + 1))), some (.int (nI 0))] [] N1 = _
      rw [g1, b_X8_ringBoth_48, (jF_fr rfl g2 hF1).2.1, if_pos (Int32.le_refl _), h1, q_bi_s, i1, q_bv_s, j1, q_bi_s, o1, q_bv_s, nI_1]
      exact z1
  obtain ⟨M3, z1, z2, z3, z4⟩ := main l 0 q_n1 M2 (by omega) (q_n1b (by omega)) f2 (tw_fr (fun k => b2.1 9 k rfl) (fun k => b2.1 10 k rfl) a3) b3
  exact ⟨M3, z1, z2, z3, z4⟩
theorem k9_goesBoth {l : Nat} (hF : JF n M) (hL : JL M) (hl : l ≤ 300) (hc : q_R3 (x - x / 10 * 10)) : ∃ M', qK sl sx (d + 204) 216 [.ref 48, .int x, .int (nI l)] M = some (none, M') ∧ Fr kY M M' ∧ ∀ j, j ≤ l → M'.1 61 j = (dB (M.1 6 51) (x - x / 10 * 10) (M.1 6) (x / 10) n (ST M) l).1 j ∧ M'.1 62 j = (dB (M.1 6 51) (x - x / 10 * 10) (M.1 6) (x / 10) n (ST M) l).2 j := by
  have hn := hF.1
  have hb : q_R3 (M.1 6 51) := (jf_FD hF).2.2.2.2
  obtain ⟨P, eP⟩ : ∃ P, P = dB (M.1 6 51) (x - x / 10 * 10) (M.1 6) (x / 10) n (ST M) := ⟨_, rfl⟩
  have PR : ∀ m i, i ≤ m → q_R3 ((P m).1 i) ∧ q_R3 ((P m).2 i) := by
    rw [eP]
    exact fun m => dB_R hb hc (st_T M) m
  have Pk : ∀ m j, j ≤ m → (P (m + 1)).1 j = (P m).1 j ∧ (P (m + 1)).2 j = (P m).2 j := by
    rw [eP]
    exact fun m j hj => dB_k hj
  have Ps : ∀ m, (P (m + 1)).1 (m + 1) = ST M (cn (gB (M.1 6) (x / 10) (P m) m) (nI 1) n) (cn (gB (M.1 6) (x / 10) (P m) m) (nI 2) n) (cn (gB (M.1 6) (x / 10) (P m) m) (nI 3) n) ((P m).1 m) (lr (P m).1 m) (m + 1) ∧ (P (m + 1)).2 (m + 1) = ST M (cn (gB (M.1 6) (x / 10) (P m) m) (nI 1) n) (cn (gB (M.1 6) (x / 10) (P m) m) (nI 2) n) (cn (gB (M.1 6) (x / 10) (P m) m) (nI 3) n) ((P m).2 m) (lr (P m).2 m) (m + 1) := by
    intro m
    rw [eP, dB]
    dsimp only
    rw [if_pos rfl, if_pos rfl]
    exact ⟨rfl, rfl⟩
  obtain ⟨M1, a1, a2, a3, a4, a5, a6⟩ := k9_plain (sl := sl) (sx := sx) (d := d + 202) (M := M)
  obtain ⟨M2, e2⟩ : ∃ M2, M2 = ((q_up (q_up (q_up M1.1 48 34 (x / 10)) 61 0 (M1.1 48 2)) 62 0 (x - x / 10 * 10), M1.2) : QM) := ⟨_, rfl⟩
  have g2 : Fr [4830, 4831, 4834, 65, 61, 62] M M2 := by
    rw [e2]
    exact fr_up rfl (fr_up rfl (fr_up rfl (fr_mo rfl a2)))
  have m30 : M2.1 48 30 = 0 := by
    rw [e2]
    dsimp only
    simp (disch := omega) only [q_up_s, q_up_a, q_up_k, q_uc_a, q_uc_s]
    exact a3
  have m31 : M2.1 48 31 = -1 := by
    rw [e2]
    dsimp only
    simp (disch := omega) only [q_up_s, q_up_a, q_up_k, q_uc_a, q_uc_s]
    exact a4
  have m34 : M2.1 48 34 = x / 10 := by
    rw [e2]
    dsimp only
    simp (disch := omega) only [q_up_s, q_up_a, q_up_k, q_uc_a, q_uc_s]
  have m61 : M2.1 61 0 = (P 0).1 0 := by
    rw [e2]
    dsimp only
    simp (disch := omega) only [q_up_s, q_up_a, q_up_k, q_uc_a, q_uc_s]
    rw [a2.1 48 2 rfl, ← hF.2.2.2.2.2.2.2.1, eP]
    rfl
  have m62 : M2.1 62 0 = (P 0).2 0 := by
    rw [e2]
    dsimp only
    simp (disch := omega) only [q_up_s, q_up_a, q_up_k, q_uc_a, q_uc_s]
    rw [eP]
    rfl
  have m65 : ∀ m, m ≤ 300 → M2.1 65 m = 0 := fun m hm => by
    rw [e2]
    dsimp only
    rw [q_up_a _ _ _ _ (by decide), q_up_a _ _ _ _ (by decide), q_up_a _ _ _ _ (by decide)]
    exact a6 m hm
  have hF2 := jF_fr rfl g2 hF
  have hL2 := jL_fr rfl g2 hL
  have e6 : M2.1 6 = M.1 6 := funext fun k => g2.1 6 k rfl
  have es : ST M2 = ST M := st_fr (g2.1 17 1 rfl) (funext fun k => g2.1 18 k rfl) (g2.1 6 50 rfl)
  rw [e_X9_goesBoth, b_X9_goesBoth_0, a1, q_bv_s, ← e2, ← eP]
  have lp : ∃ M', qF sl sx (d + 203) 216 q_n1 34 [some (.ref 48), none, some (.int (nI l)), some (.int (nI 1))] [] M2 = some (none, M') ∧ Fr [61, 62, 66, 60, 4822] M2 M' ∧ ∀ j, j ≤ l → M'.1 61 j = (P l).1 j ∧ M'.1 62 j = (P l).2 j := by
    refine q_lu (fun k i (_ : Unit) M' => qF sl sx (d + 203) 216 k 34 [some (.ref 48), none, some (.int (nI l)), some (.int (nI i))] [] M') (l + 1) (fun i _ M' => 1 ≤ i ∧ Fr [61, 62, 66, 60, 4822] M2 M' ∧ ∀ j, j < i → M'.1 61 j = (P (i - 1)).1 j ∧ M'.1 62 j = (P (i - 1)).2 j) (fun o => ∃ M', o = some (none, M') ∧ Fr [61, 62, 66, 60, 4822] M2 M' ∧ ∀ j, j ≤ l → M'.1 61 j = (P l).1 j ∧ M'.1 62 j = (P l).2 j) (fun k i _ M' hi hI => ?_) (fun k _ M' hI => ?_) (i := 1) (s := ()) (by omega) (q_n1b (by omega)) ⟨Nat.le_refl 1, fr_rf, fun j hj => ?_⟩
    · obtain ⟨i1, i2, i3⟩ := hI
      right
      obtain ⟨m, rfl⟩ : ∃ m, i = m + 1 := ⟨i - 1, by omega⟩
      rw [Nat.add_sub_cancel] at i3
      have hF' := jF_fr rfl i2 hF2
      have hL' := jL_fr rfl i2 hL2
      have es' : ST M' = ST M := (st_fr (i2.1 17 1 rfl) (funext fun k => i2.1 18 k rfl) (i2.1 6 50 rfl)).trans es
      have e6' : M'.1 6 = M.1 6 := (funext fun k => i2.1 6 k rfl : M'.1 6 = M2.1 6).trans e6
      have eg : ∀ j, j < n → rG M' (P m).1 (M'.1 62) m j = gB (M.1 6) (x / 10) (P m) m j := by
        intro j hj
        unfold rG gB
        have n31 : ¬ (nI j = M'.1 48 31 ∧ nI m = M'.1 48 32) := by
          rintro ⟨q, _⟩
          rw [i2.1 48 31 rfl, m31] at q
          have := nI_pos (n := j) (by omega)
          rw [q] at this
          exact this (by decide)
        rw [if_pos ((i2.1 65 m rfl).trans (m65 m (by omega))), if_neg n31, i2.1 48 30 rfl, m30, if_neg (bt_0 j (by omega)), i2.1 48 34 rfl, m34, jf_sgn hF' hj, jf_sgn hF' hj, e6']
        by_cases q : bt (x / 10) j
        · rw [if_pos q, if_pos q]
          exact sgn_congr rfl rfl rfl rfl rfl (fun i hi => (i3 i (by omega)).2)
        · rw [if_neg q, if_neg q]
      obtain ⟨N1, c1, c2, c3⟩ := k9_counts (sl := sl) (sx := sx) (d := d + 199) (M := M') (m := m) (h := (P m).1) (by omega) (fun j hj => (i3 j (by omega)).1) hn hF'.2.2.1 (fun j hj => jf_RgR hF' hj) (fun j hj => by rw [eg j hj]; exact gB_R (hF.2.2.2.1 j hj) (PR m))
      have c3' : ∀ v, v < 4 → N1.1 66 v = nI (cn (gB (M.1 6) (x / 10) (P m) m) (nI v) n) := fun v hv => by rw [c3 v hv, cn_congr (nI v) n eg]
      have es1 : ST N1 = ST M := (st_fr (c2.1 17 1 rfl) (funext fun k => c2.1 18 k rfl) (c2.1 6 50 rfl)).trans es'
      have hF1 := jF_fr rfl c2 hF'
      obtain ⟨N2, h1, h2⟩ := k9_rungNext (sl := sl) (sx := sx) (d := d + 2) (a := 61) (M := N1) (m := m) (h := (P m).1) (Or.inl rfl) (by omega) (fun j hj => (c2.1 61 j rfl).trans (i3 j (by omega)).1) (c := fun v => cn (gB (M.1 6) (x / 10) (P m) m) (nI v) n) c3' (fun v => by have := cn_le (gB (M.1 6) (x / 10) (P m) m) (nI v) n; omega) hF1.2.2.2.2.2.2.1.symm (jL_fr rfl c2 hL')
      rw [es1, ← (Ps m).1] at h1
      obtain ⟨N3, e3⟩ : ∃ N3, N3 = ((q_up N2.1 61 (m + 1) ((P (m + 1)).1 (m + 1)), N2.2) : QM) := ⟨_, rfl⟩
      have f3 : Fr [60, 61, 4822] N1 N3 := by
        rw [e3]
        exact fr_up rfl (fr_mo rfl h2)
      have es3 : ST N3 = ST M := (st_fr (f3.1 17 1 rfl) (funext fun k => f3.1 18 k rfl) (f3.1 6 50 rfl)).trans es1
      have f03 : Fr [61, 66, 60, 4822] M' N3 := fr_t2 rfl rfl c2 f3
      obtain ⟨N4, j1, j2⟩ := k9_rungNext (sl := sl) (sx := sx) (d := d + 2) (a := 62) (M := N3) (m := m) (h := (P m).2) (Or.inr (Or.inl rfl)) (by omega) (fun j hj => (f03.1 62 j rfl).trans (i3 j (by omega)).2) (c := fun v => cn (gB (M.1 6) (x / 10) (P m) m) (nI v) n) (fun v hv => (f3.1 66 v rfl).trans (c3' v hv)) (fun v => by have := cn_le (gB (M.1 6) (x / 10) (P m) m) (nI v) n; omega) (jF_fr rfl f3 hF1).2.2.2.2.2.2.1.symm (jL_fr rfl f3 (jL_fr rfl c2 hL'))
      rw [es3, ← (Ps m).2] at j1
      refine ⟨(), (q_up N4.1 62 (m + 1) ((P (m + 1)).2 (m + 1)), N4.2), ⟨by omega, fr_up rfl (fr_tr i2 (fr_t2 rfl rfl f03 j2)), fun j hj => ?_⟩, ?_⟩
      · rw [Nat.add_sub_cancel]
        dsimp only
        rw [q_up_a _ _ _ _ (by decide), j2.1 61 j rfl, e3]
        dsimp only
        by_cases q : j = m + 1
        · rw [q, q_up_s, q_up_s]
          exact ⟨rfl, rfl⟩
        · rw [q_up_k _ _ _ _ q, q_up_k _ _ _ _ q, h2.1 61 j rfl, c2.1 61 j rfl, j2.1 62 j rfl, f03.1 62 j rfl]
          obtain ⟨u1, u2⟩ := i3 j (by omega)
          obtain ⟨w1, w2⟩ := Pk m j (by omega)
          exact ⟨u1.trans w1.symm, u2.trans w2.symm⟩
      · rw [b_X9_goesBoth_34, if_neg (nI_nlt (by omega) (by omega)), nI_pred]
        show q_bv (qK sl sx (d + 199 + 4) 194 [.ref 48, .int (nI m)] M') _ = _
        rw [c1, q_bv_s]
        show q_bi (qK sl sx (d + 2 + 201) 195 [.ref 48, .ref 61, .int (nI (m + 1))] N1) _ = _
        rw [h1, q_bi_s, if_neg (nI_in (by omega) (by decide)), nI_clamp (by omega), ← e3]
        show q_bi (qK sl sx (d + 2 + 201) 195 [.ref 48, .ref 62, .int (nI (m + 1))] N3) _ = _
        rw [j1, q_bi_s, if_neg (show ¬ (nI (m + 1) < 0 ∨ 301 ≤ m + 1) by have q1 : ¬ (nI (m + 1) < 0 ∨ 301 ≤ (nI (m + 1)).toNatClampNeg) := nI_in (by omega) (by decide); rw [nI_clamp (by omega)] at q1; exact q1), nI_1]
    · obtain ⟨i1, i2, i3⟩ := hI
      refine ⟨M', ?_, i2, fun j hj => i3 j (by omega)⟩
      rw [b_X9_goesBoth_34, if_pos (nI_lt (by omega) (by omega))]
    · have : j = 0 := by omega
      subst this
      exact ⟨m61, m62⟩
  obtain ⟨M3, z1, z2, z3⟩ := lp
  exact ⟨M3, z1, fr_t2 rfl rfl g2 z2, z3⟩
abbrev isCh (n : Nat) (x : Int32) : Prop := 0 ≤ x.toInt ∧ x / 10 < nI (2 ^ n) ∧ (x - x / 10 * 10).toInt ≤ 3
theorem ch_R (h : isCh n x) : q_R3 (x - x / 10 * 10) := by
  have := (dg10 h.1).2
  exact ⟨by omega, h.2.2⟩
theorem k_isChurch (hF : JF n M) : qK sl sx (d + 1) 142 [.ref 4, .int x] M = some (some (.int (if isCh n x then 1 else 0)), M) := by
  obtain ⟨p1, p2⟩ := sh2 hF.1
  rw [e_X8_isChurch, b_X8_isChurch_0, hF.2.1, p1]
  by_cases c1 : x < 0
  · rw [if_pos c1, if_neg]
    rintro ⟨q, _⟩
    rw [Int32.lt_iff_toInt_lt, qv_0] at c1
    omega
  · rw [if_neg c1]
    rw [Int32.lt_iff_toInt_lt, qv_0] at c1
    by_cases c2 : nI (2 ^ n) ≤ x / 10
    · rw [if_pos c2, if_neg]
      rintro ⟨_, q, _⟩
      rw [Int32.lt_iff_toInt_lt] at q
      rw [Int32.le_iff_toInt_le] at c2
      omega
    · rw [if_neg c2]
      rw [Int32.le_iff_toInt_le] at c2
      by_cases c3 : 3 < x - x / 10 * 10
      · rw [if_pos c3, if_neg]
        rintro ⟨_, _, q⟩
        rw [Int32.lt_iff_toInt_lt, show (3 : Int32).toInt = 3 by decide] at c3
        omega
      · rw [if_neg c3, if_pos]
        rw [Int32.lt_iff_toInt_lt, show (3 : Int32).toInt = 3 by decide] at c3
        exact ⟨by omega, by rw [Int32.lt_iff_toInt_lt]; omega, by omega⟩
theorem k9_isChurch (hF : JF n M) : qK sl sx (d + 1) 217 [.ref 48, .int x] M = some (some (.int (if isCh n x then 1 else 0)), M) := by
  obtain ⟨p1, p2⟩ := sh2 hF.1
  rw [e_X9_isChurch, b_X9_isChurch_0, hF.2.2.1, p1]
  by_cases c1 : x < 0
  · rw [if_pos c1, if_neg]
    rintro ⟨q, _⟩
    rw [Int32.lt_iff_toInt_lt, qv_0] at c1
    omega
  · rw [if_neg c1]
    rw [Int32.lt_iff_toInt_lt, qv_0] at c1
    by_cases c3 : 3 < x - x / 10 * 10
    · rw [if_pos c3, if_neg]
      rintro ⟨_, _, q⟩
      rw [Int32.lt_iff_toInt_lt, show (3 : Int32).toInt = 3 by decide] at c3
      omega
    · rw [if_neg c3]
      rw [Int32.lt_iff_toInt_lt, show (3 : Int32).toInt = 3 by decide] at c3
      by_cases c2 : nI (2 ^ n) ≤ x / 10
      · rw [if_pos c2, if_neg]
        rintro ⟨_, q, _⟩
        rw [Int32.lt_iff_toInt_lt] at q
        rw [Int32.le_iff_toInt_le] at c2
        omega
      · rw [if_neg c2, if_pos]
        rw [Int32.le_iff_toInt_le] at c2
        exact ⟨by omega, by rw [Int32.lt_iff_toInt_lt]; omega, by omega⟩
theorem p_church (x y z : Int32) : QPi sl sx JA 99 218 [.int x, .int y, .int z] := by
  intro M hJ
  obtain ⟨n, b, hF, hT, hL, hC, hD, hK, hS, hH⟩ := id hJ
  by_cases q : isCh n x
  rotate_left
  · refine ⟨-1, M, M, ?_, ?_, hJ⟩
    · rw [e_X8_church, b_X8_church_0, k_isChurch hF, if_neg q, q_bi_s, if_pos rfl]
    · rw [e_X9_church, b_X9_church_0, k9_isChurch hF, if_neg q, q_bi_s, if_pos rfl]
  by_cases r : rg y 300
  rotate_left
  · refine ⟨-1, M, M, ?_, ?_, hJ⟩
    · rw [e_X8_church, b_X8_church_0, k_isChurch hF, if_pos q, q_bi_s, if_neg n10, k_w300, if_neg r, q_bi_s, if_pos rfl]
    · rw [e_X9_church, b_X9_church_0, k9_isChurch hF, if_pos q, q_bi_s, if_neg n10, k9_isMinute, if_neg r, q_bi_s, if_pos rfl]
  by_cases w : rg z 1
  rotate_left
  · refine ⟨-1, M, M, ?_, ?_, hJ⟩
    · rw [e_X8_church, b_X8_church_0, k_isChurch hF, if_pos q, q_bi_s, if_neg n10, k_w300, if_pos r, q_bi_s, if_neg n10, k_w1, if_neg w, q_bi_s, if_pos rfl]
    · rw [e_X9_church, b_X9_church_0, k9_isChurch hF, if_pos q, q_bi_s, if_neg n10, k9_isMinute, if_pos r, q_bi_s, if_neg n10, k9_w1, if_neg w, q_bi_s, if_pos rfl]
  obtain ⟨m, rfl, hm⟩ := rgN300 r
  obtain ⟨M1, a1, a2, a3, a4⟩ := k_ringBoth (sl := sl) (sx := sx) (d := 992) hF hm (ch_R q)
  have f1 : Fr kY M M1 := fr_mo rfl a2
  obtain ⟨M2, b1, b2, b3⟩ := k9_goesBoth (sl := sl) (sx := sx) (d := 795) (jF_fr rfl f1 hF) (jL_fr rfl f1 hL) hm (ch_R q)
  rw [n6_kY f1, st_kY f1] at b3
  by_cases z0 : z = 0
  · refine ⟨(dB (M.1 6 51) (x - x / 10 * 10) (M.1 6) (x / 10) n (ST M) m).1 m, M1, M2, ?_, ?_, ja_kY b2 (ja_kY f1 hJ)⟩
    · rw [e_X8_church, b_X8_church_0, k_isChurch hF, if_pos q, q_bi_s, if_neg n10, k_w300, if_pos r, q_bi_s, if_neg n10, k_w1, if_pos w, q_bi_s, if_neg n10, a1, q_bv_s, if_pos z0, k_atN (Or.inl rfl) a3 (Nat.le_refl m), q_bi_s]
    · rw [e_X9_church, b_X9_church_0, k9_isChurch (jF_fr rfl f1 hF), if_pos q, q_bi_s, if_neg n10, k9_isMinute, if_pos r, q_bi_s, if_neg n10, k9_w1, if_pos w, q_bi_s, if_neg n10, b1, q_bv_s, if_pos z0, if_neg (nI_in (by omega) (by decide)), nI_clamp (by omega), (b3 m (Nat.le_refl m)).1]
  · refine ⟨(dB (M.1 6 51) (x - x / 10 * 10) (M.1 6) (x / 10) n (ST M) m).2 m, M1, M2, ?_, ?_, ja_kY b2 (ja_kY f1 hJ)⟩
    · rw [e_X8_church, b_X8_church_0, k_isChurch hF, if_pos q, q_bi_s, if_neg n10, k_w300, if_pos r, q_bi_s, if_neg n10, k_w1, if_pos w, q_bi_s, if_neg n10, a1, q_bv_s, if_neg z0, k_atN (Or.inr (Or.inl rfl)) a4 (Nat.le_refl m), q_bi_s]
    · rw [e_X9_church, b_X9_church_0, k9_isChurch (jF_fr rfl f1 hF), if_pos q, q_bi_s, if_neg n10, k9_isMinute, if_pos r, q_bi_s, if_neg n10, k9_w1, if_pos w, q_bi_s, if_neg n10, b1, q_bv_s, if_neg z0, if_neg (nI_in (by omega) (by decide)), nI_clamp (by omega), (b3 m (Nat.le_refl m)).2]
def alS (p : (Nat → Int32) × (Nat → Int32)) : Nat → Int32
  | 0 => 0
  | m + 1 => if p.1 m = p.2 m then alS p m + 1 else alS p m
theorem alS_congr {p p' : (Nat → Int32) × (Nat → Int32)} (k : Nat) (e : ∀ j, j < k → p.1 j = p'.1 j ∧ p.2 j = p'.2 j) : alS p k = alS p' k := by
  induction k with
  | zero => rfl
  | succ k ih => rw [alS, alS, (e k (by omega)).1, (e k (by omega)).2, ih (fun j hj => e j (by omega))]
def alF (p : (Nat → Int32) × (Nat → Int32)) : Nat → Nat
  | 0 => 0
  | k + 1 => if p.1 k = p.2 k then alF p k else k + 1
theorem alF_le (p : (Nat → Int32) × (Nat → Int32)) (k : Nat) : alF p k ≤ k := by
  induction k with
  | zero => exact Nat.le_refl _
  | succ k ih => rw [alF]; split <;> omega
theorem p_alike (x y : Int32) : QPi sl sx JA 100 219 [.int x, .int y] := by
  intro M hJ
  obtain ⟨n, b, hF, hT, hL, hC, hD, hK, hS, hH⟩ := id hJ
  by_cases q : isCh n x
  rotate_left
  · refine ⟨-1, M, M, ?_, ?_, hJ⟩
    · rw [e_X8_alike, b_X8_alike_0, k_isChurch hF, if_neg q, q_bi_s, if_pos rfl]
    · rw [e_X9_alike, b_X9_alike_0, k9_isChurch hF, if_neg q, q_bi_s, if_pos rfl]
  have em : (-1 : Int32).toInt = -1 := by decide
  by_cases y1 : y < -1
  · have : ¬ ((-1 : Int32).toInt ≤ y.toInt ∧ y.toInt ≤ (300 : Int32).toInt) := by
      rw [Int32.lt_iff_toInt_lt] at y1
      omega
    refine ⟨-1, M, M, ?_, ?_, hJ⟩
    · rw [e_X8_alike, b_X8_alike_0, k_isChurch hF, if_pos q, q_bi_s, if_neg n10, if_pos y1]
    · rw [e_X9_alike, b_X9_alike_0, k9_isChurch hF, if_pos q, q_bi_s, if_neg n10, k9_isIn, if_neg this, q_bi_s, if_pos rfl]
  by_cases y2 : y ≤ 300
  rotate_left
  · have : ¬ ((-1 : Int32).toInt ≤ y.toInt ∧ y.toInt ≤ (300 : Int32).toInt) := by
      rw [Int32.le_iff_toInt_le] at y2
      omega
    refine ⟨-1, M, M, ?_, ?_, hJ⟩
    · rw [e_X8_alike, b_X8_alike_0, k_isChurch hF, if_pos q, q_bi_s, if_neg n10, if_neg y1, if_neg y2]
    · rw [e_X9_alike, b_X9_alike_0, k9_isChurch hF, if_pos q, q_bi_s, if_neg n10, k9_isIn, if_neg this, q_bi_s, if_pos rfl]
  have yy : (-1 : Int32).toInt ≤ y.toInt ∧ y.toInt ≤ (300 : Int32).toInt := by
    rw [Int32.le_iff_toInt_le] at y2
    rw [Int32.lt_iff_toInt_lt] at y1
    omega
  obtain ⟨P, eP⟩ : ∃ P, P = dB (M.1 6 51) (x - x / 10 * 10) (M.1 6) (x / 10) n (ST M) := ⟨_, rfl⟩
  have ref : ∀ M1, Fr kY M M1 → ∃ M2, qK sl sx 999 216 [.ref 48, .int x, .int 300] M1 = some (none, M2) ∧ Fr kY M1 M2 ∧ ∀ j, j ≤ 300 → M2.1 61 j = (P 300).1 j ∧ M2.1 62 j = (P 300).2 j := by
    intro M1 f1
    obtain ⟨M2, b1, b2, b3⟩ := k9_goesBoth (sl := sl) (sx := sx) (d := 795) (l := 300) (jF_fr rfl f1 hF) (jL_fr rfl f1 hL) (Nat.le_refl _) (ch_R q)
    rw [n6_kY f1, st_kY f1, ← eP] at b3
    exact ⟨M2, b1, b2, b3⟩
  by_cases y0 : 0 ≤ y
  · have ey : y = nI y.toInt.toNat := q_ofN (by rw [Int32.le_iff_toInt_le, qv_0] at y0; exact y0)
    have hm : y.toInt.toNat ≤ 300 := by have := yy.2; rw [show (300 : Int32).toInt = 300 by decide] at this; omega
    generalize y.toInt.toNat = m at *
    subst ey
    obtain ⟨M1, a1, a2, a3, a4⟩ := k_ringBoth (sl := sl) (sx := sx) (d := 992) hF hm (ch_R q)
    rw [← eP] at a3 a4
    have f1 : Fr kY M M1 := fr_mo rfl a2
    obtain ⟨M2, b1, b2, b3⟩ := ref M1 f1
    have Pe : ∀ j, j < m + 1 → (P 300).1 j = (P m).1 j ∧ (P 300).2 j = (P m).2 j := fun j hj => by
      rw [eP]
      exact dB_le (by omega) hm
    refine ⟨alS (P m) (m + 1), M1, M2, ?_, ?_, ja_kY b2 (ja_kY f1 hJ)⟩
    · rw [e_X8_alike, b_X8_alike_0, k_isChurch hF, if_pos q, q_bi_s, if_neg n10, if_neg y1, if_pos y2, if_pos y0, a1, q_bv_s, if_pos y0]
      refine q_lc (fun k i (a : Int32) => qF sl sx 999 100 k 52 [some (.ref 4), none, some (.int (nI m)), some (.int a), some (.int (nI i))] [] M1) (m + 1) (fun i => alS (P m) i) _ (fun k i hi => ?_) (fun k => ?_) 0 q_n1 (Nat.zero_le _) (q_n1b (by omega))
      · rw [b_X8_alike_52, if_neg (nI_nlt (by omega) (by omega)), k_atN (Or.inl rfl) a3 (show i ≤ m by omega), q_bi_s, k_atN (Or.inr (Or.inl rfl)) a4 (show i ≤ m by omega), q_bi_s, nI_1, alS]
        by_cases c : (P m).1 i = (P m).2 i
        · rw [if_pos c, if_pos c]
        · rw [if_neg c, if_neg c, Int32.add_zero]
      · rw [b_X8_alike_52, if_pos (nI_lt (by omega) (by omega))]
    · rw [e_X9_alike, b_X9_alike_0, k9_isChurch (jF_fr rfl f1 hF), if_pos q, q_bi_s, if_neg n10, k9_isIn, if_pos yy, q_bi_s, if_neg n10, b1, q_bv_s, if_pos y0, ← alS_congr (m + 1) Pe]
      refine q_lc (fun k i (a : Int32) => qF sl sx 999 219 k 78 [some (.ref 48), none, some (.int (nI m)), some (.int a), some (.int (nI i))] [] M2) (m + 1) (fun i => alS (P 300) i) _ (fun k i hi => ?_) (fun k => ?_) 0 q_n1 (Nat.zero_le _) (q_n1b (by omega))
      · have q1 : ¬ (nI i < 0 ∨ 301 ≤ (nI i).toNatClampNeg) := nI_in (by omega) (by decide)
        rw [b_X9_alike_78, if_neg (nI_nlt (by omega) (by omega)), if_neg q1, if_neg q1, nI_clamp (by omega), (b3 i (by omega)).1, (b3 i (by omega)).2, alS]
        by_cases c : (P 300).1 i = (P 300).2 i
        · rw [if_pos c, if_pos c, k9_one, q_bi_s, if_neg n10, nI_1]
        · rw [if_neg c, if_neg c, k9_one, q_bi_s, if_pos rfl, nI_1, Int32.add_zero]
      · rw [b_X9_alike_78, if_pos (nI_lt (by omega) (by omega))]
  · obtain ⟨M1, a1, a2, a3, a4⟩ := k_ringBoth (sl := sl) (sx := sx) (d := 992) (l := 300) hF (Nat.le_refl _) (ch_R q)
    rw [← eP] at a3 a4
    have f1 : Fr kY M M1 := fr_mo rfl a2
    obtain ⟨M2, b1, b2, b3⟩ := ref M1 f1
    have cl : ∀ k N, k ≤ 301 → k < N → qF sl sx 998 144 N 4 [some (.ref 4), some (.int (nI k))] [] M1 = some (some (.int (enV (alF (P 300) k))), M1) := by
      intro k
      induction k with
      | zero =>
        intro N _ hN
        obtain ⟨N, rfl⟩ : ∃ N', N = N' + 1 := ⟨N - 1, by omega⟩
        rw [b_X8_alikeFrom_4, if_pos (by decide), if_pos (by decide)]
        rfl
      | succ k ih =>
        intro N hk hN
        obtain ⟨N, rfl⟩ : ∃ N', N = N' + 1 := ⟨N - 1, by omega⟩
        rw [b_X8_alikeFrom_4, if_neg (nI_nle (by omega) (by omega)), nI_pred, k_atN (Or.inl rfl) a3 (show k ≤ 300 by omega), q_bi_s, k_atN (Or.inr (Or.inl rfl)) a4 (show k ≤ 300 by omega), q_bi_s, alF]
        by_cases c : (P 300).1 k = (P 300).2 k
        · rw [if_pos c, if_pos c, pk_m1]
          exact ih N (by omega) (by omega)
        · rw [if_neg c, if_neg c]
          unfold enV
          by_cases w : k + 1 ≤ 300
          · rw [if_pos (show nI (k + 1) ≤ 300 by rw [Int32.le_iff_toInt_le, nI_toInt (by omega), qv_300]; omega), if_pos w]
          · rw [if_neg (show ¬ nI (k + 1) ≤ 300 by rw [Int32.le_iff_toInt_le, nI_toInt (by omega), qv_300]; omega), if_neg w]
    have rf : ∀ k N, k ≤ 301 → k < N → qF sl sx 999 219 N 38 [some (.ref 48), none, none, some (.int (nI k)), none] [] M2 = some (some (.int (enV (alF (P 300) k))), M2) := by
      intro k
      induction k with
      | zero =>
        intro N _ hN
        obtain ⟨N, rfl⟩ : ∃ N', N = N' + 1 := ⟨N - 1, by omega⟩
        rw [b_X9_alike_38, if_pos (by decide), k9_endOr (by omega), q_bi_s]
        rfl
      | succ k ih =>
        intro N hk hN
        obtain ⟨N, rfl⟩ : ∃ N', N = N' + 1 := ⟨N - 1, by omega⟩
        have q1 : ¬ (nI k < 0 ∨ 301 ≤ (nI k).toNatClampNeg) := nI_in (by omega) (by decide)
        rw [b_X9_alike_38, if_neg (nI_nle (by omega) (by omega)), nI_pred, if_neg q1, if_neg q1, nI_clamp (by omega), (b3 k (by omega)).1, (b3 k (by omega)).2, alF]
        by_cases c : (P 300).1 k = (P 300).2 k
        · rw [if_pos c, if_pos c, pk_m1]
          exact ih N (by omega) (by omega)
        · rw [if_neg c, if_neg c, k9_endOr (by omega), q_bi_s]
    refine ⟨enV (alF (P 300) 301), M1, M2, ?_, ?_, ja_kY b2 (ja_kY f1 hJ)⟩
    · rw [e_X8_alike, b_X8_alike_0, k_isChurch hF, if_pos q, q_bi_s, if_neg n10, if_neg y1, if_pos y2, if_neg y0]
      show q_bv (qK sl sx 999 143 [.ref 4, .int x, .int (nI 300)] M) _ = _
      rw [a1, q_bv_s, if_neg y0, e_X8_alikeFrom, b_X8_alikeFrom_0]
      show q_bi (qF sl sx 998 144 q_n1 4 [some (.ref 4), some (.int (nI 301))] [] M1) _ = _
      rw [cl 301 q_n1 (Nat.le_refl _) (q_n1b (by decide)), q_bi_s]
    · rw [e_X9_alike, b_X9_alike_0, k9_isChurch (jF_fr rfl f1 hF), if_pos q, q_bi_s, if_neg n10, k9_isIn, if_pos yy, q_bi_s, if_neg n10, b1, q_bv_s, if_neg y0]
      exact rf 301 q_n1 (Nat.le_refl _) (q_n1b (by decide))
end CHURCH
