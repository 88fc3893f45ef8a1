/-! PAIR: drawn (wip/whole/f) -/
theorem dg100 {x : Int32} (h : 0 ≤ x.toInt) : (x / 100).toInt = x.toInt / 100 ∧ (x - x / 100 * 100).toInt = x.toInt % 100 := by
  have hx := x.toInt_lt
  have e10 : (100 : Int32).toInt = 100 := by decide
  have e1 : (x / 100).toInt = x.toInt / 100 := by
    rw [Int32.toInt_div, e10, Int.tdiv_eq_ediv_of_nonneg h, Int.bmod_eq_of_le (by omega) (by omega)]
  refine ⟨e1, ?_⟩
  rw [Int32.toInt_sub, Int32.toInt_mul, e1, e10, Int.bmod_eq_of_le (n := x.toInt / 100 * 100) (by omega) (by omega), Int.bmod_eq_of_le (by omega) (by omega)]
  omega
theorem dg100n {x : Int32} (h : x.toInt < 0) : (x / 100).toInt ≤ 0 := by
  have hx := x.le_toInt
  have e10 : (100 : Int32).toInt = 100 := by decide
  obtain ⟨k, hk⟩ : ∃ k : Int, k = -x.toInt := ⟨_, rfl⟩
  have ex : x.toInt = -k := by omega
  rw [Int32.toInt_div, e10, ex, Int.neg_tdiv, Int.tdiv_eq_ediv_of_nonneg (by omega), Int.bmod_eq_of_le (by omega) (by omega)]
  omega
/-- the draws -/
def sd (x : Int32) : Nat → Int32
  | 0 => x
  | i + 1 => sd x i * 1103515245 + 12345
def hsh (x : Int32) : Int32 := ((x.toUInt32 >>> ((8 : Int32).toUInt32 &&& Int32.toUInt32 31)).toInt32) - ((x.toUInt32 >>> ((8 : Int32).toUInt32 &&& Int32.toUInt32 31)).toInt32) / 12 * 12
def rn (r x : Int32) (m : Nat) : Bool := decide (¬ r ≤ hsh (sd x (m + 1)))
def wS (N : Nat → Int32) (R : Nat → Bool) : (Nat → Int32) → Nat → Nat → Int32 := fun h m j => if R m = true then 0 else sgn N j m h
def nz (h : Nat → Int32) : Nat → Nat
  | 0 => 0
  | k + 1 => if h k = 0 then nz h k else nz h k + 1
theorem nz_of (h : Nat → Int32) (k : Nat) : ∃ z, (ofS h 0 k).1 = nI z ∧ nz h k + z = k := by
  induction k with
  | zero => exact ⟨0, rfl, rfl⟩
  | succ k ih =>
    obtain ⟨z, h1, h2⟩ := ih
    rw [ofS, nz]
    by_cases c : h k = 0
    · rw [if_pos c, if_pos c]
      exact ⟨z + 1, by dsimp only; rw [h1, nI_1], by omega⟩
    · rw [if_neg c, if_neg c]
      exact ⟨z, by dsimp only; rw [h1, Int32.add_zero], by omega⟩
theorem cn_0 (v : Int32) (h : ¬ (0 : Int32) = v) (n : Nat) : cn (fun _ => 0) v n = 0 := by
  induction n with
  | zero => rfl
  | succ n ih => rw [cn, ih, if_neg h]
section RAIN
variable {sl : Nat} {sx : Nat → Int32} {d n s f m : Nat} {M : QM} {x y z v b : Int32} {N : Nat → Int32} {T : QT}
def wD (M : QM) (n : Nat) (x : Int32) : Nat → Int32 := dyS (M.1 6 51) (wS (M.1 6) (rn (M.1 6 52) x)) n (ST M)
theorem w_nx {N : Nat → Int32} {R : Nat → Bool} (h : R m = true) {H : Nat → Int32} : nx (wS N R) n T H m = T 0 0 0 (H m) (lr H m) (m + 1) := by
  unfold nx
  have e : ∀ v : Int32, ¬ (0 : Int32) = v → cn (wS N R H m) v n = 0 := fun v hv => by
    have e := cn_congr (g := wS N R H m) (g' := fun _ => 0) v n (fun j _ => if_pos h)
    rw [e]
    exact cn_0 v hv n
  rw [e 1 (by decide), e 2 (by decide), e 3 (by decide)]
theorem w_nx' {N : Nat → Int32} {R : Nat → Bool} (h : R m = false) {H : Nat → Int32} : nx (wS N R) n T H m = nx (fS N) n T H m := nx_congr (fun j _ => if_neg (by rw [h]; exact Bool.false_ne_true))
theorem k_rains (hF : JF n M) : qK sl sx (d + 3) 138 [.ref 4, .int x] M = some (some (.int (if M.1 6 52 ≤ hsh x then 0 else 1)), M) := by
  rw [e_X8_rains, b_X8_rains_0, k_common7 (Or.inl rfl), q_bi_s]
  by_cases c : M.1 6 52 ≤ hsh x
  · rw [if_pos c]
    exact if_pos c
  · rw [if_neg c]
    exact if_neg c
theorem k_draw : qK sl sx (d + 1) 137 [.int x] M = some (some (.int (x * 1103515245 + 12345)), M) := by
  rw [e_X8_draw, b_X8_draw_0]
theorem k_ringDrawn {l : Nat} (hF : JF n M) (hl : l < 300) : ∃ M', qK sl sx (d + 7) 136 [.ref 4, .int x, .int (nI (l + 1))] M = some (some (.int (sd x (l + 1))), M') ∧ Fr [9, 10, 13, 1703, 19] M M' ∧ TW M' 9 l (wD M n x) := by
  have hn := hF.1
  have hb : q_R3 (M.1 6 51) := (jf_FD hF).2.2.2.2
  obtain ⟨H, eH⟩ : ∃ H, H = dt (M.1 6 51) (nx (wS (M.1 6) (rn (M.1 6 52) x)) n (ST M)) := ⟨_, rfl⟩
  have HR : ∀ m i, i ≤ m → q_R3 (H m i) := by
    rw [eH]
    exact fun m => dt_R hb (fun _ _ _ => st_R _ _ _ _ _ _ _) m
  obtain ⟨M1, a1, a2, a3⟩ := k_beginT (sl := sl) (sx := sx) (d := d + 5) (M := M) (t := 9) (D := H 0) (x := M.1 6 51) (Or.inl rfl) (by rw [eH]; rfl)
  have c6 := k_common6 (sl := sl) (sx := sx) (d := d + 4) (f := 5) (M := M) (Or.inl rfl)
  rw [e_X8_ringDrawn, b_X8_ringDrawn_0, k_draw, q_bi_s, c6, q_bi_s, a1, q_bv_s]
  have lp : ∃ M', qF sl sx (d + 6) 136 q_n1 24 [some (.ref 4), none, some (.int (nI (l + 1))), some (.int (sd x 1)), some (.int (nI 1))] [] M1 = some (some (.int (sd x (l + 1))), M') ∧ Fr [9, 10, 13, 1703, 19] M M' ∧ TW M' 9 l (H l) := by
    refine q_lu (fun k i (a : Int32) M' => qF sl sx (d + 6) 136 k 24 [some (.ref 4), none, some (.int (nI (l + 1))), some (.int a), some (.int (nI i))] [] M') (l + 1) (fun i a M' => 1 ≤ i ∧ a = sd x i ∧ Fr [9, 10, 13, 1703, 19] M M' ∧ TW M' 9 (i - 1) (H (i - 1))) (fun o => ∃ M', o = some (some (.int (sd x (l + 1))), M') ∧ Fr [9, 10, 13, 1703, 19] M M' ∧ TW M' 9 l (H l)) (fun k i a M' hi hI => ?_) (fun k a M' hI => ?_) (i := 1) (by omega) (q_n1b (by omega)) ⟨Nat.le_refl 1, rfl, fr_mo rfl a2, a3⟩
    · obtain ⟨i0, ea, i2, i3⟩ := hI
      right
      obtain ⟨m, rfl⟩ : ∃ m, i = m + 1 := ⟨i - 1, by omega⟩
      rw [Nat.add_sub_cancel] at i3
      have hF' := jF_fr rfl i2 hF
      have e6 : M'.1 6 = M.1 6 := funext fun k => i2.1 6 k rfl
      have es : ST M' = ST M := st_fr (i2.1 17 1 rfl) (funext fun k => i2.1 18 k rfl) (i2.1 6 50 rfl)
      have e1 : ∀ j, j ≤ m → H (m + 1) j = H m j := fun j hj => by rw [eH]; exact dt_k _ _ hj
      have e2 : H (m + 1) (m + 1) = nx (wS (M.1 6) (rn (M.1 6 52) x)) n (ST M) (H m) m := by rw [eH]; exact dt_s _ _ _
      -- the counts
      have mid : ∃ N1, Fr [13] M' N1 ∧ (∃ c : Nat → Nat, (∀ v, v < 4 → N1.1 13 v = nI (c v)) ∧ (∀ v, c v ≤ 10) ∧ H (m + 1) (m + 1) = ST M (c 1) (c 2) (c 3) (H m m) (lr (H m) m) (m + 1)) ∧ qF sl sx (d + 6) 136 (k + 1) 24 [some (.ref 4), none, some (.int (nI (l + 1))), some (.int a), some (.int (nI (m + 1)))] [] M' = q_bi (qK sl sx (d + 6) 133 [.ref 4, .ref 5, .ref 9] N1) (fun v10 M9 => q_bv (qK sl sx (d + 6) 74 [.ref 9, .int v10] M9) (fun M11 => q_bi (qK sl sx (d + 6) 137 [.int a] M11) (fun v13 M12 => qF sl sx (d + 6) 136 k 24 [some (.ref 4), none, some (.int (nI (l + 1))), some (.int v13), some (.int (nI (m + 1) + 1))] [] M12))) := by
        have kr := k_rains (sl := sl) (sx := sx) (d := d + 3) (x := a) hF'
        rw [e6] at kr
        by_cases c : M.1 6 52 ≤ hsh a
        · have hr : rn (M.1 6 52) x m = false := decide_eq_false (fun q => q (by rw [← ea]; exact c))
          rw [if_pos c] at kr
          obtain ⟨N1, c1, c2, c3⟩ := k_countSigns (sl := sl) (sx := sx) (d := d + 3) (f := 5) (t := 9) (Or.inl rfl) (Or.inl rfl) i3 (Nat.le_refl m) hn hF'.2.1 hF'.2.2.2.1 (HR m)
          rw [show 5 + 1 = 6 from rfl, e6] at c3
          refine ⟨N1, c2, ⟨fun v => cn (fun j => sgn (M.1 6) j m (H m)) (nI v) n, c3, fun v => Nat.le_trans (cn_le _ _ _) hn, ?_⟩, ?_⟩
          · rw [e2, w_nx' hr]
            rfl
          · rw [b_X8_ringDrawn_24, if_neg (nI_ge hi (by omega)), kr, q_bi_s, if_pos rfl, nI_pred, c1, q_bv_s]
        · have hr : rn (M.1 6 52) x m = true := decide_eq_true (by rw [← ea]; exact c)
          rw [if_neg c] at kr
          obtain ⟨N1, c1, c2, c3⟩ := k_clearSigns (sl := sl) (sx := sx) (d := d + 5) (M := M')
          refine ⟨N1, c2, ⟨fun _ => 0, fun v hv => c3 v hv, fun _ => Nat.zero_le _, ?_⟩, ?_⟩
          · rw [e2, w_nx hr]
          · rw [b_X8_ringDrawn_24, if_neg (nI_ge hi (by omega)), kr, q_bi_s, if_neg n10, c1, q_bv_s]
      obtain ⟨N1, f1, ⟨c, c1, c2, c3⟩, cb⟩ := mid
      have t1 : TW N1 9 m (H m) := tw_fr (fun k => f1.1 9 k rfl) (fun k => f1.1 10 k rfl) i3
      obtain ⟨N2, h1, h2⟩ := k_nextStroke (sl := sl) (sx := sx) (d := d + 1) (f := 5) (t := 9) (M := N1) (Or.inl rfl) (Or.inl rfl) t1 (c := c) c1 c2 rfl
      have es1 : ST N1 = ST M := (st_fr (f1.1 17 1 rfl) (funext fun k => f1.1 18 k rfl) (f1.1 6 50 rfl)).trans es
      rw [es1, ← c3] at h1
      have t2 : TW N2 9 m (H m) := tw_fr (fun k => h2.1 9 k rfl) (fun k => h2.1 10 k rfl) t1
      obtain ⟨N3, j1, j2, j3⟩ := k_addT (sl := sl) (sx := sx) (d := d + 4) (t := 9) (M := N2) (h' := H (m + 1)) (x := H (m + 1) (m + 1)) (Or.inl rfl) t2 (by omega) e1 rfl
      refine ⟨sd x (m + 1 + 1), N3, ⟨by omega, rfl, fr_tr i2 (fr_t2 rfl rfl (fr_t2 (l := [13, 1703, 19]) rfl rfl f1 h2) j2), j3⟩, ?_⟩
      rw [cb, h1, q_bi_s, j1, q_bv_s, k_draw, q_bi_s, nI_1, ea]
      rfl
    · obtain ⟨i0, ea, i2, i3⟩ := hI
      refine ⟨M', ?_, i2, i3⟩
      rw [b_X8_ringDrawn_24, if_pos (Int32.le_refl _), ea]
  obtain ⟨M3, z1, z2, z3⟩ := lp
  exact ⟨M3, z1, z2, tw_congr (fun j hj => by rw [eH]; exact dyS_dt hj) z3⟩
/-- the reference's draws -/
theorem k9_rainL {x3 x4 l7 l8 l9 : Int32} {L : Nat} (hF : JF n M) (hl : L ≤ 300) : ∀ j i k M', i + j = L → Fr [65] M M' → (∀ q, q < i → M'.1 65 q = if rn (M.1 6 52) x q = true then 1 else 0) → (∀ q, i ≤ q → M'.1 65 q = M.1 65 q) → ∃ M2, qF sl sx d 229 (k + 2 * j) 72 [some (.ref 48), none, none, some (.int x3), some (.int x4), some (.int (nI L)), some (.int (sd x i)), some (.int l7), some (.int l8), some (.int l9), some (.int (nI i))] [] M' = qF sl sx d 229 k 72 [some (.ref 48), none, none, some (.int x3), some (.int x4), some (.int (nI L)), some (.int (sd x L)), some (.int l7), some (.int l8), some (.int l9), some (.int (nI L))] [] M2 ∧ Fr [65] M M2 ∧ (∀ q, q < L → M2.1 65 q = if rn (M.1 6 52) x q = true then 1 else 0) ∧ ∀ q, L ≤ q → M2.1 65 q = M.1 65 q := by
  intro j
  induction j with
  | zero =>
    intro i k M' hi f h1 h2
    have : i = L := by omega
    subst this
    exact ⟨M', rfl, f, h1, h2⟩
  | succ j ih =>
    intro i k M' hi f h1 h2
    have q1 : ¬ (nI i < 0 ∨ 301 ≤ (nI i).toNatClampNeg) := nI_in (by omega) (by decide)
    have z0 : vp_nar .boolean 0 = 0 := by decide
    have z1 : vp_nar .boolean 1 = 1 := by decide
    obtain ⟨w, ew⟩ : ∃ w : Int32, w = if rn (M.1 6 52) x i = true then 1 else 0 := ⟨_, rfl⟩
    obtain ⟨M2, c1, c2, c3, c4⟩ := ih (i + 1) k (q_up M'.1 65 i w, M'.2) (by omega) (fr_up rfl f) (fun q hq => by
      dsimp only
      by_cases c : q = i
      · rw [c, q_up_s, ew]
      · rw [q_up_k _ _ _ _ c]
        exact h1 q (by omega)) (fun q hq => by
      dsimp only
      rw [q_up_k _ _ _ _ (by omega)]
      exact h2 q (by omega))
    refine ⟨M2, ?_, c2, c3, c4⟩
    rw [← c1, show k + 2 * (j + 1) = k + 2 * j + 1 + 1 by omega, b_X9_drawn_72, if_neg (nI_ge (show i < L by omega) (by omega))]
    show qF sl sx d 229 (k + 2 * j + 1) 91 [some (.ref 48), none, none, some (.int x3), some (.int x4), some (.int (nI L)), some (.int (sd x (i + 1))), some (.int l7), some (.int l8), some (.int l9), some (.int (nI i))] [] M' = _
    rw [b_X9_drawn_91, f.1 48 3 rfl, ← hF.2.2.2.2.2.2.2.2.1]
    show (if M.1 6 52 ≤ hsh (sd x (i + 1)) then _ else _) = _
    by_cases c : M.1 6 52 ≤ hsh (sd x (i + 1))
    · have hr : rn (M.1 6 52) x i = false := decide_eq_false (fun q => q c)
      rw [hr, if_neg Bool.false_ne_true] at ew
      rw [if_pos c, if_neg q1, z0, nI_clamp (by omega), nI_1, ew]
    · have hr : rn (M.1 6 52) x i = true := decide_eq_true c
      rw [hr, if_pos rfl] at ew
      rw [if_neg c, if_neg q1, z1, nI_clamp (by omega), nI_1, ew]
theorem k9_sumL {x3 x4 x6 l8 l9 u : Int32} {L : Nat} {D : Nat → Int32} (hl : L ≤ 300) (hT : ∀ j, j < L → M.1 61 j = D j) : ∀ j i k, i + j = L → qF sl sx (d + 1) 229 (k + j) 135 [some (.ref 48), none, none, some (.int x3), some (.int x4), some (.int (nI L)), some (.int x6), some (.int (u + nI (nz D i))), some (.int l8), some (.int l9), some (.int (nI i))] [] M = qF sl sx (d + 1) 229 k 135 [some (.ref 48), none, none, some (.int x3), some (.int x4), some (.int (nI L)), some (.int x6), some (.int (u + nI (nz D L))), some (.int l8), some (.int l9), some (.int (nI L))] [] M := by
  intro j
  induction j with
  | zero =>
    intro i k hi
    have : i = L := by omega
    subst this
    rfl
  | succ j ih =>
    intro i k hi
    have q1 : ¬ (nI i < 0 ∨ 301 ≤ (nI i).toNatClampNeg) := nI_in (by omega) (by decide)
    rw [← ih (i + 1) k (by omega), show k + (j + 1) = k + j + 1 by omega, b_X9_drawn_135, if_neg (nI_ge (show i < L by omega) (by omega)), if_neg q1, nI_clamp (by omega), hT i (by omega), nz]
    by_cases c : D i = 0
    · rw [if_pos c, if_pos c, k9_one, q_bi_s, if_pos rfl, nI_1, Int32.add_zero]
    · rw [if_neg c, if_neg c, k9_one, q_bi_s, if_neg n10, nI_1, ← nI_1 (nz D i), Int32.add_assoc]
def drS (M : QM) (n L : Nat) (x : Int32) : Nat → Int32 × Int32 × Int32
  | 0 => (x, 0, 0)
  | i + 1 =>
    let p := drS M n L x i
    (sd p.1 L, p.2.1 + nI (nz (wD M n p.1) L), if wD M n p.1 (L - 1) = 0 then p.2.2 + 1 else p.2.2)
theorem wD_fr {M' : QM} (e : M'.1 6 = M.1 6) (es : ST M' = ST M) : wD M' n x = wD M n x := by
  unfold wD
  rw [e, es]
theorem k9_day {l : Nat} {M1 : QM} (hF : JF n M) (hL : JL M) (hl : l < 300) (f : Fr [65, 4830, 4831, 4834] M M1) (h30 : M1.1 48 30 = 0) (h31 : M1.1 48 31 = -1) (h34 : M1.1 48 34 = 0) (h65 : ∀ q, q < l + 1 → M1.1 65 q = if rn (M.1 6 52) x q = true then 1 else 0) (h65' : ∀ q, l + 1 ≤ q → q ≤ 300 → M1.1 65 q = 0) : ∃ M', qK sl sx (d + 203) 196 [.ref 48, .int (nI l)] M1 = some (none, M') ∧ Fr [61, 66, 60, 4822] M1 M' ∧ ∀ j, j ≤ l → M'.1 61 j = wD M n x j := by
  have hn := hF.1
  have hF1 := jF_fr rfl f hF
  have e6 : M1.1 6 = M.1 6 := funext fun k => f.1 6 k rfl
  have es : ST M1 = ST M := st_fr (f.1 17 1 rfl) (funext fun k => f.1 18 k rfl) (f.1 6 50 rfl)
  have hp : ∀ h m j, j < n → M1.1 65 m = 0 → rS M1 h m j = sgn (M.1 6) j m h := fun h m j hj h0 => by
    rw [rS_plain h30 h31 h34 h0 (by omega)]
    show sgn (RN M1) j m h = _
    rw [jf_sgn hF1 hj, e6]
  have hr : ∀ h m j, ¬ M1.1 65 m = 0 → rS M1 h m j = 0 := fun h m j h0 => if_neg h0
  obtain ⟨i1, i2⟩ := nI300 (show l ≤ 300 by omega)
  obtain ⟨M', g1, g2, g3⟩ := k9_goes (sl := sl) (sx := sx) (d := d) (x := nI l) (rj_jf hF1) (jL_fr rfl f hL) (fun h m hm hh j hj => by
    by_cases c : M1.1 65 m = 0
    · rw [hp h m j hj c]
      exact sgn_R (hF.2.2.2.1 j hj) hh
    · rw [hr h m j c]
      exact q_R30) i1
  refine ⟨M', g1, g2, fun j hj => ?_⟩
  rw [g3 j (by rw [i2]; exact hj), e6, es]
  unfold wD
  exact dyS_congr (N := l) (jf_FD hF).2.2.2.2 (st_T M) (fun h m j hm hh hj => by
    unfold wS
    have e := h65 m (by omega)
    by_cases c : rn (M.1 6 52) x m = true
    · rw [if_pos c] at e ⊢
      exact hr h m j (by rw [e]; decide)
    · rw [if_neg c] at e ⊢
      exact hp h m j hj e) hj
theorem p_drawn (x y z : Int32) : QPi sl sx JA 107 229 [.int x, .int y, .int z] := by
  intro M hJ
  obtain ⟨n, b, hF, hT, hL, hC, hD, hK, hS, hH⟩ := id hJ
  have hn := hF.1
  have e1 : (1 : Int32).toInt = 1 := by decide
  have e20 : (20 : Int32).toInt = 20 := by decide
  have e99 : (99 : Int32).toInt = 99 := by decide
  by_cases g : 0 ≤ y.toInt ∧ 1 ≤ (y / 100).toInt ∧ (y / 100).toInt ≤ 20 ∧ 1 ≤ (y - y / 100 * 100).toInt ∧ rg z 1
  rotate_left
  · refine ⟨-1, M, M, ?_, ?_, hJ⟩
    · rw [e_X8_drawn, b_X8_drawn_0]
      by_cases c1 : y / 100 < 1
      · rw [if_pos c1]
      rw [if_neg c1]
      by_cases c2 : 20 < y / 100
      · rw [if_pos c2]
      rw [if_neg c2]
      by_cases c3 : y - y / 100 * 100 < 1
      · rw [if_pos c3]
      rw [if_neg c3]
      by_cases c4 : 99 < y - y / 100 * 100
      · rw [if_pos c4]
      rw [if_neg c4, k_w1]
      by_cases c5 : rg z 1
      · exfalso
        rw [Int32.lt_iff_toInt_lt, e1] at c1 c3
        rw [Int32.lt_iff_toInt_lt, e20] at c2
        refine g ⟨?_, by omega, by omega, by omega, c5⟩
        rcases Int.lt_or_le y.toInt 0 with q | q
        · have := dg100n q
          omega
        · exact q
      · rw [if_neg c5, q_bi_s, if_pos rfl]
    · rw [e_X9_drawn, b_X9_drawn_0]
      by_cases c0 : y < 0
      · rw [if_pos c0]
      rw [if_neg c0, k9_isIn]
      by_cases c1 : (1 : Int32).toInt ≤ (y / 100).toInt ∧ (y / 100).toInt ≤ (20 : Int32).toInt
      rotate_left
      · rw [if_neg c1, q_bi_s, if_pos rfl]
      rw [if_pos c1, q_bi_s, if_neg n10]
      by_cases c3 : y - y / 100 * 100 < 1
      · rw [if_pos c3]
      rw [if_neg c3, k9_w1]
      by_cases c5 : rg z 1
      · exfalso
        rw [Int32.lt_iff_toInt_lt, e1] at c3
        rw [Int32.lt_iff_toInt_lt, qv_0] at c0
        exact g ⟨by omega, by omega, by omega, by omega, c5⟩
      · rw [if_neg c5, q_bi_s, if_pos rfl]
  obtain ⟨g0, g1, g2, g3, g4⟩ := g
  obtain ⟨d1, d2⟩ := dg100 g0
  have ea : y / 100 = nI (y / 100).toInt.toNat := q_ofN (by omega)
  have em : y - y / 100 * 100 = nI (y - y / 100 * 100).toInt.toNat := q_ofN (by omega)
  have h1 : ¬ y / 100 < 1 := by rw [Int32.lt_iff_toInt_lt, e1]; omega
  have h2 : ¬ 20 < y / 100 := by rw [Int32.lt_iff_toInt_lt, e20]; omega
  have h3 : ¬ y - y / 100 * 100 < 1 := by rw [Int32.lt_iff_toInt_lt, e1]; omega
  have h4 : ¬ 99 < y - y / 100 * 100 := by rw [Int32.lt_iff_toInt_lt, e99]; omega
  have h5 : ¬ y < 0 := by rw [Int32.lt_iff_toInt_lt, qv_0]; omega
  have h6 : (1 : Int32).toInt ≤ (y / 100).toInt ∧ (y / 100).toInt ≤ (20 : Int32).toInt := ⟨by omega, by omega⟩
  obtain ⟨A, eA⟩ : ∃ A, A = (y / 100).toInt.toNat := ⟨_, rfl⟩
  obtain ⟨l, el⟩ : ∃ l, l + 1 = (y - y / 100 * 100).toInt.toNat := ⟨(y - y / 100 * 100).toInt.toNat - 1, by omega⟩
  have hA : A ≤ 20 := by omega
  have hl : l < 99 := by omega
  rw [← el] at em
  rw [← eA] at ea
  have fin : ∀ (M' : QM), (if z = 0 then some (some (Value.int (drS M n (l + 1) x A).2.1), M') else some (some (Value.int (drS M n (l + 1) x A).2.2), M')) = some (some (.int (if z = 0 then (drS M n (l + 1) x A).2.1 else (drS M n (l + 1) x A).2.2)), M') := fun M' => by
    split <;> rfl
  obtain ⟨M1, c1, c2⟩ := q_lz (fun k i (p : Int32 × Int32 × Int32) M' => qF sl sx 999 107 k 60 [some (.ref 4), none, none, some (.int z), some (.int (nI A)), some (.int (nI (l + 1))), some (.int p.1), some (.int p.2.1), some (.int p.2.2), some (.int (nI i))] [] M') [9, 10, 13, 1703, 19] M A (fun i => drS M n (l + 1) x i) (fun o => ∃ M', o = some (some (.int (if z = 0 then (drS M n (l + 1) x A).2.1 else (drS M n (l + 1) x A).2.2)), M') ∧ Fr [9, 10, 13, 1703, 19] M M') (fun k i M' hi hM => by
      obtain ⟨N1, a1, a2, a3⟩ := k_ringDrawn (sl := sl) (sx := sx) (d := 992) (x := (drS M n (l + 1) x i).1) (l := l) (jF_fr rfl hM hF) (by omega)
      have fk : Fr kY M M' := fr_mo rfl hM
      rw [wD_fr (n6_kY fk) (st_kY fk)] at a3
      refine ⟨N1, fr_tr hM a2, ?_⟩
      obtain ⟨zz, z1, z2⟩ := nz_of (wD M n (drS M n (l + 1) x i).1) (l + 1)
      have ez : nI (l + 1) - nI zz = nI (nz (wD M n (drS M n (l + 1) x i).1) (l + 1)) := by
        have : nI (l + 1) = nI (nz (wD M n (drS M n (l + 1) x i).1) (l + 1)) + nI zz := by rw [nI_add, z2]
        rw [this, Int32.add_sub_cancel]
      rw [b_X8_drawn_60, if_neg (nI_ge hi (by omega)), a1, q_bi_s, k_howOften (Or.inl rfl) a3, q_bi_s, nI_pred, k_atN (Or.inl rfl) a3 (Nat.le_refl l), q_bi_s, z1, ez, nI_1, drS]
      dsimp only
      rw [Nat.add_sub_cancel]
      by_cases c : wD M n (drS M n (l + 1) x i).1 l = 0
      · rw [if_pos c, if_pos c]
      · rw [if_neg c, if_neg c, Int32.add_zero]) (fun k M' hM => by
      refine ⟨M', ?_, hM⟩
      rw [b_X8_drawn_60, if_pos (Int32.le_refl _)]
      exact fin M') 0 q_n1 M (Nat.zero_le _) (q_n1b (by omega)) fr_rf
  have f1 : Fr kY M M1 := fr_mo rfl c2
  have ref : ∀ j i k M', i + j = A → 400 * (j + 1) < k → Fr kY M1 M' → ∃ M2, qF sl sx 999 229 k 58 [some (.ref 48), none, none, some (.int z), some (.int (nI A)), some (.int (nI (l + 1))), some (.int (drS M n (l + 1) x i).1), some (.int (drS M n (l + 1) x i).2.1), some (.int (drS M n (l + 1) x i).2.2), some (.int (nI i)), none] [] M' = some (some (.int (if z = 0 then (drS M n (l + 1) x A).2.1 else (drS M n (l + 1) x A).2.2)), M2) ∧ Fr kY M1 M2 := by
    intro j
    induction j with
    | zero =>
      intro i k M' hi hk f
      have : i = A := by omega
      subst this
      obtain ⟨k, rfl⟩ : ∃ k', k = k' + 1 := ⟨k - 1, by omega⟩
      refine ⟨M', ?_, f⟩
      rw [b_X9_drawn_58, if_pos (Int32.le_refl _)]
      exact fin M'
    | succ j ih =>
      intro i k M' hi hk f
      obtain ⟨k, rfl⟩ : ∃ k', k = k' + 1 + (l + 1) + 1 + 2 * (l + 1) + 1 := ⟨k - 1 - 2 * (l + 1) - 1 - (l + 1) - 1, by omega⟩
      have fM : Fr kY M M' := fr_tr f1 f
      have hF' := jF_fr rfl fM hF
      have hL' := jL_fr rfl fM hL
      obtain ⟨p, ep⟩ : ∃ p, p = drS M n (l + 1) x i := ⟨_, rfl⟩
      obtain ⟨N1, a1, a2, a3, a4, a5, a6⟩ := k9_plain (sl := sl) (sx := sx) (d := 998) (M := M')
      have hF1 := jF_fr rfl a2 hF'
      have e61 : N1.1 6 = M.1 6 := (funext fun k => a2.1 6 k rfl : N1.1 6 = M'.1 6).trans (n6_kY fM)
      obtain ⟨N2, b1, b2, b3, b4⟩ := k9_rainL (sl := sl) (sx := sx) (d := 999) (x := p.1) (x3 := z) (x4 := nI A) (l7 := p.2.1) (l8 := p.2.2) (l9 := nI i) (L := l + 1) hF1 (by omega) (l + 1) 0 (k + 1 + (l + 1) + 1) N1 (by omega) fr_rf (fun q hq => by omega) (fun q _ => rfl)
      rw [e61] at b3
      obtain ⟨N3, d1, d2, d3⟩ := k9_day (sl := sl) (sx := sx) (d := 796) (x := p.1) (l := l) (M := M') (M1 := N2) hF' hL' (by omega) (fr_t2 rfl rfl a2 b2) ((b2.1 48 30 rfl).trans a3) ((b2.1 48 31 rfl).trans a4) ((b2.1 48 34 rfl).trans a5) (fun q hq => by rw [n6_kY fM]; exact b3 q hq) (fun q hq h3 => by rw [b4 q hq]; exact a6 q h3)
      rw [wD_fr (n6_kY fM) (st_kY fM)] at d3
      have s1 := k9_sumL (sl := sl) (sx := sx) (d := 998) (M := N3) (x3 := z) (x4 := nI A) (x6 := sd p.1 (l + 1)) (l8 := p.2.2) (l9 := nI i) (u := p.2.1) (L := l + 1) (D := wD M n p.1) (by omega) (fun j hj => d3 j (by omega)) (l + 1) 0 (k + 1) (by omega)
      have f3 : Fr kY M1 N3 := fr_tr f (fr_tr (fr_mo rfl a2) (fr_tr (fr_mo rfl b2) (fr_mo rfl d2)))
      obtain ⟨M2, z1, z2⟩ := ih (i + 1) k N3 (by omega) (by omega) f3
      refine ⟨M2, ?_, z2⟩
      rw [← ep, b_X9_drawn_58, if_neg (nI_ge (show i < A by omega) (by omega)), a1, q_bv_s]
      have b1' : qF sl sx 999 229 (k + 1 + (l + 1) + 1 + 2 * (l + 1)) 72 [some (.ref 48), none, none, some (.int z), some (.int (nI A)), some (.int (nI (l + 1))), some (.int p.1), some (.int p.2.1), some (.int p.2.2), some (.int (nI i)), some (.int 0)] [] N1 = _ := b1
      rw [b1', b_X9_drawn_72, if_pos (Int32.le_refl _), nI_pred, d1, q_bv_s]
      have s1' : ∀ u0 : Int32, u0 = p.2.1 + nI (nz (wD M n p.1) 0) → qF sl sx 999 229 (k + 1 + (l + 1)) 135 [some (.ref 48), none, none, some (.int z), some (.int (nI A)), some (.int (nI (l + 1))), some (.int (sd p.1 (l + 1))), some (.int u0), some (.int p.2.2), some (.int (nI i)), some (.int 0)] [] N3 = qF sl sx 999 229 (k + 1) 135 [some (.ref 48), none, none, some (.int z), some (.int (nI A)), some (.int (nI (l + 1))), some (.int (sd p.1 (l + 1))), some (.int (p.2.1 + nI (nz (wD M n p.1) (l + 1)))), some (.int p.2.2), some (.int (nI i)), some (.int (nI (l + 1)))] [] N3 := fun u0 e => by
        rw [e]
        exact s1
      have q1 : ¬ (nI l < 0 ∨ 301 ≤ (nI l).toNatClampNeg) := nI_in (by omega) (by decide)
      rw [s1' p.2.1 (Int32.add_zero _).symm, b_X9_drawn_135, if_pos (Int32.le_refl _), nI_pred, if_neg q1, nI_clamp (by omega), d3 l (Nat.le_refl l), nI_1, ← z1, drS, ← ep]
      dsimp only
      rw [Nat.add_sub_cancel]
      by_cases c : wD M n p.1 l = 0
      · rw [if_pos c, if_pos c, k9_one, q_bi_s, if_neg n10]
      · rw [if_neg c, if_neg c, k9_one, q_bi_s, if_pos rfl, Int32.add_zero]
  obtain ⟨M2, r1, r2⟩ := ref A 0 q_n1 M1 (by omega) (q_n1b (by omega)) fr_rf
  refine ⟨if z = 0 then (drS M n (l + 1) x A).2.1 else (drS M n (l + 1) x A).2.2, M1, M2, ?_, ?_, ja_kY r2 (ja_kY f1 hJ)⟩
  · rw [e_X8_drawn, b_X8_drawn_0, if_neg h1, if_neg h2, if_neg h3, if_neg h4, k_w1, if_pos g4, q_bi_s, if_neg n10, em, ea]
    exact c1
  · rw [e_X9_drawn, b_X9_drawn_0, if_neg h5, k9_isIn, if_pos h6, q_bi_s, if_neg n10, if_neg h3, k9_w1, if_pos g4, q_bi_s, if_neg n10, em, ea]
    exact r1
end RAIN
