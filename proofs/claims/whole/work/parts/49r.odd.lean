/-! PAIR: changesIt (wip/whole/f) -/
theorem cn_odd {g : Nat → Int32} {f : Nat} {v w : Int32} : ∀ n, f < n → cn (fun j => if j = f then v else g j) w n + (if g f = w then 1 else 0) = cn g w n + (if v = w then 1 else 0) := by
  intro n
  induction n with
  | zero => intro h; omega
  | succ n ih =>
    intro h
    rw [cn, cn]
    by_cases q : n = f
    · subst q
      rw [if_pos (show n = n from rfl), cn_congr (g := fun j => if j = n then v else g j) (g' := g) w n (fun j hj => if_neg (by omega))]
      omega
    · rw [if_neg q]
      have := ih (by omega)
      omega
theorem ff_no {E : Nat → Bool} : ∀ k i, (∀ j, i ≤ j → j < i + k → E j = false) → ff E k i = -2 := by
  intro k
  induction k with
  | zero => intro i _; rfl
  | succ k ih =>
    intro i h
    rw [ff, if_neg (by rw [h i (Nat.le_refl i) (by omega)]; exact Bool.false_ne_true)]
    exact ih (i + 1) (fun j h1 h2 => h j (by omega) (by omega))
theorem ff_at {E : Nat → Bool} {p : Nat} (hp : E p = true) : ∀ k i, i ≤ p → p < i + k → (∀ j, i ≤ j → j < p → E j = false) → ff E k i = nI p := by
  intro k
  induction k with
  | zero => intro i h1 h2 _; omega
  | succ k ih =>
    intro i h1 h2 h
    rw [ff]
    by_cases q : i = p
    · subst q
      rw [if_pos hp]
    · rw [if_neg (by rw [h i (Nat.le_refl i) (by omega)]; exact Bool.false_ne_true)]
      exact ih (i + 1) (by omega) (by omega) (fun j h3 h4 => h j (by omega) h4)
/-- one farm's sign of one minute is another -/
def oS (N : Nat → Int32) (f m : Nat) (v : Int32) : (Nat → Int32) → Nat → Nat → Int32 := fun h k j => if j = f ∧ k = m then v else sgn N j k h
section ODD
variable {sl : Nat} {sx : Nat → Int32} {d n s f m : Nat} {M : QM} {x y z v b : Int32} {N : Nat → Int32} {T : QT}
theorem od_dt (hb : q_R3 b) (hT : RT T) : dt b (nx (oS N f m v) n T) m = dt b (nx (fS N) n T) m := dt_congr (f := nx (oS N f m v) n T) (f' := nx (fS N) n T) hb (fun _ _ _ => hT _ _ _ _ _ _) (fun h k hk _ => nx_congr (fun j _ => if_neg (by omega))) m (Nat.le_refl m)
theorem od_le (hb : q_R3 b) (hT : RT T) {j : Nat} (hj : j ≤ m) : dyS b (oS N f m v) n T j = dyS b (fS N) n T j := by
  rw [← dyS_dt hj, ← dyS_dt hj, od_dt hb hT]
theorem od_nx (hb : q_R3 b) (hT : RT T) : dyS b (oS N f m v) n T (m + 1) = T (cn (fun j => if j = f then v else sgn N j m (dyS b (fS N) n T)) (nI 1) n) (cn (fun j => if j = f then v else sgn N j m (dyS b (fS N) n T)) (nI 2) n) (cn (fun j => if j = f then v else sgn N j m (dyS b (fS N) n T)) (nI 3) n) (dyS b (fS N) n T m) (lr (dyS b (fS N) n T) m) (m + 1) := by
  obtain ⟨H, eH⟩ : ∃ H, H = dt b (nx (fS N) n T) m := ⟨_, rfl⟩
  have e : ∀ j, j ≤ m → H j = dyS b (fS N) n T j := fun j hj => by rw [eH]; exact dyS_dt hj
  have h1 : dyS b (oS N f m v) n T (m + 1) = nx (oS N f m v) n T H m := by
    unfold dyS
    rw [dt_s, od_dt hb hT, eH]
  rw [h1]
  unfold nx
  have eg : ∀ w : Int32, cn (oS N f m v H m) w n = cn (fun j => if j = f then v else sgn N j m (dyS b (fS N) n T)) w n := fun w => cn_congr w n (fun j _ => by
    unfold oS
    by_cases q : j = f
    · rw [if_pos ⟨q, rfl⟩, if_pos q]
    · rw [if_neg (fun w => q w.1), if_neg q]
      exact sgn_congr rfl rfl rfl rfl rfl e)
  rw [eg, eg, eg, e m (Nat.le_refl m), lr_congr m e]
  rfl
theorem dy_nx : dyS b (fS N) n T (m + 1) = T (cn (fun j => sgn N j m (dyS b (fS N) n T)) (nI 1) n) (cn (fun j => sgn N j m (dyS b (fS N) n T)) (nI 2) n) (cn (fun j => sgn N j m (dyS b (fS N) n T)) (nI 3) n) (dyS b (fS N) n T m) (lr (dyS b (fS N) n T) m) (m + 1) := by
  obtain ⟨H, eH⟩ : ∃ H, H = dt b (nx (fS N) n T) m := ⟨_, rfl⟩
  have e : ∀ j, j ≤ m → H j = dyS b (fS N) n T j := fun j hj => by rw [eH]; exact dyS_dt hj
  have h1 : dyS b (fS N) n T (m + 1) = nx (fS N) n T H m := by
    unfold dyS
    rw [dt_s, eH]
  rw [h1]
  unfold nx
  have eg : ∀ w : Int32, cn (fS N H m) w n = cn (fun j => sgn N j m (dyS b (fS N) n T)) w n := fun w => cn_congr w n (fun j _ => sgn_congr rfl rfl rfl rfl rfl e)
  rw [eg, eg, eg, e m (Nat.le_refl m), lr_congr m e]
  rfl
theorem od_eq (hb : q_R3 b) (hT : RT T) (e : dyS b (oS N f m v) n T (m + 1) = dyS b (fS N) n T (m + 1)) (j : Nat) : dyS b (oS N f m v) n T j = dyS b (fS N) n T j := by
  have h1 : dt b (nx (oS N f m v) n T) (m + 1) = dt b (nx (fS N) n T) (m + 1) := by
    funext i
    show (if i = m + 1 then nx (oS N f m v) n T (dt b (nx (oS N f m v) n T) m) m else dt b (nx (oS N f m v) n T) m i) = (if i = m + 1 then nx (fS N) n T (dt b (nx (fS N) n T) m) m else dt b (nx (fS N) n T) m i)
    by_cases q : i = m + 1
    · rw [if_pos q, if_pos q]
      unfold dyS at e
      rw [dt_s, dt_s] at e
      exact e
    · rw [if_neg q, if_neg q, od_dt hb hT]
  have h2 : ∀ k, dt b (nx (oS N f m v) n T) (m + 1 + k) = dt b (nx (fS N) n T) (m + 1 + k) := by
    intro k
    induction k with
    | zero => exact h1
    | succ k ih =>
      funext i
      show (if i = m + 1 + k + 1 then nx (oS N f m v) n T (dt b (nx (oS N f m v) n T) (m + 1 + k)) (m + 1 + k) else dt b (nx (oS N f m v) n T) (m + 1 + k) i) = (if i = m + 1 + k + 1 then nx (fS N) n T (dt b (nx (fS N) n T) (m + 1 + k)) (m + 1 + k) else dt b (nx (fS N) n T) (m + 1 + k) i)
      rw [ih, show nx (oS N f m v) n T (dt b (nx (fS N) n T) (m + 1 + k)) (m + 1 + k) = nx (fS N) n T (dt b (nx (fS N) n T) (m + 1 + k)) (m + 1 + k) from nx_congr (fun j _ => if_neg (by omega))]
  by_cases q : j ≤ m
  · exact od_le hb hT q
  · have h := h2 (j - (m + 1))
    rw [show m + 1 + (j - (m + 1)) = j by omega] at h
    exact congrFun h j
theorem k9_keeps : ∃ M', qK sl sx (d + 1) 213 [.ref 48] M = some (none, M') ∧ Fr [64] M M' ∧ ∀ j, j ≤ 300 → M'.1 64 j = M.1 61 j := by
  rw [e_X9_keepsDay, b_X9_keepsDay_0]
  refine q_lu (fun k i (_ : Unit) M' => qF sl sx d 213 k 2 [some (.ref 48), some (.int (nI i))] [] M') 301 (fun i _ M' => Fr [64] M M' ∧ ∀ j, j < i → M'.1 64 j = M.1 61 j) (fun o => ∃ M', o = some (none, M') ∧ Fr [64] M M' ∧ ∀ j, j ≤ 300 → M'.1 64 j = M.1 61 j) (fun k i _ M' hi hI => ?_) (fun k _ M' hI => ?_) (i := 0) (n := q_n1) (s := ()) (M := M) (Nat.zero_le _) (q_n1b (by decide)) ⟨fr_rf, fun j hj => by omega⟩
  · obtain ⟨i1, i2⟩ := hI
    right
    have q1 : ¬ (nI i < 0 ∨ 301 ≤ (nI i).toNatClampNeg) := nI_in (by omega) (by decide)
    refine ⟨(), (q_up M'.1 64 i (M.1 61 i), M'.2), ⟨fr_up rfl i1, fun j hj => ?_⟩, ?_⟩
    · dsimp only
      by_cases q : j = i
      · rw [q, q_up_s]
      · rw [q_up_k _ _ _ _ q]
        exact i2 j (by omega)
    · rw [b_X9_keepsDay_2, if_neg (show ¬ (300 : Int32) < nI i by rw [Int32.lt_iff_toInt_lt, nI_toInt (by omega), qv_300]; omega), if_neg q1, if_neg q1, nI_clamp (by omega), nI_1, i1.1 61 i rfl]
  · obtain ⟨i1, i2⟩ := hI
    refine ⟨M', ?_, i1, fun j hj => i2 j (by omega)⟩
    rw [b_X9_keepsDay_2, if_pos (by decide)]
theorem p_changesIt (x y : Int32) : QPi sl sx JA 97 214 [.int x, .int y] := by
  intro M hJ
  obtain ⟨n, b, hF, hT, hL, hC, hD, hK, hS, hH⟩ := id hJ
  have hn := hF.1
  by_cases x0 : x < 0
  · refine ⟨-1, M, M, ?_, ?_, hJ⟩
    · rw [e_X8_changesIt, b_X8_changesIt_0, if_pos x0]
    · rw [e_X9_changesIt, b_X9_changesIt_0, if_pos x0]
  have hx : 0 ≤ x.toInt := by
    rw [Int32.lt_iff_toInt_lt, qv_0] at x0
    omega
  by_cases q : 0 ≤ (x / 10).toInt ∧ (x / 10).toInt < (n : Int)
  rotate_left
  · refine ⟨-1, M, M, ?_, ?_, hJ⟩
    · rw [e_X8_changesIt, b_X8_changesIt_0, if_neg x0, k_isFarmJ hF, if_neg q, q_bi_s, if_pos rfl]
    · rw [e_X9_changesIt, b_X9_changesIt_0, if_neg x0, k9_isFarmJ hF, if_neg q, q_bi_s, if_pos rfl]
  have hdg := (dg10 hx).2
  obtain ⟨v, ev⟩ : ∃ v, v = x - x / 10 * 10 := ⟨_, rfl⟩
  rw [← ev] at hdg
  by_cases w : 3 < v
  · have : ¬ rg v 3 := by
      rintro ⟨_, r⟩
      rw [Int32.lt_iff_toInt_lt, show (3 : Int32).toInt = 3 by decide] at w
      omega
    refine ⟨-1, M, M, ?_, ?_, hJ⟩
    · rw [e_X8_changesIt, b_X8_changesIt_0, if_neg x0, k_isFarmJ hF, if_pos q, q_bi_s, if_neg n10, ← ev, k_w3, if_neg this, q_bi_s, if_pos rfl]
    · rw [e_X9_changesIt, b_X9_changesIt_0, if_neg x0, k9_isFarmJ hF, if_pos q, q_bi_s, if_neg n10, ← ev, if_pos w]
  have v3 : rg v 3 := by
    rw [Int32.lt_iff_toInt_lt, show (3 : Int32).toInt = 3 by decide] at w
    exact ⟨by omega, by omega⟩
  have vR : q_R3 v := ⟨v3.1, v3.2⟩
  by_cases r : rg y 300
  rotate_left
  · refine ⟨-1, M, M, ?_, ?_, hJ⟩
    · rw [e_X8_changesIt, b_X8_changesIt_0, if_neg x0, k_isFarmJ hF, if_pos q, q_bi_s, if_neg n10, ← ev, k_w3, if_pos v3, q_bi_s, if_neg n10, k_w300, if_neg r, q_bi_s, if_pos rfl]
    · rw [e_X9_changesIt, b_X9_changesIt_0, if_neg x0, k9_isFarmJ hF, if_pos q, q_bi_s, if_neg n10, ← ev, if_neg w, k9_isMinute, if_neg r, q_bi_s, if_pos rfl]
  obtain ⟨m, rfl, hm⟩ := rgN300 r
  obtain ⟨i1, i2⟩ := nI300 hm
  have ef : x / 10 = nI (x / 10).toInt.toNat := q_ofN q.1
  have hf : (x / 10).toInt.toNat < n := by omega
  have q2 : 0 ≤ (nI (x / 10).toInt.toNat).toInt ∧ (nI (x / 10).toInt.toNat).toInt < (n : Int) := by rw [← ef]; exact q
  obtain ⟨f, hff⟩ : ∃ f, f = (x / 10).toInt.toNat := ⟨_, rfl⟩
  rw [← hff] at ef hf q2
  have hb : q_R3 (M.1 6 51) := (jf_FD hF).2.2.2.2
  -- the class
  obtain ⟨D, eD⟩ : ∃ D, D = dyP M n := ⟨_, rfl⟩
  have DR : ∀ j, q_R3 (D j) := fun j => by rw [eD]; exact dyS_R hb (st_T M) j
  obtain ⟨g, eg⟩ : ∃ g : Nat → Int32, g = fun j => sgn (M.1 6) j m D := ⟨_, rfl⟩
  have gR : q_R3 (g f) := by rw [eg]; exact sgn_R (hF.2.2.2.1 f hf) (fun j _ => DR j)
  obtain ⟨M1, a1, a2, a3⟩ := k_dayP (sl := sl) (sx := sx) (d := 992) (x := nI m) (t := 9) hF (Or.inl rfl) i1
  rw [i2, ← eD] at a3
  have f1 := fr_tY (Or.inl rfl) a2
  have hF1 := jF_fr rfl f1 hF
  obtain ⟨M2, b1, b2, b3⟩ := k_countSigns (sl := sl) (sx := sx) (d := 996) (f := 5) (t := 9) (Or.inl rfl) (Or.inl rfl) a3 (Nat.le_refl m) hn hF1.2.1 hF1.2.2.2.1 (fun j _ => DR j)
  rw [show 5 + 1 = 6 from rfl, n6_kY f1, ← eg] at b3
  have f2 : Fr kY M M2 := fr_tr f1 (fr_mo rfl b2)
  have t2 : TW M2 9 m D := tw_fr (fun k => b2.1 9 k rfl) (fun k => b2.1 10 k rfl) a3
  obtain ⟨M3, c1, c2⟩ := k_nextStroke (sl := sl) (sx := sx) (d := 994) (f := 5) (t := 9) (M := M2) (Or.inl rfl) (Or.inl rfl) t2 (c := fun v => cn g (nI v) n) b3 (fun v => by have := cn_le g (nI v) n; omega) rfl
  rw [st_kY f2] at c1
  have f3 : Fr kY M M3 := fr_tr f2 (fr_mo rfl c2)
  have hF3 := jF_fr rfl f3 hF
  have t3 : TW M3 9 m D := tw_fr (fun k => c2.1 9 k rfl) (fun k => c2.1 10 k rfl) t2
  have kd := k_doing (sl := sl) (sx := sx) (d := 997) (f := 5) (t := 9) (j := f) (Or.inl rfl) (Or.inl rfl) t3 (Nat.le_refl m) (by omega) (hF3.2.2.2.1 f hf)
  rw [show 5 + 1 = 6 from rfl, n6_kY f3] at kd
  have eg' : sgn (M.1 6) f m D = g f := by rw [eg]
  rw [eg'] at kd
  have k1 := k_addSign (sl := sl) (sx := sx) (d := 998) (M := M3) (y := -1) gR
  obtain ⟨M4, e4⟩ : ∃ M4, M4 = ((q_up M3.1 13 (g f).toInt.toNat (M3.1 13 (g f).toInt.toNat + -1), M3.2) : QM) := ⟨_, rfl⟩
  rw [← e4] at k1
  have k2 := k_addSign (sl := sl) (sx := sx) (d := 998) (M := M4) (y := 1) vR
  obtain ⟨M5, e5⟩ : ∃ M5, M5 = ((q_up M4.1 13 v.toInt.toNat (M4.1 13 v.toInt.toNat + 1), M4.2) : QM) := ⟨_, rfl⟩
  rw [← e5] at k2
  have f35 : Fr [13] M3 M5 := by
    rw [e5]
    refine fr_up rfl ?_
    rw [e4]
    exact fr_up rfl fr_rf
  have f5 : Fr kY M M5 := fr_tr f3 (fr_mo rfl f35)
  obtain ⟨g', eg2⟩ : ∃ g' : Nat → Int32, g' = fun j => if j = f then v else g j := ⟨_, rfl⟩
  have nw : ∀ (u : Int32) (w : Nat), q_R3 u → w < 4 → (w = u.toInt.toNat ↔ u = nI w) := fun u w hu hw => by
    constructor
    · intro e
      rw [e]
      exact q_ofN hu.1
    · intro e
      rw [e, nI_toInt (by omega), Int.toNat_natCast]
  have c5 : ∀ w, w < 4 → M5.1 13 w = nI (cn g' (nI w) n) := by
    intro w hw
    have odd := cn_odd (g := g) (f := f) (v := v) (w := nI w) n hf
    rw [← eg2] at odd
    have h3 : M3.1 13 w = nI (cn g (nI w) n) := (c2.1 13 w rfl).trans (b3 w hw)
    have h4 : M4.1 13 w = if w = (g f).toInt.toNat then nI (cn g (nI w) n) + -1 else nI (cn g (nI w) n) := by
      rw [e4]
      dsimp only
      by_cases q : w = (g f).toInt.toNat
      · rw [if_pos q, ← q, q_up_s, h3]
      · rw [if_neg q, q_up_k _ _ _ _ q, h3]
    have h5 : M5.1 13 w = if w = v.toInt.toNat then M4.1 13 w + 1 else M4.1 13 w := by
      rw [e5]
      dsimp only
      by_cases q : w = v.toInt.toNat
      · rw [if_pos q, ← q, q_up_s]
      · rw [if_neg q, q_up_k _ _ _ _ q]
    rw [h5, h4]
    by_cases p1 : w = (g f).toInt.toNat
    · rw [if_pos ((nw _ _ gR hw).mp p1)] at odd
      rw [if_pos p1]
      by_cases p2 : w = v.toInt.toNat
      · rw [if_pos ((nw _ _ vR hw).mp p2)] at odd
        rw [if_pos p2, show cn g' (nI w) n = cn g (nI w) n by omega, Int32.add_assoc, show (-1 : Int32) + 1 = 0 by decide, Int32.add_zero]
      · rw [if_neg (fun e => p2 ((nw _ _ vR hw).mpr e))] at odd
        rw [if_neg p2, show cn g (nI w) n = cn g' (nI w) n + 1 by omega, pk_m1]
    · rw [if_neg (fun e => p1 ((nw _ _ gR hw).mpr e))] at odd
      rw [if_neg p1]
      by_cases p2 : w = v.toInt.toNat
      · rw [if_pos ((nw _ _ vR hw).mp p2)] at odd
        rw [if_pos p2, nI_1, show cn g (nI w) n + 1 = cn g' (nI w) n by omega]
      · rw [if_neg (fun e => p2 ((nw _ _ vR hw).mpr e))] at odd
        rw [if_neg p2, show cn g (nI w) n = cn g' (nI w) n by omega]
  have t5 : TW M5 9 m D := tw_fr (fun k => f35.1 9 k rfl) (fun k => f35.1 10 k rfl) t3
  obtain ⟨M6, d1, d2⟩ := k_nextStroke (sl := sl) (sx := sx) (d := 994) (f := 5) (t := 9) (M := M5) (Or.inl rfl) (Or.inl rfl) t5 (c := fun v => cn g' (nI v) n) c5 (fun v => by have := cn_le g' (nI v) n; omega) rfl
  rw [st_kY f5] at d1
  have f6 : Fr kY M M6 := fr_tr f5 (fr_mo rfl d2)
  obtain ⟨O, eO⟩ : ∃ O, O = dyS (M.1 6 51) (oS (M.1 6) f m v) n (ST M) := ⟨_, rfl⟩
  have hD1 : D (m + 1) = ST M (cn g (nI 1) n) (cn g (nI 2) n) (cn g (nI 3) n) (D m) (lr D m) (m + 1) := by
    rw [eg, eD]
    exact dy_nx
  have hO1 : O (m + 1) = ST M (cn g' (nI 1) n) (cn g' (nI 2) n) (cn g' (nI 3) n) (D m) (lr D m) (m + 1) := by
    rw [eg2, eg, eO, eD]
    exact od_nx hb (st_T M)
  have hOle : ∀ j, j ≤ m → O j = D j := fun j hj => by
    rw [eO, eD]
    exact od_le hb (st_T M) hj
  have hOeq : O (m + 1) = D (m + 1) → ∀ j, O j = D j := fun e j => by
    rw [eO, eD] at e ⊢
    exact od_eq hb (st_T M) e j
  rw [← hD1] at c1
  rw [← hO1] at d1
  -- the answer, and the reference from any such memory
  obtain ⟨E, eE⟩ : ∃ E : Nat → Bool, E = fun i => decide (¬ O i = D i) := ⟨_, rfl⟩
  have ref : ∀ M1, Fr kY M M1 → ∃ M2, qK sl sx 1000 214 [.ref 48, .int x, .int (nI m)] M1 = some (some (.int (ff E 301 0)), M2) ∧ Fr kY M1 M2 := by
    intro R0 h0
    have hF0 := jF_fr rfl h0 hF
    obtain ⟨R1, p1, p2, p3, p4, p5, p6, p7⟩ := k9_goesPlain (sl := sl) (sx := sx) (d := 795) (x := 300) hF0 (jL_fr rfl h0 hL) n300.1
    rw [n300.2, dyP_kY h0, ← eD] at p3
    obtain ⟨R2, u1, u2, u3⟩ := k9_keeps (sl := sl) (sx := sx) (d := 998) (M := R1)
    obtain ⟨R3, e3⟩ : ∃ R3, R3 = ((q_up (q_up (q_up R2.1 48 31 (nI f)) 48 32 (nI m)) 48 33 v, R2.2) : QM) := ⟨_, rfl⟩
    have f13 : Fr [64, 4831, 4832, 4833] R1 R3 := by
      rw [e3]
      exact fr_up rfl (fr_up rfl (fr_up rfl (fr_mo rfl u2)))
    have f03 : Fr kY M R3 := fr_tr (fr_tr h0 p2) (fr_mo rfl f13)
    have hF3 := jF_fr rfl f03 hF
    have m31 : R3.1 48 31 = nI f := by
      rw [e3]
      dsimp only
      simp (disch := omega) only [q_up_s, q_up_a, q_up_k, q_uc_a, q_uc_s]
    have m32 : R3.1 48 32 = nI m := by
      rw [e3]
      dsimp only
      simp (disch := omega) only [q_up_s, q_up_a, q_up_k, q_uc_a, q_uc_s]
    have m33 : R3.1 48 33 = v := by
      rw [e3]
      dsimp only
      simp (disch := omega) only [q_up_s, q_up_a, q_up_k, q_uc_a, q_uc_s]
    have m30 : R3.1 48 30 = 0 := (f13.1 48 30 rfl).trans p4
    have m34 : R3.1 48 34 = 0 := (f13.1 48 34 rfl).trans p6
    have m65 : ∀ k, k ≤ 300 → R3.1 65 k = 0 := fun k hk => (f13.1 65 k rfl).trans (p7 k hk)
    have es : ∀ h k j, k ≤ 300 → j < n → rS R3 h k j = oS (M.1 6) f m v h k j := by
      intro h k j hk hj
      unfold rS rG oS
      rw [if_pos (m65 k hk), m31, m32, m33, m30, m34, if_neg (bt_0 j (by omega)), if_neg (bt_0 j (by omega)), jf_sgn hF3 hj, n6_kY f03]
      by_cases c : j = f ∧ k = m
      · rw [if_pos c, if_pos ⟨by rw [c.1], by rw [c.2]⟩]
      · rw [if_neg c, if_neg]
        rintro ⟨w1, w2⟩
        have w1 := congrArg Int32.toInt w1
        have w2 := congrArg Int32.toInt w2
        rw [nI_toInt (by omega), nI_toInt (by omega)] at w1 w2
        exact c ⟨by omega, by omega⟩
    obtain ⟨R4, g1, g2, g3⟩ := k9_goes (sl := sl) (sx := sx) (d := 796) (x := 300) (rj_jf hF3) (jL_fr rfl f03 hL) (fun h k hk hh j hj => by
      rw [es h k j (by omega) hj]
      unfold oS
      split
      · exact vR
      · exact sgn_R (hF.2.2.2.1 j hj) hh) n300.1
    have g3' : ∀ j, j ≤ 300 → R4.1 61 j = O j := fun j hj => by
      rw [g3 j (by rw [n300.2]; exact hj), st_kY f03, n6_kY f03, eO]
      exact dyS_congr (N := 300) hb (st_T M) (fun h k j hk hh hj => es h k j (by omega) hj) hj
    have h64 : ∀ j, j ≤ 300 → R4.1 64 j = D j := fun j hj => by
      have w3 : R3.1 64 j = R2.1 64 j := by
        rw [e3]
        dsimp only
        rw [q_up_a _ _ _ _ (by decide), q_up_a _ _ _ _ (by decide), q_up_a _ _ _ _ (by decide)]
      rw [g2.1 64 j rfl, w3, u3 j hj, p3 j hj]
    obtain ⟨R5, e5⟩ : ∃ R5, R5 = ((q_up R4.1 48 31 (-1), R4.2) : QM) := ⟨_, rfl⟩
    have f05 : Fr kY R0 R5 := by
      rw [e5]
      exact fr_up rfl (fr_tr (fr_tr p2 (fr_mo rfl f13)) (fr_mo rfl g2))
    have h61' : ∀ j, j ≤ 300 → R5.1 61 j = O j := fun j hj => by
      rw [e5]
      dsimp only
      rw [q_up_a _ _ _ _ (by decide)]
      exact g3' j hj
    have h64' : ∀ j, j ≤ 300 → R5.1 64 j = D j := fun j hj => by
      rw [e5]
      dsimp only
      rw [q_up_a _ _ _ _ (by decide)]
      exact h64 j hj
    obtain ⟨M', z1, z2⟩ := q_ff (fun k i M' => qF sl sx 999 214 k 79 [some (.ref 48), none, none, some (.int (nI i))] [] M') [] E 301 (fun _ M' => M' = R5) (fun k i M' hi hI => by
        subst hI
        refine ⟨M', fr_rf, ?_⟩
        have q1 : ¬ (nI i < 0 ∨ 301 ≤ (nI i).toNatClampNeg) := nI_in (by omega) (by decide)
        rw [b_X9_changesIt_79, if_neg (show ¬ (300 : Int32) < nI i by rw [Int32.lt_iff_toInt_lt, nI_toInt (by omega), qv_300]; omega), if_neg q1, if_neg q1, nI_clamp (by omega), h61' i (by omega), h64' i (by omega), nI_1, eE]
        by_cases c : O i = D i
        · right
          refine ⟨decide_eq_false (fun q => q c), rfl, ?_⟩
          rw [if_pos c]
        · left
          refine ⟨decide_eq_true c, ?_⟩
          rw [if_neg c]) (fun k M' hI => by
        subst hI
        rw [b_X9_changesIt_79, if_pos (by decide)]) 301 0 q_n1 R5 (by omega) (q_n1b (by omega)) rfl
    refine ⟨M', ?_, fr_tr f05 (fr_mo rfl z2)⟩
    rw [e_X9_changesIt, b_X9_changesIt_0, if_neg x0, ef, k9_isFarmJ hF0, if_pos q2, q_bi_s, if_neg n10, ← ef, ← ev, if_neg w, k9_isMinute, if_pos r, q_bi_s, if_neg n10, p1, q_bv_s, u1, q_bv_s, ef, ← e3, g1, q_bv_s, ← e5]
    exact z1
  have Ef : ∀ j, O j = D j → E j = false := fun j e => by rw [eE]; exact decide_eq_false (fun q => q e)
  by_cases m3 : m = 300
  · obtain ⟨M7, z1, z2⟩ := ref M5 f5
    have hv : ff E 301 0 = -2 := ff_no 301 0 (fun j _ hj => Ef j (hOle j (by omega)))
    rw [hv] at z1
    refine ⟨-2, M5, M7, ?_, z1, ja_kY z2 (ja_kY f5 hJ)⟩
    rw [e_X8_changesIt, b_X8_changesIt_0, if_neg x0, ef, k_isFarmJ hF, if_pos q2, q_bi_s, if_neg n10, ← ef, ← ev, k_w3, if_pos v3, q_bi_s, if_neg n10, k_w300, if_pos r, q_bi_s, if_neg n10, a1, q_bv_s, b1, q_bv_s, c1, q_bi_s, ef, kd, q_bi_s, k1, q_bv_s, k2, q_bv_s, if_pos (show (300 : Int32) ≤ nI m by rw [m3]; decide)]
  · have n3 : ¬ (300 : Int32) ≤ nI m := by rw [Int32.le_iff_toInt_le, nI_toInt (by omega), qv_300]; omega
    obtain ⟨M7, z1, z2⟩ := ref M6 f6
    by_cases c : O (m + 1) = D (m + 1)
    · have hv : ff E 301 0 = -2 := ff_no 301 0 (fun j _ _ => Ef j (hOeq c j))
      rw [hv] at z1
      refine ⟨-2, M6, M7, ?_, z1, ja_kY z2 (ja_kY f6 hJ)⟩
      rw [e_X8_changesIt, b_X8_changesIt_0, if_neg x0, ef, k_isFarmJ hF, if_pos q2, q_bi_s, if_neg n10, ← ef, ← ev, k_w3, if_pos v3, q_bi_s, if_neg n10, k_w300, if_pos r, q_bi_s, if_neg n10, a1, q_bv_s, b1, q_bv_s, c1, q_bi_s, ef, kd, q_bi_s, k1, q_bv_s, k2, q_bv_s, if_neg n3, d1, q_bi_s, if_pos c]
    · have hv : ff E 301 0 = nI (m + 1) := ff_at (p := m + 1) (by rw [eE]; exact decide_eq_true c) 301 0 (Nat.zero_le _) (by omega) (fun j _ hj => Ef j (hOle j (by omega)))
      rw [hv] at z1
      refine ⟨nI (m + 1), M6, M7, ?_, z1, ja_kY z2 (ja_kY f6 hJ)⟩
      rw [e_X8_changesIt, b_X8_changesIt_0, if_neg x0, ef, k_isFarmJ hF, if_pos q2, q_bi_s, if_neg n10, ← ef, ← ev, k_w3, if_pos v3, q_bi_s, if_neg n10, k_w300, if_pos r, q_bi_s, if_neg n10, a1, q_bv_s, b1, q_bv_s, c1, q_bi_s, ef, kd, q_bi_s, k1, q_bv_s, k2, q_bv_s, if_neg n3, d1, q_bi_s, if_neg c, nI_1]
end ODD
