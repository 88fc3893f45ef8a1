/-! PAIRS: spare, byWhom, send, asTold, deaf (wip/whole/f) -/
theorem q_lz {R σ : Type} (F : Nat → Nat → σ → QM → Option R) (l : List Nat) (M0 : QM) (N : Nat) (st : Nat → σ) (Q : Option R → Prop) (step : ∀ k i M, i < N → Fr l M0 M → ∃ M', Fr l M0 M' ∧ F (k + 1) i (st i) M = F k (i + 1) (st (i + 1)) M') (fin : ∀ k M, Fr l M0 M → Q (F (k + 1) N (st N) M)) : ∀ i k M, i ≤ N → N - i < k → Fr l M0 M → Q (F k i (st i) M) := by
  intro i k
  induction k generalizing i with
  | zero => intro M hi hk _; omega
  | succ k ih =>
    intro M hi hk hM
    rcases Nat.lt_or_eq_of_le hi with h | h
    · obtain ⟨M', h1, h2⟩ := step k i M h hM
      rw [h2]
      exact ih (i + 1) M' h (by omega) h1
    · rw [h]
      exact fin k M hM
def kZ : List Nat := [7, 8, 11, 12, 13, 1703, 19]
def b1 (f : Nat) : Int32 := 1 <<< (nI f &&& 31)
def eD (M : QM) (n : Nat) (set : Int32) : Nat := sf (dyM M n set) 301
def spS (E : Nat → Nat) : Nat → Option (Nat × Nat)
  | 0 => none
  | f + 1 => match spS E f with
    | none => some (f, E f)
    | some p => if E f < p.2 then some (f, E f) else some p
theorem spS_b {E : Nat → Nat} (hE : ∀ f, E f ≤ 301) : ∀ k p, spS E k = some p → p.1 < k ∧ p.2 ≤ 301 := by
  intro k
  induction k with
  | zero => intro p e; exact absurd e (by simp [spS])
  | succ k ih =>
    intro p e
    rw [spS] at e
    cases hr : spS E k with
    | none =>
      rw [hr] at e
      dsimp only at e
      injection e with e
      subst e
      exact ⟨Nat.lt_succ_self k, hE k⟩
    | some q =>
      rw [hr] at e
      dsimp only at e
      have := ih q hr
      split at e
      · injection e with e
        subst e
        exact ⟨Nat.lt_succ_self k, hE k⟩
      · injection e with e
        subst e
        exact ⟨by omega, this.2⟩
def spA (o : Option (Nat × Nat)) : Int32 := match o with
  | none => -2
  | some p => nI p.1
def spB (z : Int32) (o : Option (Nat × Nat)) : Int32 := match o with
  | none => z
  | some p => nI p.2
def spV (x : Int32) (o : Option (Nat × Nat)) : Int32 := if x = 0 then spA o else match o with
  | none => -2
  | some p => enV p.2
theorem nI_m2 {a : Nat} (ha : a < 2 ^ 31) : ¬ nI a = -2 := fun e => by
  have := nI_pos ha
  rw [e] at this
  exact this (by decide)
section DEAF
variable {sl : Nat} {sx : Nat → Int32} {d n s : Nat} {M : QM} {x y z set : Int32}
theorem q_cell6 : q_cell qG0 (qX sl sx) 6 = some (10, 53, []) := rfl
theorem q_cell8 : q_cell qG0 (qX sl sx) 8 = some (10, 53, []) := rfl
theorem k_copyF : ∃ M', qK sl sx (d + 1) 15 [.ref 7, .ref 5] M = some (none, M') ∧ Fr [7, 8] M M' ∧ M'.1 7 1 = M.1 5 1 ∧ ∀ i, i < 53 → M'.1 8 i = M.1 6 i := by
  rw [e_X2_copyOf, b_X2_copyOf_0, qF_A (Or.inl rfl), qF_A (Or.inr rfl), qF_A (Or.inr rfl), qF_len (Or.inr rfl), k_cpyI (k := 0) q_cell6 q_cell8 (by decide), qF_O (Or.inl rfl), qF_O (Or.inr rfl)]
  refine ⟨_, rfl, fr_up rfl (fr_uc (fun _ => rfl) fr_rf), ?_, fun i hi => ?_⟩
  · dsimp only
    simp (disch := omega) only [q_up_s, q_up_a, q_up_k, q_uc_a, q_uc_s]
  · dsimp only
    simp (disch := omega) only [q_up_s, q_up_a, q_up_k, q_uc_a, q_uc_s]
    unfold va_cpy
    rw [if_pos ⟨Nat.zero_le _, by omega⟩]
    show M.1 6 (0 + (i - 0)) = M.1 6 i
    rw [Nat.zero_add, Nat.sub_zero]
theorem k_slot7 {m f c : Nat} (h : M.1 7 1 = nI m) (hm : m ≤ 10) (hf : f < m) (hc : c < 5) : qK sl sx (d + 2) 17 [.ref 7, .int (nI f), .int (nI c)] M = some (some (.int (nI (5 * f + c))), M) := by
  rw [k_slotOf (Or.inr rfl), h, nI_toInt (show c < 2 ^ 31 by omega), nI_toInt (show f < 2 ^ 31 by omega), nI_toInt (show m < 2 ^ 31 by omega), if_neg (by omega), if_pos (by omega)]
  have e5 : (5 : Int32) = nI 5 := by decide
  rw [e5, pk_mul, nI_add, Nat.mul_comm]
theorem k_write7 {i : Nat} (h : i < 53) : qK sl sx (d + 1) 19 [.ref 7, .int (nI i), .int x] M = some (none, (q_up M.1 8 i x, M.2)) := by
  rw [k_write (Or.inr rfl), nI_toInt (by omega), if_pos ⟨by omega, by omega⟩, Int.toNat_natCast]
theorem k_thinkDeaf (hF : JF n M) : ∃ M', qK sl sx (d + 3) 140 [.ref 4, .int set] M = some (none, M') ∧ Fr [7, 8] M M' ∧ M'.1 7 1 = nI n ∧ ∀ i, i < 53 → M'.1 8 i = if i % 5 = 1 ∧ i / 5 < n ∧ bt set (i / 5) then 1 else M.1 6 i := by
  have hn := hF.1
  obtain ⟨M1, a1, a2, a3, a4⟩ := k_copyF (sl := sl) (sx := sx) (d := d + 1) (M := M)
  rw [e_X8_thinkDeaf, b_X8_thinkDeaf_0, a1, q_bv_s]
  refine q_lu (fun k i (_ : Unit) M' => qF sl sx (d + 2) 140 k 13 [some (.ref 4), some (.int set), some (.int (nI i))] [] M') n (fun i _ M' => Fr [7, 8] M M' ∧ M'.1 7 1 = nI n ∧ ∀ q, q < 53 → M'.1 8 q = if q % 5 = 1 ∧ q / 5 < i ∧ bt set (q / 5) then 1 else M.1 6 q) (fun o => ∃ M', o = some (none, M') ∧ Fr [7, 8] M M' ∧ M'.1 7 1 = nI n ∧ ∀ i, i < 53 → M'.1 8 i = if i % 5 = 1 ∧ i / 5 < n ∧ bt set (i / 5) then 1 else M.1 6 i) (fun k i _ M' hi hI => ?_) (fun k _ M' hI => ?_) (i := 0) (s := ()) (Nat.zero_le _) (q_n1b (by omega)) ⟨a2, a3.trans hF.2.1, fun q hq => by rw [a4 q hq, if_neg (by omega)]⟩
  · obtain ⟨i1, i2, i3⟩ := hI
    right
    have e51 : M'.1 5 1 = nI n := (i1.1 5 1 rfl).trans hF.2.1
    by_cases c : bt set i
    · have s1 := k_slot7 (sl := sl) (sx := sx) (d := d) i2 hn hi (show 1 < 5 by decide)
      refine ⟨(), (q_up M'.1 8 (5 * i + 1) 1, M'.2), ⟨fr_up rfl i1, ?_, fun q hq => ?_⟩, ?_⟩
      · dsimp only
        rw [q_up_a _ _ _ _ (by decide)]
        exact i2
      · dsimp only
        by_cases w : q = 5 * i + 1
        · have d5 : (5 * i + 1) / 5 = i := by omega
          rw [w, q_up_s, d5, if_pos ⟨by omega, by omega, c⟩]
        · rw [q_up_k _ _ _ _ w, i3 q hq]
          by_cases v : q % 5 = 1 ∧ q / 5 < i ∧ bt set (q / 5)
          · rw [if_pos v, if_pos ⟨v.1, by omega, v.2.2⟩]
          · rw [if_neg v, if_neg]
            rintro ⟨v1, v2, v3⟩
            exact v ⟨v1, by omega, v3⟩
      · rw [b_X8_thinkDeaf_13, e51, if_neg (nI_ge hi (by omega)), if_pos c]
        have s1' : qK sl sx (d + 2) 17 [.ref 7, .int (nI i), .int 1] M' = some (some (.int (nI (5 * i + 1))), M') := s1
        rw [s1', q_bi_s, k_write7 (by omega), q_bv_s, nI_1]
    · refine ⟨(), M', ⟨i1, i2, fun q hq => ?_⟩, ?_⟩
      · rw [i3 q hq]
        by_cases v : q % 5 = 1 ∧ q / 5 < i ∧ bt set (q / 5)
        · rw [if_pos v, if_pos ⟨v.1, by omega, v.2.2⟩]
        · rw [if_neg v, if_neg]
          rintro ⟨v1, v2, v3⟩
          by_cases w : q / 5 = i
          · rw [w] at v3; exact c v3
          · exact v ⟨v1, by omega, v3⟩
      · rw [b_X8_thinkDeaf_13, e51, if_neg (nI_ge hi (by omega)), if_neg c, nI_1]
  · obtain ⟨i1, i2, i3⟩ := hI
    refine ⟨M', ?_, i1, i2, i3⟩
    rw [b_X8_thinkDeaf_13, i1.1 5 1 rfl, hF.2.1, if_pos (Int32.le_refl _)]
/-- a thought field with some farms deaf -/
theorem td_FD {M' : QM} (hF : JF n M) (f : Fr [7, 8] M M') (h7 : M'.1 7 1 = nI n) (h8 : ∀ i, i < 53 → M'.1 8 i = if i % 5 = 1 ∧ i / 5 < n ∧ bt set (i / 5) then 1 else M.1 6 i) : FD M' 7 n ∧ ∀ j, dyS (M'.1 8 51) (fS (M'.1 8)) n (ST M') j = dyM M n set j := by
  have hn := hF.1
  have e50 : M'.1 8 50 = M.1 6 50 := by rw [h8 50 (by decide), if_neg (by omega)]
  have e51 : M'.1 8 51 = M.1 6 51 := by rw [h8 51 (by decide), if_neg (by omega)]
  have e0 : ∀ j, j < n → M'.1 8 (5 * j) = M.1 6 (5 * j) := fun j hj => by rw [h8 _ (by omega), if_neg (by omega)]
  have e2 : ∀ j, j < n → M'.1 8 (5 * j + 2) = M.1 6 (5 * j + 2) := fun j hj => by rw [h8 _ (by omega), if_neg (by omega)]
  have e3 : ∀ j, j < n → M'.1 8 (5 * j + 3) = M.1 6 (5 * j + 3) := fun j hj => by rw [h8 _ (by omega), if_neg (by omega)]
  have e4 : ∀ j, j < n → M'.1 8 (5 * j + 4) = M.1 6 (5 * j + 4) := fun j hj => by rw [h8 _ (by omega), if_neg (by omega)]
  have e1 : ∀ j, j < n → M'.1 8 (5 * j + 1) = if bt set j then 1 else M.1 6 (5 * j + 1) := fun j hj => by
    have d5 : (5 * j + 1) / 5 = j := by omega
    rw [h8 _ (by omega), d5]
    by_cases c : bt set j
    · rw [if_pos ⟨by omega, hj, c⟩, if_pos c]
    · rw [if_neg (fun q => c q.2.2), if_neg c]
  have es : ST M' = ST M := st_fr (f.1 17 1 rfl) (funext fun k => f.1 18 k rfl) (f.1 6 50 rfl)
  refine ⟨⟨h7, hn, fun j hj => ?_, by rw [e50, f.1 6 50 rfl], by rw [e51]; exact (jf_FD hF).2.2.2.2⟩, fun j => ?_⟩
  · have := hF.2.2.2.1 j hj
    unfold Rg at this ⊢
    rw [e0 j hj, e1 j hj, e2 j hj, e3 j hj, e4 j hj]
    by_cases c : bt set j
    · rw [if_pos c]
      obtain ⟨r0, r1, r2, r3, r4⟩ := this
      exact ⟨r0, r1, by decide, by decide, r4⟩
    · rw [if_neg c]; exact this
  · rw [e51, es]
    refine dyS_congr (N := j) (jf_FD hF).2.2.2.2 (st_T M) (fun h m k hm hh hk => ?_) (Nat.le_refl j)
    unfold mS
    by_cases c : bt set k
    · rw [if_pos c]
      unfold fS sgn
      rw [e1 k hk, if_pos c, if_neg n10, if_pos rfl]
    · rw [if_neg c]
      exact sgn_congr (e0 k hk) ((e1 k hk).trans (if_neg c)) (e2 k hk) (e3 k hk) (e4 k hk) (fun _ _ => rfl)
theorem k_dayM (hF : JF n M) (hx : x.toInt ≤ 300) : ∃ M1 M', qK sl sx (d + 7) 140 [.ref 4, .int set] M = some (none, M1) ∧ qK sl sx (d + 7) 134 [.ref 4, .ref 7, .ref 11, .int x] M1 = some (none, M') ∧ Fr kZ M M' ∧ TW M' 11 x.toInt.toNat (dyM M n set) := by
  obtain ⟨M1, a1, a2, a3, a4⟩ := k_thinkDeaf (sl := sl) (sx := sx) (d := d + 4) (M := M) (set := set) hF
  obtain ⟨g1, g2⟩ := td_FD hF a2 a3 a4
  obtain ⟨M', h1, h2, h3⟩ := k_ringDay (sl := sl) (sx := sx) (d := d) (x := x) (f := 7) (t := 11) (Or.inr rfl) (Or.inr (Or.inl rfl)) g1 hx
  exact ⟨M1, M', a1, h1, fr_t2 rfl rfl a2 h2, tw_congr (fun j hj => (dyS_dt hj).trans (g2 j)) h3⟩
theorem dyM_kZ {M' : QM} (f : Fr kZ M M') : dyM M' n set = dyM M n set := dyM_kY (fr_mo rfl f)
theorem k9_endW (hF : JF n M) (hL : JL M) : ∃ M', qK sl sx (d + 204) 209 [.ref 48, .int set] M = some (some (.int (nI (eD M n set))), M') ∧ Fr kY M M' := by
  obtain ⟨M1, M', a1, a2, a3, a4, _⟩ := k9_mute (sl := sl) (sx := sx) (d := d) (x := 300) (set := set) hF hL n300.1
  rw [n300.2] at a4
  refine ⟨M', ?_, a3⟩
  rw [e_X9_endWithout, b_X9_endWithout_0, a1, q_bv_s, a2, q_bv_s, k9_end a4, q_bi_s]
  rfl
theorem p_spare (x : Int32) : QPi sl sx JA 95 210 [.int x] := by
  intro M hJ
  obtain ⟨n, b, hF, hT, hL, hC, hD, hK, hS, hH⟩ := id hJ
  have hn := hF.1
  by_cases w : rg x 1
  rotate_left
  · refine ⟨-1, M, M, ?_, ?_, hJ⟩
    · rw [e_X8_spare, b_X8_spare_0, k_w1, if_neg w, q_bi_s, if_pos rfl]
    · rw [e_X9_spare, b_X9_spare_0, k9_w1, if_neg w, q_bi_s, if_pos rfl]
  obtain ⟨E, hE⟩ : ∃ E : Nat → Nat, E = fun f => eD M n (b1 f) := ⟨_, rfl⟩
  have hE3 : ∀ f, E f ≤ 301 := fun f => by rw [hE]; exact sf_le _ _
  have cl : ∃ M', qF sl sx 999 95 q_n1 20 [some (.ref 4), some (.int x), some (.int (-2)), some (.int 302), some (.int 0), none, none] [] M = some (some (.int (spV x (spS E n))), M') ∧ Fr kZ M M' := by
    refine q_lz (fun k i (_ : Unit) M' => qF sl sx 999 95 k 20 [some (.ref 4), some (.int x), some (.int (spA (spS E i))), some (.int (spB 302 (spS E i))), some (.int (nI i)), none, none] [] M') kZ M n (fun _ => ()) (fun o => ∃ M', o = some (some (.int (spV x (spS E n))), M') ∧ Fr kZ M M') (fun k i M' hi hM => ?_) (fun k M' hM => ?_) 0 q_n1 M (Nat.zero_le _) (q_n1b (by omega)) fr_rf
    · obtain ⟨M1, M2, a1, a2, a3, a4⟩ := k_dayM (sl := sl) (sx := sx) (d := 992) (x := 300) (set := b1 i) (jF_fr rfl hM hF) n300.1
      rw [n300.2, dyM_kZ hM] at a4
      have ks := k_silent (sl := sl) (sx := sx) (d := 997) (Or.inr (Or.inl rfl)) a4
      have eE : sf (dyM M n (b1 i)) 301 = E i := by rw [hE]; rfl
      rw [eE] at ks
      refine ⟨M2, fr_tr hM a3, ?_⟩
      rw [b_X8_spare_20, hM.1 5 1 rfl, hF.2.1, if_neg (nI_ge hi (by omega))]
      show q_bv (qK sl sx 999 140 [.ref 4, .int (b1 i)] M') _ = _
      rw [a1, q_bv_s, a2, q_bv_s, ks, q_bi_s, nI_1]
      have hi3 := hE3 i
      rw [spS]
      unfold enV
      by_cases c : E i ≤ 300
      · rw [if_pos c, if_neg (nI_m2 (by omega))]
        cases hr : spS E i with
        | none =>
          show (if (302 : Int32) ≤ nI (E i) then _ else _) = _
          rw [if_neg (show ¬ (302 : Int32) ≤ nI (E i) by rw [Int32.le_iff_toInt_le, nI_toInt (by omega), show (302 : Int32).toInt = 302 by decide]; omega)]
          rfl
        | some p =>
          have hp := spS_b hE3 i p hr
          show (if nI p.2 ≤ nI (E i) then _ else _) = _
          dsimp only
          by_cases q : E i < p.2
          · rw [if_neg (nI_ge q (by omega)), if_pos q]
            rfl
          · rw [if_pos (nI_le (by omega) (by omega)), if_neg q]
      · have e301 : E i = 301 := by omega
        rw [if_neg c, if_pos rfl]
        cases hr : spS E i with
        | none =>
          show (if (302 : Int32) ≤ 301 then _ else _) = _
          rw [if_neg (by decide), e301]
          rfl
        | some p =>
          have hp := spS_b hE3 i p hr
          show (if nI p.2 ≤ (301 : Int32) then _ else _) = _
          dsimp only
          rw [if_pos (show nI p.2 ≤ 301 by rw [Int32.le_iff_toInt_le, nI_toInt (by omega), qv_301]; omega), if_neg (by omega)]
    · refine ⟨M', ?_, hM⟩
      rw [b_X8_spare_20, hM.1 5 1 rfl, hF.2.1, if_pos (Int32.le_refl _)]
      unfold spV
      by_cases x0 : x = 0
      · rw [if_pos x0, if_pos x0]
      · rw [if_neg x0, if_neg x0]
        cases hr : spS E n with
        | none =>
          show (if (302 : Int32) ≤ 300 then _ else _) = _
          rw [if_neg (by decide)]
        | some p =>
          have hp := spS_b hE3 n p hr
          show (if nI p.2 ≤ (300 : Int32) then some (some (Value.int (nI p.2)), M') else some (some (Value.int (-2)), M')) = some (some (Value.int (enV p.2)), M')
          unfold enV
          by_cases q : p.2 ≤ 300
          · rw [if_pos (show nI p.2 ≤ 300 by rw [Int32.le_iff_toInt_le, nI_toInt (by omega), qv_300]; omega), if_pos q]
          · rw [if_neg (show ¬ nI p.2 ≤ 300 by rw [Int32.le_iff_toInt_le, nI_toInt (by omega), qv_300]; omega), if_neg q]
  obtain ⟨M1, c1, c2⟩ := cl
  have f1 : Fr kY M M1 := fr_mo rfl c2
  have hF1 := jF_fr rfl f1 hF
  have hL1 := jL_fr rfl f1 hL
  have rf : ∃ M', qF sl sx 999 210 q_n1 22 [some (.ref 48), some (.int x), some (.int (-2)), some (.int 301), some (.int 0), none] [] M1 = some (some (.int (spV x (spS E n))), M') ∧ Fr kY M1 M' := by
    refine q_lz (fun k i (_ : Unit) M' => qF sl sx 999 210 k 22 [some (.ref 48), some (.int x), some (.int (spA (spS E i))), some (.int (spB 301 (spS E i))), some (.int (nI i)), none] [] M') kY M1 n (fun _ => ()) (fun o => ∃ M', o = some (some (.int (spV x (spS E n))), M') ∧ Fr kY M1 M') (fun k i M' hi hM => ?_) (fun k M' hM => ?_) 0 q_n1 M1 (Nat.zero_le _) (q_n1b (by omega)) fr_rf
    · obtain ⟨M2, a1, a2⟩ := k9_endW (sl := sl) (sx := sx) (d := 795) (set := b1 i) (jF_fr rfl hM hF1) (jL_fr rfl hM hL1)
      have eE : eD M' n (b1 i) = E i := by
        rw [hE]
        unfold eD
        rw [dyM_kY hM, dyM_kY f1]
      rw [eE] at a1
      refine ⟨M2, fr_tr hM a2, ?_⟩
      rw [b_X9_spare_22, hM.1 48 0 rfl, hF1.2.2.1, if_neg (nI_ge hi (by omega))]
      show q_bi (qK sl sx 999 209 [.ref 48, .int (b1 i)] M') _ = _
      rw [a1, q_bi_s, nI_1, spS]
      have hi3 := hE3 i
      cases hr : spS E i with
      | none =>
        show (if (-2 : Int32) = -2 then _ else _) = _
        rw [if_pos rfl]
        rfl
      | some p =>
        have hp := spS_b hE3 i p hr
        show (if nI p.1 = -2 then _ else _) = _
        rw [if_neg (nI_m2 (by omega))]
        show (if nI (E i) < nI p.2 then _ else _) = _
        dsimp only
        by_cases q : E i < p.2
        · rw [if_pos (nI_lt q (by omega)), if_pos q]
          rfl
        · rw [if_neg (nI_nlt (by omega) (by omega)), if_neg q]
    · refine ⟨M', ?_, hM⟩
      rw [b_X9_spare_22, hM.1 48 0 rfl, hF1.2.2.1, if_pos (Int32.le_refl _)]
      unfold spV
      by_cases x0 : x = 0
      · rw [if_pos x0, if_pos x0]
      · rw [if_neg x0, if_neg x0]
        cases hr : spS E n with
        | none =>
          show q_bi (qK sl sx 999 204 [.ref 48, .int (nI 301)] M') _ = _
          rw [k9_endOr (Nat.le_refl _), q_bi_s]
          rfl
        | some p =>
          have hp := spS_b hE3 n p hr
          show q_bi (qK sl sx 999 204 [.ref 48, .int (nI p.2)] M') _ = _
          rw [k9_endOr hp.2, q_bi_s]
  obtain ⟨M2, r1, r2⟩ := rf
  refine ⟨spV x (spS E n), M1, M2, ?_, ?_, ja_kY r2 (ja_kY f1 hJ)⟩
  · rw [e_X8_spare, b_X8_spare_0, k_w1, if_pos w, q_bi_s, if_neg n10]
    exact c1
  · rw [e_X9_spare, b_X9_spare_0, k9_w1, if_pos w, q_bi_s, if_neg n10]
    exact r1
def bwS (g : Nat → Int32) (v : Int32) : Nat → Int32
  | 0 => 0
  | f + 1 => if g f = v then bwS g v f else bwS g v f ||| b1 f
theorem p_byWhom (x : Int32) : QPi sl sx JA 98 215 [.int x] := by
  intro M hJ
  obtain ⟨n, b, hF, hT, hL, hC, hD, hK, hS, hH⟩ := id hJ
  have hn := hF.1
  by_cases r : rg x 300
  rotate_left
  · refine ⟨-1, M, M, ?_, ?_, hJ⟩
    · rw [e_X8_byWhom, b_X8_byWhom_0, k_w300, if_neg r, q_bi_s, if_pos rfl]
    · rw [e_X9_byWhom, b_X9_byWhom_0, k9_isMinute, if_neg r, q_bi_s, if_pos rfl]
  obtain ⟨m, rfl, hm⟩ := rgN300 r
  obtain ⟨i1, i2⟩ := nI300 hm
  obtain ⟨M1, a1, a2, a3⟩ := k_dayP (sl := sl) (sx := sx) (d := 992) (x := nI m) (t := 9) hF (Or.inl rfl) i1
  rw [i2] at a3
  have f1 : Fr kY M M1 := fr_tY (Or.inl rfl) a2
  have hF1 := jF_fr rfl f1 hF
  obtain ⟨g, hg⟩ : ∃ g : Nat → Int32, g = fun f => dyM M n (b1 f) m := ⟨_, rfl⟩
  have cl : ∃ M', qF sl sx 999 98 q_n1 29 [some (.ref 4), some (.int (nI m)), some (.int 0), some (.int 0)] [] M1 = some (some (.int (bwS g (dyP M n m) n)), M') ∧ Fr kZ M1 M' := by
    refine q_lz (fun k i (a : Int32) M' => qF sl sx 999 98 k 29 [some (.ref 4), some (.int (nI m)), some (.int a), some (.int (nI i))] [] M') kZ M1 n (fun i => bwS g (dyP M n m) i) (fun o => ∃ M', o = some (some (.int (bwS g (dyP M n m) n)), M') ∧ Fr kZ M1 M') (fun k i M' hi hM => ?_) (fun k M' hM => ?_) 0 q_n1 M1 (Nat.zero_le _) (q_n1b (by omega)) fr_rf
    · obtain ⟨M2, M3, c1, c2, c3, c4⟩ := k_dayM (sl := sl) (sx := sx) (d := 992) (x := nI m) (set := b1 i) (jF_fr rfl hM hF1) i1
      rw [i2, dyM_kZ hM, dyM_kY f1] at c4
      have h9 : TW M3 9 m (dyP M n) := tw_fr (fun k => (c3.1 9 k rfl).trans (hM.1 9 k rfl)) (fun k => (c3.1 10 k rfl).trans (hM.1 10 k rfl)) a3
      refine ⟨M3, fr_tr hM c3, ?_⟩
      rw [b_X8_byWhom_29, hM.1 5 1 rfl, hF1.2.1, if_neg (nI_ge hi (by omega))]
      show q_bv (qK sl sx 999 140 [.ref 4, .int (b1 i)] M') _ = _
      rw [c1, q_bv_s, c2, q_bv_s, k_atN (Or.inr (Or.inl rfl)) c4 (Nat.le_refl m), q_bi_s, k_atN (Or.inl rfl) h9 (Nat.le_refl m), q_bi_s, nI_1]
      have eg : dyM M n (b1 i) m = g i := by rw [hg]
      rw [eg, bwS]
      by_cases c : g i = dyP M n m
      · rw [if_pos c, if_pos c]
      · rw [if_neg c, if_neg c]
        rfl
    · refine ⟨M', ?_, hM⟩
      rw [b_X8_byWhom_29, hM.1 5 1 rfl, hF1.2.1, if_pos (Int32.le_refl _)]
  obtain ⟨M2, c1, c2⟩ := cl
  have f2 : Fr kY M M2 := fr_tr f1 (fr_mo rfl c2)
  have hF2 := jF_fr rfl f2 hF
  have hL2 := jL_fr rfl f2 hL
  obtain ⟨M3, d1, d2, d3, _⟩ := k9_goesPlain (sl := sl) (sx := sx) (d := 795) (x := nI m) hF2 hL2 i1
  rw [i2, dyP_kY f2] at d3
  have rf : ∃ M', qF sl sx 999 215 q_n1 27 [some (.ref 48), some (.int (nI m)), some (.int (dyP M n m)), some (.int 0), some (.int 0)] [] M3 = some (some (.int (bwS g (dyP M n m) n)), M') ∧ Fr kY M3 M' := by
    refine q_lz (fun k i (a : Int32) M' => qF sl sx 999 215 k 27 [some (.ref 48), some (.int (nI m)), some (.int (dyP M n m)), some (.int a), some (.int (nI i))] [] M') kY M3 n (fun i => bwS g (dyP M n m) i) (fun o => ∃ M', o = some (some (.int (bwS g (dyP M n m) n)), M') ∧ Fr kY M3 M') (fun k i M' hi hM => ?_) (fun k M' hM => ?_) 0 q_n1 M3 (Nat.zero_le _) (q_n1b (by omega)) fr_rf
    · have hF3 := jF_fr rfl hM (jF_fr rfl d2 hF2)
      obtain ⟨M4, M5, g1, g2, g3, g4, _⟩ := k9_mute (sl := sl) (sx := sx) (d := 796) (x := nI m) (set := b1 i) hF3 (jL_fr rfl hM (jL_fr rfl d2 hL2)) i1
      rw [i2, dyM_kY hM, dyM_kY d2, dyM_kY f2] at g4
      refine ⟨M5, fr_tr hM g3, ?_⟩
      rw [b_X9_byWhom_27, hM.1 48 0 rfl, d2.1 48 0 rfl, hF2.2.2.1, if_neg (nI_ge hi (by omega)), g1, q_bv_s]
      show q_bv (qK sl sx 999 196 [.ref 48, .int (nI m)] (q_up M4.1 48 30 (b1 i), M4.2)) _ = _
      rw [g2, q_bv_s, if_neg (nI_in (by omega) (by decide)), nI_clamp (by omega), g4 m (Nat.le_refl m), nI_1]
      have eg : dyM M n (b1 i) m = g i := by rw [hg]
      rw [eg, bwS]
      by_cases c : g i = dyP M n m
      · rw [if_pos c, if_pos c]
      · rw [if_neg c, if_neg c]
        rfl
    · refine ⟨M', ?_, hM⟩
      rw [b_X9_byWhom_27, hM.1 48 0 rfl, d2.1 48 0 rfl, hF2.2.2.1, if_pos (Int32.le_refl _)]
  obtain ⟨M4, r1, r2⟩ := rf
  refine ⟨bwS g (dyP M n m) n, M2, M4, ?_, ?_, ja_kY r2 (ja_kY d2 (ja_kY f2 hJ))⟩
  · rw [e_X8_byWhom, b_X8_byWhom_0, k_w300, if_pos r, q_bi_s, if_neg n10, a1, q_bv_s]
    exact c1
  · rw [e_X9_byWhom, b_X9_byWhom_0, k9_isMinute, if_pos r, q_bi_s, if_neg n10, d1, q_bv_s, if_neg (nI_in (by omega) (by decide)), nI_clamp (by omega), d3 m (Nat.le_refl m)]
    exact r1
end DEAF
