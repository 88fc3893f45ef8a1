/-! DAYS OF BOTH (wip/whole/f) -/
theorem tw_congr {M : QM} {t m : Nat} {h h' : Nat → Int32} (e : ∀ j, j ≤ m → h j = h' j) (hT : TW M t m h) : TW M t m h' := by
  obtain ⟨h1, h2, h3, h4⟩ := hT
  exact ⟨h1, by rw [h2, lr_congr m e], h3, fun j hj => by rw [h4 j hj, e j hj]⟩
/-- the strokes of a day, whatever its length -/
def dyS (b : Int32) (S : (Nat → Int32) → Nat → Nat → Int32) (n : Nat) (T : QT) : Nat → Int32 := fun j => dt b (nx S n T) j j
theorem dyS_dt {b : Int32} {S : (Nat → Int32) → Nat → Nat → Int32} {n : Nat} {T : QT} {m j : Nat} (h : j ≤ m) : dt b (nx S n T) m j = dyS b S n T j := dt_le b (nx S n T) (Nat.le_refl j) h
def RT (T : QT) : Prop := ∀ a b c r g m, q_R3 (T a b c r g m)
theorem dyS_R {b : Int32} {S : (Nat → Int32) → Nat → Nat → Int32} {n : Nat} {T : QT} (hb : q_R3 b) (hT : RT T) (j : Nat) : q_R3 (dyS b S n T j) := dt_R hb (fun _ _ _ => hT _ _ _ _ _ _) j j (Nat.le_refl j)
theorem dyS_congr {b : Int32} {S S' : (Nat → Int32) → Nat → Nat → Int32} {n N : Nat} {T : QT} (hb : q_R3 b) (hT : RT T) (e : ∀ h m j, m < N → (∀ i, i ≤ m → q_R3 (h i)) → j < n → S h m j = S' h m j) {j : Nat} (hj : j ≤ N) : dyS b S n T j = dyS b S' n T j := by
  exact congrFun (dt_congr (f := nx S n T) (f' := nx S' n T) hb (fun _ _ _ => hT _ _ _ _ _ _) (fun h m hm hh => nx_congr (fun j hj => e h m j hm hh hj)) j hj) j
/-- farms of a set are deaf -/
def mS (N : Nat → Int32) (set : Int32) : (Nat → Int32) → Nat → Nat → Int32 := fun h m j => if bt set j then 0 else sgn N j m h
def dyP (M : QM) (n : Nat) : Nat → Int32 := dyS (M.1 6 51) (fS (M.1 6)) n (ST M)
def dyM (M : QM) (n : Nat) (set : Int32) : Nat → Int32 := dyS (M.1 6 51) (mS (M.1 6) set) n (ST M)
theorem st_T (M : QM) : RT (ST M) := fun a b c r g m => st_R M a b c r g m
section DAYS
variable {sl : Nat} {sx : Nat → Int32} {d n s : Nat} {M : QM} {x y z : Int32}
theorem jf_FD (hF : JF n M) : FD M 5 n := ⟨hF.2.1, hF.1, hF.2.2.2.1, rfl, ⟨hF.2.2.2.2.2.2.2.2.2.2.1.1, hF.2.2.2.2.2.2.2.2.2.2.1.2⟩⟩
theorem k_dayP (hF : JF n M) {t : Nat} (ht : qIsT t) (hx : x.toInt ≤ 300) : ∃ M', qK sl sx (d + 7) 134 [.ref 4, .ref 5, .ref t, .int x] M = some (none, M') ∧ Fr [t, t + 1, 13, 1703, 19] M M' ∧ TW M' t x.toInt.toNat (dyP M n) := by
  obtain ⟨M', h1, h2, h3⟩ := k_ringDay (sl := sl) (sx := sx) (d := d) (x := x) (Or.inl rfl) ht (jf_FD hF) hx
  exact ⟨M', h1, h2, tw_congr (fun j hj => dyS_dt hj) h3⟩
theorem k9_plain : ∃ M', qK sl sx (d + 1) 190 [.ref 48] M = some (none, M') ∧ Fr [4830, 4831, 4834, 65] M M' ∧ M'.1 48 30 = 0 ∧ M'.1 48 31 = -1 ∧ M'.1 48 34 = 0 ∧ ∀ m, m ≤ 300 → M'.1 65 m = 0 := by
  rw [e_X9_plain, b_X9_plain_0]
  have vz : vp_nar .boolean 0 = 0 := by decide
  refine q_lu (fun k i (_ : Unit) M' => qF sl sx d 190 k 17 [some (.ref 48), some (.int (nI i))] [] M') 301 (fun i _ M' => Fr [4830, 4831, 4834, 65] M M' ∧ M'.1 48 30 = 0 ∧ M'.1 48 31 = -1 ∧ M'.1 48 34 = 0 ∧ ∀ m, m < i → M'.1 65 m = 0) (fun o => ∃ M', o = some (none, M') ∧ Fr [4830, 4831, 4834, 65] M M' ∧ M'.1 48 30 = 0 ∧ M'.1 48 31 = -1 ∧ M'.1 48 34 = 0 ∧ ∀ m, m ≤ 300 → M'.1 65 m = 0) (fun k i _ M' hi hI => ?_) (fun k _ M' hI => ?_) (i := 0) (s := ()) (Nat.zero_le _) (q_n1b (by decide)) ⟨fr_up rfl (fr_up rfl (fr_up rfl fr_rf)), ?_, ?_, ?_, fun m hm => by omega⟩
  · obtain ⟨i1, i2, i3, i4, i5⟩ := hI
    right
    refine ⟨(), (q_up M'.1 65 i 0, M'.2), ⟨fr_up rfl i1, ?_, ?_, ?_, fun m hm => ?_⟩, ?_⟩
    · dsimp only
      simp (disch := omega) only [q_up_s, q_up_a, q_up_k, q_uc_a, q_uc_s]
      exact i2
    · dsimp only
      simp (disch := omega) only [q_up_s, q_up_a, q_up_k, q_uc_a, q_uc_s]
      exact i3
    · dsimp only
      simp (disch := omega) only [q_up_s, q_up_a, q_up_k, q_uc_a, q_uc_s]
      exact i4
    · dsimp only
      by_cases q : m = i
      · rw [q, q_up_s]
      · rw [q_up_k _ _ _ _ q]
        exact i5 m (by omega)
    · rw [b_X9_plain_17, if_neg (show ¬ (300 : Int32) < nI i by rw [Int32.lt_iff_toInt_lt, nI_toInt (by omega), qv_300]; omega), if_neg (nI_in hi (by decide)), nI_1, nI_clamp (by omega), vz]
  · obtain ⟨i1, i2, i3, i4, i5⟩ := hI
    refine ⟨M', ?_, i1, i2, i3, i4, fun m hm => i5 m (by omega)⟩
    rw [b_X9_plain_17, if_pos (by decide)]
  · dsimp only
    simp (disch := omega) only [q_up_s, q_up_a, q_up_k, q_uc_a, q_uc_s]
  · dsimp only
    simp (disch := omega) only [q_up_s, q_up_a, q_up_k, q_uc_a, q_uc_s]
  · dsimp only
    simp (disch := omega) only [q_up_s, q_up_a, q_up_k, q_uc_a, q_uc_s]
theorem jf_RgR (hF : JF n M) {j : Nat} (hj : j < n) : Rg (RN M) j := by
  obtain ⟨j1, j2, j3, j4, j5, _⟩ := hF
  have := j4 j hj
  unfold Rg at this ⊢
  rw [← j5 (5 * j) (by omega), ← j5 (5 * j + 1) (by omega), ← j5 (5 * j + 2) (by omega), ← j5 (5 * j + 3) (by omega), ← j5 (5 * j + 4) (by omega)]
  exact this
theorem jf_sgn (hF : JF n M) {j m : Nat} {h : Nat → Int32} (hj : j < n) : sgn (RN M) j m h = sgn (M.1 6) j m h := by
  obtain ⟨j1, j2, j3, j4, j5, _⟩ := hF
  exact sgn_congr (j5 _ (by omega)).symm (j5 _ (by omega)).symm (j5 _ (by omega)).symm (j5 _ (by omega)).symm (j5 _ (by omega)).symm (fun _ _ => rfl)
/-- what the reference's own numbers must be -/
def RJ (n : Nat) (M : QM) : Prop := n ≤ 10 ∧ M.1 48 0 = nI n ∧ (∀ j, j < n → Rg (RN M) j) ∧ M.1 48 1 = M.1 6 50 ∧ M.1 48 2 = M.1 6 51 ∧ q_R3 (M.1 6 51)
theorem rj_jf (hF : JF n M) : RJ n M := ⟨hF.1, hF.2.2.1, fun j hj => jf_RgR hF hj, hF.2.2.2.2.2.2.1.symm, hF.2.2.2.2.2.2.2.1.symm, (jf_FD hF).2.2.2.2⟩
def kRJ : List Nat := [4800, 4801, 4802, 49, 50, 51, 52, 53, 6]
theorem rn_kRJ {l : List Nat} {M' : QM} (h : kRJ.all (fun x => !(l.elem x)) = true) (f : Fr l M M') : RN M' = RN M := by
  have e := fr_dis h f
  funext i
  unfold RN
  rw [e 49 _ rfl, e 50 _ rfl, e 51 _ rfl, e 52 _ rfl, e 53 _ rfl]
theorem rj_fr {l : List Nat} {M' : QM} (h : kRJ.all (fun x => !(l.elem x)) = true) (f : Fr l M M') (j : RJ n M) : RJ n M' := by
  have e := fr_dis h f
  unfold RJ at j ⊢
  rw [rn_kRJ h f, e 48 0 rfl, e 48 1 rfl, e 48 2 rfl, e 6 50 rfl, e 6 51 rfl]
  exact j
/-- the reference goes through minutes, whatever is set -/
theorem k9_goes (hF : RJ n M) (hL : JL M) (hs : ∀ h m, m < 300 → (∀ i, i ≤ m → q_R3 (h i)) → ∀ j, j < n → q_R3 (rS M h m j)) (hx : x.toInt ≤ 300) : ∃ M', qK sl sx (d + 203) 196 [.ref 48, .int x] M = some (none, M') ∧ Fr [61, 66, 60, 4822] M M' ∧ (∀ j, j ≤ x.toInt.toNat → M'.1 61 j = dyS (M.1 6 51) (rS M) n (ST M) j) := by
  have j8 := hF.2.2.2.2.1
  have hb : q_R3 (M.1 6 51) := hF.2.2.2.2.2
  rw [e_X9_goes, b_X9_goes_0]
  refine q_lu (fun k i (_ : Unit) M' => qF sl sx (d + 202) 196 k 12 [some (.ref 48), some (.int x), some (.int (nI i))] [] M') (x.toInt.toNat + 1) (fun i _ M' => 1 ≤ i ∧ Fr [61, 66, 60, 4822] M M' ∧ ∀ j, j < i → M'.1 61 j = dyS (M.1 6 51) (rS M) n (ST M) j) (fun o => ∃ M', o = some (none, M') ∧ Fr [61, 66, 60, 4822] M M' ∧ (∀ j, j ≤ x.toInt.toNat → M'.1 61 j = dyS (M.1 6 51) (rS M) n (ST M) j)) (fun k i _ M' hi hI => ?_) (fun k _ M' hI => ?_) (i := 1) (s := ()) (by omega) (q_n1b (by omega)) ⟨Nat.le_refl 1, fr_up rfl fr_rf, fun j hj => ?_⟩
  · obtain ⟨i1, i2, i3⟩ := hI
    right
    obtain ⟨p, rfl⟩ : ∃ p, i = p + 1 := ⟨i - 1, by omega⟩
    have hfr : Fr [61, 62, 66, 60, 4822] M M' := fr_mo rfl i2
    have e62 : M'.1 62 = M.1 62 := funext fun k => i2.1 62 k rfl
    have hF' : RJ n M' := rj_fr rfl i2 hF
    have hL' : JL M' := jL_fr rfl i2 hL
    -- the strokes so far
    obtain ⟨D, eD⟩ : ∃ D, D = dt (M.1 6 51) (nx (rS M) n (ST M)) p := ⟨_, rfl⟩
    have DR : ∀ j, j ≤ p → q_R3 (D j) := by
      rw [eD]
      exact dt_R hb (fun _ _ _ => st_R _ _ _ _ _ _ _) p
    have hT : ∀ j, j ≤ p → M'.1 61 j = D j := fun j hj => by
      rw [i3 j (by omega), eD, dyS_dt hj]
    have egS : ∀ j, rG M' D (M'.1 62) p j = rS M D p j := fun j => by
      rw [rg_fr hfr, e62]
      rfl
    obtain ⟨M2, c1, c2, c3⟩ := k9_counts (sl := sl) (sx := sx) (d := d + 198) (M := M') (m := p) (h := D) (by omega) hT hF'.1 hF'.2.1 (fun j hj => hF'.2.2.1 j hj) (fun j hj => by rw [egS]; exact hs D p (by omega) DR j hj)
    have eg : (fun j => rG M' D (M'.1 62) p j) = rS M D p := funext egS
    rw [eg] at c3
    have f2 : Fr [61, 66, 60, 4822] M M2 := fr_t2 rfl rfl i2 c2
    have hq : M2.1 48 1 = M2.1 6 50 := by
      rw [f2.1 48 1 rfl, f2.1 6 50 rfl]
      exact hF.2.2.2.1
    obtain ⟨M3, g1, g2⟩ := k9_rungNext (sl := sl) (sx := sx) (d := d + 1) (a := 61) (M := M2) (m := p) (h := D) (Or.inl rfl) (by omega) (fun j hj => (c2.1 61 j rfl).trans (hT j hj)) (c := fun v => cn (rS M D p) (nI v) n) c3 (fun v => by have := cn_le (rS M D p) (nI v) n; have := hF.1; omega) hq (jL_fr rfl f2 hL)
    have es : ST M2 = ST M := st_fr (f2.1 17 1 rfl) (funext fun k => f2.1 18 k rfl) (f2.1 6 50 rfl)
    rw [es] at g1
    have ev : ST M (cn (rS M D p) (nI 1) n) (cn (rS M D p) (nI 2) n) (cn (rS M D p) (nI 3) n) (D p) (lr D p) (p + 1) = dyS (M.1 6 51) (rS M) n (ST M) (p + 1) := by
      unfold dyS
      rw [dt_s, ← eD]
      rfl
    rw [ev] at g1
    have f3 : Fr [61, 66, 60, 4822] M M3 := fr_t2 rfl rfl f2 g2
    refine ⟨(), (q_up M3.1 61 (p + 1) (dyS (M.1 6 51) (rS M) n (ST M) (p + 1)), M3.2), ⟨by omega, fr_up rfl f3, fun j hj => ?_⟩, ?_⟩
    · dsimp only
      by_cases q : j = p + 1
      · rw [q, q_up_s]
      · rw [q_up_k _ _ _ _ q, g2.1 61 j rfl, c2.1 61 j rfl]
        exact i3 j (by omega)
    · have nlt : ¬ x < nI (p + 1) := by
        rw [Int32.lt_iff_toInt_lt, nI_toInt (by omega)]
        omega
      rw [b_X9_goes_12, if_neg nlt, nI_pred, c1, q_bv_s]
      show q_bi (qK sl sx (d + 1 + 201) 195 [.ref 48, .ref 61, .int (nI (p + 1))] M2) _ = _
      rw [g1, q_bi_s, if_neg (nI_in (by omega) (by decide)), nI_1, nI_clamp (by omega)]
  · obtain ⟨i1, i2, i3⟩ := hI
    refine ⟨M', ?_, i2, fun j hj => i3 j (by omega)⟩
    rw [b_X9_goes_12, if_pos]
    rw [Int32.lt_iff_toInt_lt, nI_toInt (by omega)]
    omega
  · have : j = 0 := by omega
    subst this
    dsimp only
    rw [q_up_s, j8]
    rfl
theorem rS_mute {set : Int32} {h : Nat → Int32} {m j : Nat} (h30 : M.1 48 30 = set) (h31 : M.1 48 31 = -1) (h34 : M.1 48 34 = 0) (h65 : M.1 65 m = 0) (hj : j < 10) : rS M h m j = mS (RN M) set h m j := by
  unfold rS rG mS
  have n31 : ¬ (nI j = M.1 48 31 ∧ nI m = M.1 48 32) := by
    rintro ⟨q, _⟩
    rw [h31] at q
    have := nI_pos (n := j) (by omega)
    rw [q] at this
    exact this (by decide)
  rw [if_pos h65, if_neg n31, h30, h34]
  by_cases c : bt set j
  · rw [if_pos c, if_pos c]
  · rw [if_neg c, if_neg c, if_neg (bt_0 j hj)]
theorem mS_R {set : Int32} {N : Nat → Int32} {h : Nat → Int32} {m j : Nat} (hR : Rg N j) (hh : ∀ i, i ≤ m → q_R3 (h i)) : q_R3 (mS N set h m j) := by
  unfold mS
  split
  · exact q_R30
  · exact sgn_R hR hh
theorem mS_0 {N : Nat → Int32} {h : Nat → Int32} {m j : Nat} (hj : j < 10) : mS N 0 h m j = fS N h m j := by
  unfold mS
  rw [if_neg (bt_0 j hj)]
  rfl
theorem mS_jf (hF : JF n M) {set : Int32} {h : Nat → Int32} {m j : Nat} (hj : j < n) : mS (RN M) set h m j = mS (M.1 6) set h m j := by
  unfold mS
  rw [jf_sgn hF hj]
/-- the reference goes, some farms deaf -/
theorem k9_goesM (hF : JF n M) (hL : JL M) {set : Int32} (h30 : M.1 48 30 = set) (h31 : M.1 48 31 = -1) (h34 : M.1 48 34 = 0) (h65 : ∀ m, m ≤ 300 → M.1 65 m = 0) (hx : x.toInt ≤ 300) : ∃ M', qK sl sx (d + 203) 196 [.ref 48, .int x] M = some (none, M') ∧ Fr [61, 66, 60, 4822] M M' ∧ (∀ j, j ≤ x.toInt.toNat → M'.1 61 j = dyM M n set j) := by
  have hn := hF.1
  obtain ⟨M', g1, g2, g3⟩ := k9_goes (sl := sl) (sx := sx) (d := d) (x := x) (rj_jf hF) hL (fun h m hm hh j hj => by rw [rS_mute h30 h31 h34 (h65 m (by omega)) (by omega)]; exact mS_R (jf_RgR hF hj) hh) hx
  refine ⟨M', g1, g2, fun j hj => ?_⟩
  rw [g3 j hj]
  exact dyS_congr (N := 300) (jf_FD hF).2.2.2.2 (st_T M) (fun h m j hm hh hj => by rw [rS_mute h30 h31 h34 (h65 m (by omega)) (by omega), mS_jf hF hj]) (by omega)
theorem dyM_0 (hn : n ≤ 10) (hb : q_R3 (M.1 6 51)) (j : Nat) : dyM M n 0 j = dyP M n j := dyS_congr (N := j) hb (st_T M) (fun h m j hm hh hj => mS_0 (by omega)) (Nat.le_refl j)
theorem dyM_fr {M' : QM} {set : Int32} (e1 : M'.1 6 = M.1 6) (e2 : ST M' = ST M) : dyM M' n set = dyM M n set := by
  unfold dyM
  rw [e1, e2]
theorem dyP_fr {M' : QM} (e1 : M'.1 6 = M.1 6) (e2 : ST M' = ST M) : dyP M' n = dyP M n := by
  unfold dyP
  rw [e1, e2]
/-- scratch of days alone changes -/
def kY : List Nat := [7, 8, 9, 10, 11, 12, 13, 1703, 19, 60, 61, 62, 64, 65, 66, 4822, 4830, 4831, 4832, 4833, 4834]
theorem st_kY {M' : QM} (f : Fr kY M M') : ST M' = ST M := st_fr (f.1 17 1 rfl) (funext fun k => f.1 18 k rfl) (f.1 6 50 rfl)
theorem n6_kY {M' : QM} (f : Fr kY M M') : M'.1 6 = M.1 6 := funext fun k => f.1 6 k rfl
theorem dyM_kY {M' : QM} {set : Int32} (f : Fr kY M M') : dyM M' n set = dyM M n set := dyM_fr (n6_kY f) (st_kY f)
theorem dyP_kY {M' : QM} (f : Fr kY M M') : dyP M' n = dyP M n := dyP_fr (n6_kY f) (st_kY f)
/-- plain, farms of a set deaf, gone through -/
theorem k9_mute (hF : JF n M) (hL : JL M) {set : Int32} (hx : x.toInt ≤ 300) : ∃ M1 M', qK sl sx (d + 203) 190 [.ref 48] M = some (none, M1) ∧ qK sl sx (d + 203) 196 [.ref 48, .int x] (q_up M1.1 48 30 set, M1.2) = some (none, M') ∧ Fr kY M M' ∧ (∀ j, j ≤ x.toInt.toNat → M'.1 61 j = dyM M n set j) ∧ M'.1 48 30 = set ∧ M'.1 48 31 = -1 ∧ M'.1 48 34 = 0 ∧ ∀ m, m ≤ 300 → M'.1 65 m = 0 := by
  obtain ⟨M1, a1, a2, a3, a4, a5, a6⟩ := k9_plain (sl := sl) (sx := sx) (d := d + 202) (M := M)
  obtain ⟨M2, e2⟩ : ∃ M2, M2 = ((q_up M1.1 48 30 set, M1.2) : QM) := ⟨_, rfl⟩
  have f2 : Fr [4830, 4831, 4834, 65] M M2 := by rw [e2]; exact fr_up rfl a2
  have m30 : M2.1 48 30 = set := by rw [e2]; exact q_up1 _ _ _ _ _
  have m31 : M2.1 48 31 = -1 := by rw [e2]; dsimp only; rw [q_up_k _ _ _ _ (by decide)]; exact a4
  have m34 : M2.1 48 34 = 0 := by rw [e2]; dsimp only; rw [q_up_k _ _ _ _ (by decide)]; exact a5
  have m65 : ∀ m, m ≤ 300 → M2.1 65 m = 0 := fun m hm => by rw [e2]; dsimp only; rw [q_up_a _ _ _ _ (by decide)]; exact a6 m hm
  obtain ⟨M', g1, g2, g3⟩ := k9_goesM (sl := sl) (sx := sx) (d := d) (x := x) (jF_fr rfl f2 hF) (jL_fr rfl f2 hL) m30 m31 m34 m65 hx
  have fk : Fr kY M M2 := fr_mo rfl f2
  refine ⟨M1, M', a1, by rw [← e2]; exact g1, fr_t2 rfl rfl f2 g2, fun j hj => by rw [g3 j hj, dyM_kY fk], (g2.1 48 30 rfl).trans m30, (g2.1 48 31 rfl).trans m31, (g2.1 48 34 rfl).trans m34, fun m hm => (g2.1 65 m rfl).trans (m65 m hm)⟩
theorem rS_plain {h : Nat → Int32} {m j : Nat} (h30 : M.1 48 30 = 0) (h31 : M.1 48 31 = -1) (h34 : M.1 48 34 = 0) (h65 : M.1 65 m = 0) (hj : j < 10) : rS M h m j = fS (RN M) h m j := by
  rw [rS_mute h30 h31 h34 h65 hj, mS_0 hj]
theorem k9_goesPlainR (hF : RJ n M) (hL : JL M) (hx : x.toInt ≤ 300) : ∃ M', qK sl sx (d + 204) 197 [.ref 48, .int x] M = some (none, M') ∧ Fr kY M M' ∧ (∀ j, j ≤ x.toInt.toNat → M'.1 61 j = dyS (M.1 6 51) (fS (RN M)) n (ST M) j) ∧ M'.1 48 30 = 0 ∧ M'.1 48 31 = -1 ∧ M'.1 48 34 = 0 ∧ ∀ m, m ≤ 300 → M'.1 65 m = 0 := by
  obtain ⟨M1, a1, a2, a3, a4, a5, a6⟩ := k9_plain (sl := sl) (sx := sx) (d := d + 202) (M := M)
  have hF1 := rj_fr rfl a2 hF
  have hn := hF.1
  obtain ⟨M', g1, g2, g3⟩ := k9_goes (sl := sl) (sx := sx) (d := d) (x := x) hF1 (jL_fr rfl a2 hL) (fun h m hm hh j hj => by rw [rS_plain a3 a4 a5 (a6 m (by omega)) (by omega)]; exact sgn_R (hF1.2.2.1 j hj) hh) hx
  have fk : Fr kY M M1 := fr_mo rfl a2
  refine ⟨M', ?_, fr_t2 rfl rfl a2 g2, fun j hj => ?_, (g2.1 48 30 rfl).trans a3, (g2.1 48 31 rfl).trans a4, (g2.1 48 34 rfl).trans a5, fun m hm => (g2.1 65 m rfl).trans (a6 m hm)⟩
  · rw [e_X9_goesPlain, b_X9_goesPlain_0, a1, q_bv_s, g1, q_bv_s]
  · rw [g3 j hj, n6_kY fk, st_kY fk]
    exact dyS_congr (N := 300) hF.2.2.2.2.2 (st_T M) (fun h m j hm hh hj => by rw [rS_plain a3 a4 a5 (a6 m (by omega)) (by omega), rn_kRJ rfl a2]) (by omega)
/-- the plain day of the reference -/
theorem k9_goesPlain (hF : JF n M) (hL : JL M) (hx : x.toInt ≤ 300) : ∃ M', qK sl sx (d + 204) 197 [.ref 48, .int x] M = some (none, M') ∧ Fr kY M M' ∧ (∀ j, j ≤ x.toInt.toNat → M'.1 61 j = dyP M n j) ∧ M'.1 48 30 = 0 ∧ M'.1 48 31 = -1 ∧ M'.1 48 34 = 0 ∧ ∀ m, m ≤ 300 → M'.1 65 m = 0 := by
  obtain ⟨M1, a1, a2, a3, a4, a5, a6⟩ := k9_plain (sl := sl) (sx := sx) (d := d + 202) (M := M)
  obtain ⟨M', g1, g2, g3⟩ := k9_goesM (sl := sl) (sx := sx) (d := d) (x := x) (jF_fr rfl a2 hF) (jL_fr rfl a2 hL) a3 a4 a5 a6 hx
  have fk : Fr kY M M1 := fr_mo rfl a2
  refine ⟨M', ?_, fr_t2 rfl rfl a2 g2, fun j hj => ?_, (g2.1 48 30 rfl).trans a3, (g2.1 48 31 rfl).trans a4, (g2.1 48 34 rfl).trans a5, fun m hm => (g2.1 65 m rfl).trans (a6 m hm)⟩
  · rw [e_X9_goesPlain, b_X9_goesPlain_0, a1, q_bv_s, g1, q_bv_s]
  · rw [g3 j hj, dyM_kY fk, dyM_0 hF.1 (jf_FD hF).2.2.2.2]
theorem k_w300 (d : Nat) (x : Int32) (M : QM) : qK sl sx (d + 1) 126 [.int x, .int 300] M = some (some (.int (if rg x 300 then 1 else 0)), M) := k_within
theorem k_w1 (d : Nat) (x : Int32) (M : QM) : qK sl sx (d + 1) 126 [.int x, .int 1] M = some (some (.int (if rg x 1 then 1 else 0)), M) := k_within
theorem k_w3 (d : Nat) (x : Int32) (M : QM) : qK sl sx (d + 1) 126 [.int x, .int 3] M = some (some (.int (if rg x 3 then 1 else 0)), M) := k_within
theorem k9_w1 (d : Nat) (x : Int32) (M : QM) : qK sl sx (d + 1) 151 [.ref 48, .int x, .int 0, .int 1] M = some (some (.int (if rg x 1 then 1 else 0)), M) := k9_isIn
theorem k9_w3 (d : Nat) (x : Int32) (M : QM) : qK sl sx (d + 1) 151 [.ref 48, .int x, .int 0, .int 3] M = some (some (.int (if rg x 3 then 1 else 0)), M) := k9_isIn
theorem rgN {m : Int} (h : rg x m) : ∃ k : Nat, x = nI k ∧ (k : Int) ≤ m := ⟨x.toInt.toNat, q_ofN h.1, by have := h.1; have := h.2; omega⟩
theorem rgN300 (h : rg x 300) : ∃ k : Nat, x = nI k ∧ k ≤ 300 := by
  obtain ⟨k, h1, h2⟩ := rgN h
  exact ⟨k, h1, by omega⟩
theorem nI300 {k : Nat} (h : k ≤ 300) : (nI k).toInt ≤ 300 ∧ (nI k).toInt.toNat = k := by
  rw [nI_toInt (by omega)]
  omega
/-- after the class's day on its tower, before the reference's -/
theorem fr_tY {M' : QM} {t : Nat} (ht : t = 9 ∨ t = 11) (f : Fr [t, t + 1, 13, 1703, 19] M M') : Fr kY M M' := by
  rcases ht with rfl | rfl <;> exact fr_mo rfl f
theorem ja_kY {M' : QM} (f : Fr kY M M') (j : JA M) : JA M' := ja_fr (fr_mo rfl f) j
theorem p_rung (x : Int32) : QPi sl sx JA 88 198 [.int x] := by
  intro M hJ
  obtain ⟨n, b, hF, hT, hL, hC, hD, hK, hS, hH⟩ := id hJ
  by_cases r : rg x 300
  · obtain ⟨m, rfl, hm⟩ := rgN300 r
    obtain ⟨i1, i2⟩ := nI300 hm
    obtain ⟨M1, a1, a2, a3⟩ := k_dayP (sl := sl) (sx := sx) (d := 992) (x := nI m) (t := 9) hF (Or.inl rfl) i1
    have f1 := fr_tY (Or.inl rfl) a2
    obtain ⟨M2, b1, b2, b3, _⟩ := k9_goesPlain (sl := sl) (sx := sx) (d := 795) (x := nI m) (jF_fr rfl f1 hF) (jL_fr rfl f1 hL) i1
    rw [i2] at a3 b3
    rw [dyP_kY f1] at b3
    refine ⟨dyP M n m, M1, M2, ?_, ?_, ja_kY b2 (ja_kY f1 hJ)⟩
    · rw [e_X8_rung, b_X8_rung_0, k_w300, if_pos r, q_bi_s, if_neg n10, a1, q_bv_s, k_atN (Or.inl rfl) a3 (Nat.le_refl m), q_bi_s]
    · rw [e_X9_rung, b_X9_rung_0, k9_isMinute, if_pos r, q_bi_s, if_neg n10, b1, q_bv_s, if_neg (nI_in (by omega) (by decide)), nI_clamp (by omega), b3 m (Nat.le_refl m)]
  · refine ⟨-1, M, M, ?_, ?_, hJ⟩
    · rw [e_X8_rung, b_X8_rung_0, k_w300, if_neg r, q_bi_s, if_pos rfl]
    · rw [e_X9_rung, b_X9_rung_0, k9_isMinute, if_neg r, q_bi_s, if_pos rfl]
end DAYS
