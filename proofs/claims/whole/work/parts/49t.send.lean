/-! PAIR: send (wip/whole/f) -/
def bc (x0 : Int32) : Int32 := ((((((((x0 - (((x0.toUInt32 >>> ((1 : Int32).toUInt32 &&& Int32.toUInt32 31)).toInt32) &&& 1431655765)) &&& 858993459) + ((((x0 - (((x0.toUInt32 >>> ((1 : Int32).toUInt32 &&& Int32.toUInt32 31)).toInt32) &&& 1431655765)).toUInt32 >>> ((2 : Int32).toUInt32 &&& Int32.toUInt32 31)).toInt32) &&& 858993459)) + (((((x0 - (((x0.toUInt32 >>> ((1 : Int32).toUInt32 &&& Int32.toUInt32 31)).toInt32) &&& 1431655765)) &&& 858993459) + ((((x0 - (((x0.toUInt32 >>> ((1 : Int32).toUInt32 &&& Int32.toUInt32 31)).toInt32) &&& 1431655765)).toUInt32 >>> ((2 : Int32).toUInt32 &&& Int32.toUInt32 31)).toInt32) &&& 858993459)).toUInt32 >>> ((4 : Int32).toUInt32 &&& Int32.toUInt32 31)).toInt32)) &&& 252645135) + (((((((x0 - (((x0.toUInt32 >>> ((1 : Int32).toUInt32 &&& Int32.toUInt32 31)).toInt32) &&& 1431655765)) &&& 858993459) + ((((x0 - (((x0.toUInt32 >>> ((1 : Int32).toUInt32 &&& Int32.toUInt32 31)).toInt32) &&& 1431655765)).toUInt32 >>> ((2 : Int32).toUInt32 &&& Int32.toUInt32 31)).toInt32) &&& 858993459)) + (((((x0 - (((x0.toUInt32 >>> ((1 : Int32).toUInt32 &&& Int32.toUInt32 31)).toInt32) &&& 1431655765)) &&& 858993459) + ((((x0 - (((x0.toUInt32 >>> ((1 : Int32).toUInt32 &&& Int32.toUInt32 31)).toInt32) &&& 1431655765)).toUInt32 >>> ((2 : Int32).toUInt32 &&& Int32.toUInt32 31)).toInt32) &&& 858993459)).toUInt32 >>> ((4 : Int32).toUInt32 &&& Int32.toUInt32 31)).toInt32)) &&& 252645135).toUInt32 >>> ((8 : Int32).toUInt32 &&& Int32.toUInt32 31)).toInt32)) + ((((((((x0 - (((x0.toUInt32 >>> ((1 : Int32).toUInt32 &&& Int32.toUInt32 31)).toInt32) &&& 1431655765)) &&& 858993459) + ((((x0 - (((x0.toUInt32 >>> ((1 : Int32).toUInt32 &&& Int32.toUInt32 31)).toInt32) &&& 1431655765)).toUInt32 >>> ((2 : Int32).toUInt32 &&& Int32.toUInt32 31)).toInt32) &&& 858993459)) + (((((x0 - (((x0.toUInt32 >>> ((1 : Int32).toUInt32 &&& Int32.toUInt32 31)).toInt32) &&& 1431655765)) &&& 858993459) + ((((x0 - (((x0.toUInt32 >>> ((1 : Int32).toUInt32 &&& Int32.toUInt32 31)).toInt32) &&& 1431655765)).toUInt32 >>> ((2 : Int32).toUInt32 &&& Int32.toUInt32 31)).toInt32) &&& 858993459)).toUInt32 >>> ((4 : Int32).toUInt32 &&& Int32.toUInt32 31)).toInt32)) &&& 252645135) + (((((((x0 - (((x0.toUInt32 >>> ((1 : Int32).toUInt32 &&& Int32.toUInt32 31)).toInt32) &&& 1431655765)) &&& 858993459) + ((((x0 - (((x0.toUInt32 >>> ((1 : Int32).toUInt32 &&& Int32.toUInt32 31)).toInt32) &&& 1431655765)).toUInt32 >>> ((2 : Int32).toUInt32 &&& Int32.toUInt32 31)).toInt32) &&& 858993459)) + (((((x0 - (((x0.toUInt32 >>> ((1 : Int32).toUInt32 &&& Int32.toUInt32 31)).toInt32) &&& 1431655765)) &&& 858993459) + ((((x0 - (((x0.toUInt32 >>> ((1 : Int32).toUInt32 &&& Int32.toUInt32 31)).toInt32) &&& 1431655765)).toUInt32 >>> ((2 : Int32).toUInt32 &&& Int32.toUInt32 31)).toInt32) &&& 858993459)).toUInt32 >>> ((4 : Int32).toUInt32 &&& Int32.toUInt32 31)).toInt32)) &&& 252645135).toUInt32 >>> ((8 : Int32).toUInt32 &&& Int32.toUInt32 31)).toInt32)).toUInt32 >>> ((16 : Int32).toUInt32 &&& Int32.toUInt32 31)).toInt32)) &&& 63)
def on (x : Int32) : Nat → Int32
  | 0 => 0
  | i + 1 => on x i + ((x >>> (nI i &&& 31)) &&& 1)
theorem bc_on : ∀ k : Fin 1024, bc (nI k.1) = on (nI k.1) 10 := by decide +kernel
theorem sf_mono (h : Nat → Int32) {k k' : Nat} (e : k ≤ k') : sf h k ≤ sf h k' := by
  induction k' with
  | zero => rw [show k = 0 by omega]; exact Nat.le_refl _
  | succ k' ih =>
    by_cases q : k = k' + 1
    · rw [q]; exact Nat.le_refl _
    · have h1 := ih (by omega)
      have h2 := sf_le h k'
      rw [sf]
      split
      · exact h1
      · omega
def fo (E : Nat → Bool) : Nat → Nat → Option Nat
  | 0, _ => none
  | j + 1, i => if E i = true then some i else fo E j (i + 1)
theorem q_fo (F : Nat → Nat → QM → Option (Option Value × QM)) (R : Nat → QM → Option (Option Value × QM)) (E : Nat → Bool) (z : Nat) (I : QM → Prop) (step : ∀ k i M, i < z → I M → ∃ M', I M' ∧ ((E i = true ∧ F (k + 1) i M = R i M') ∨ (E i = false ∧ F (k + 1) i M = F k (i + 1) M'))) : ∀ j i k M, i + j = z → I M → ∃ M', I M' ∧ ((∃ p, p < z ∧ fo E j i = some p ∧ F (k + j) i M = R p M') ∨ (fo E j i = none ∧ F (k + j) i M = F k z M')) := by
  intro j
  induction j with
  | zero =>
    intro i k M hz hI
    have : i = z := by omega
    subst this
    exact ⟨M, hI, Or.inr ⟨rfl, rfl⟩⟩
  | succ j ih =>
    intro i k M hz hI
    obtain ⟨M', f, h | h⟩ := step (k + j) i M (by omega) hI
    · refine ⟨M', f, Or.inl ⟨i, by omega, ?_, ?_⟩⟩
      · rw [fo, if_pos h.1]
      · rw [show k + (j + 1) = k + j + 1 by omega]
        exact h.2
    · obtain ⟨M2, g1, g2⟩ := ih (i + 1) k M' (by omega) f
      refine ⟨M2, g1, ?_⟩
      rw [fo, if_neg (by rw [h.1]; exact Bool.false_ne_true), show k + (j + 1) = k + j + 1 by omega, h.2]
      exact g2
def gv (E : Nat → Nat → Bool) (z : Nat) (x2 : Int32) : Nat → Nat → Int32
  | 0, _ => -2
  | r + 1, c => match fo (E c) z 0 with
    | some p => if x2 = 0 then nI c else nI p
    | none => gv E z x2 r (c + 1)
section SEND
variable {sl : Nat} {sx : Nat → Int32} {d n s f m : Nat} {M : QM} {x y z v b set : Int32}
theorem k_bits {k : Nat} (hk : k < 1024) : qK sl sx (d + 1) 257 [.int (nI k)] M = some (some (.int (on (nI k) 10)), M) := by
  rw [← bc_on ⟨k, hk⟩, e_J6_bitCount_0f7a4, b_J6_bitCount_0f7a4_0]
  rfl
theorem k9_ones : qK sl sx (d + 1) 211 [.ref 48, .int x] M = some (some (.int (on x 10)), M) := by
  rw [e_X9_ones, b_X9_ones_0]
  refine q_lc (fun k i (a : Int32) => qF sl sx d 211 k 4 [none, some (.int x), some (.int a), some (.int (nI i))] [] M) 10 (fun i => on x i) _ (fun k i hi => ?_) (fun k => ?_) 0 q_n1 (Nat.zero_le _) (q_n1b (by decide))
  · rw [b_X9_ones_4, if_neg (show ¬ (10 : Int32) ≤ nI i by rw [Int32.le_iff_toInt_le, nI_toInt (by omega), show (10 : Int32).toInt = 10 by decide]; omega), nI_1, on]
  · rw [b_X9_ones_4, if_pos (by decide)]
theorem k_endsBy (hF : JF n M) (hm : m ≤ 300) : ∃ M', qK sl sx (d + 8) 141 [.ref 4, .int (nI m), .int set] M = some (some (.int (if eD M n set ≤ m then 1 else 0)), M') ∧ Fr kZ M M' := by
  have hn := hF.1
  obtain ⟨M1, a1, a2, a3, a4⟩ := k_thinkDeaf (sl := sl) (sx := sx) (d := d + 4) (M := M) (set := set) hF
  obtain ⟨t1, t2⟩ := td_FD hF a2 a3 a4
  obtain ⟨D, eDD⟩ : ∃ D, D = dyM M n set := ⟨_, rfl⟩
  have fy : FY M1 7 n D := ⟨t1, by rw [eDD]; exact funext t2⟩
  have h0 : D 0 = M1.1 (7 + 1) 51 := by
    rw [← fy.2]
    rfl
  have ht : qIsT 11 := Or.inr (Or.inl rfl)
  have hf : qIsF 7 := Or.inr rfl
  obtain ⟨M2, b1, b2, b3⟩ := k_beginT (sl := sl) (sx := sx) (d := d + 6) (M := M1) (D := D) ht h0
  have b2' : Fr [11, 12, 13, 1703, 19] M1 M2 := fr_mo rfl b2
  have c6 := k_common6 (sl := sl) (sx := sx) (d := d + 5) (f := 7) (M := M1) hf
  have f2 : Fr kZ M M2 := fr_t2 rfl rfl a2 b2
  have fy2 := fy_fr hf ht b2' fy
  have ee : eD M n set = sf D 301 := by rw [eDD]; rfl
  rw [ee]
  have m1 : ∀ u : Int32, (u = 0 ∨ u = 1) → (if u = 0 ∨ u = 1 then some (some (Value.int u), M2) else none) = some (some (Value.int u), M2) := fun u h => if_pos h
  have lp : ∃ M', qF sl sx (d + 7) 141 q_n1 45 [some (.ref 4), some (.int (nI m)), none, some (.int (if sf D 1 ≤ m then 1 else 0)), some (.int (nI 1))] [] M2 = some (some (.int (if sf D 301 ≤ m then 1 else 0)), M') ∧ Fr kZ M M' := by
    refine q_lu (fun k i (u : Int32) M' => qF sl sx (d + 7) 141 k 45 [some (.ref 4), some (.int (nI m)), none, some (.int u), some (.int (nI i))] [] M') 301 (fun i u M' => 1 ≤ i ∧ u = (if sf D i ≤ m then 1 else 0) ∧ Fr kZ M M' ∧ FY M' 7 n D ∧ TW M' 11 (i - 1) D) (fun o => ∃ M', o = some (some (.int (if sf D 301 ≤ m then 1 else 0)), M') ∧ Fr kZ M M') (fun k i u M' hi hI => ?_) (fun k u M' hI => ?_) (i := 1) (by omega) (q_n1b (by omega)) ⟨Nat.le_refl 1, rfl, f2, fy2, b3⟩
    · obtain ⟨i0, i1, i2, i3, i4⟩ := hI
      have n3 : ¬ (300 : Int32) < nI i := by rw [Int32.lt_iff_toInt_lt, nI_toInt (by omega), qv_300]; omega
      by_cases c : sf D i ≤ m
      · right
        rw [if_pos c] at i1
        obtain ⟨M3, g1, g2, g3⟩ := k_step (sl := sl) (sx := sx) (d := d + 1) hf ht i3 i4 (by omega)
        rw [show i - 1 + 1 = i by omega] at g3
        refine ⟨if sf D (i + 1) ≤ m then 1 else 0, M3, ⟨by omega, rfl, fr_tr i2 (fr_mo rfl g2), fy_fr hf ht g2 i3, g3⟩, ?_⟩
        rw [b_X8_endsBy_45, if_neg n3, i1, if_neg n10, g1, q_bv_s, nI_1]
        by_cases c2 : i < m
        · have := sf_le D (i + 1)
          rw [if_pos (nI_lt c2 (by omega)), if_pos (by omega)]
        · rw [if_neg (nI_nlt (by omega) (by omega)), k_atN ht g3 (Nat.le_refl i), q_bi_s, sf]
          by_cases c3 : D i = 0
          · rw [if_pos c3, if_pos c3, if_pos c]
          · rw [if_neg c3, if_neg c3, if_neg (by omega)]
      · left
        rw [if_neg c] at i1
        have := sf_mono D (show i ≤ 301 by omega)
        refine ⟨M', ?_, i2⟩
        rw [b_X8_endsBy_45, if_neg n3, i1, if_pos rfl, if_pos (Or.inl rfl), if_neg (by omega)]
    · obtain ⟨i0, i1, i2, i3, i4⟩ := hI
      refine ⟨M', ?_, i2⟩
      rw [b_X8_endsBy_45, if_pos (by decide), i1]
      by_cases c : sf D 301 ≤ m
      · rw [if_pos c]
        exact if_pos (Or.inr rfl)
      · rw [if_neg c]
        exact if_pos (Or.inl rfl)
  obtain ⟨M3, z1, z2⟩ := lp
  refine ⟨M3, ?_, z2⟩
  rw [← z1, e_X8_endsBy, b_X8_endsBy_0, a1, q_bv_s, c6, q_bi_s, b1, q_bv_s]
  by_cases c : m = 0
  · subst c
    rw [if_neg (show ¬ (0 : Int32) < nI 0 by decide), show (75 : Nat) = 75 from rfl]
    have k0 : qK sl sx (d + 7) 75 [.ref 11, .int 0] M2 = some (some (.int (D 0)), M2) := k_atN (sl := sl) (sx := sx) (d := d + 6) ht b3 (Nat.le_refl 0)
    rw [k0, q_bi_s]
    by_cases c3 : D 0 = 0
    · rw [if_pos c3, if_pos (show sf D 1 ≤ 0 by rw [sf, if_pos c3]; exact Nat.le_refl _)]
      rfl
    · rw [if_neg c3, if_neg (show ¬ sf D 1 ≤ 0 by rw [sf, if_neg c3]; omega)]
      rfl
  · have := sf_le D 1
    rw [if_pos (show (0 : Int32) < nI m by rw [Int32.lt_iff_toInt_lt, nI_toInt (by omega), qv_0]; omega), if_pos (show sf D 1 ≤ m by omega)]
    rfl
theorem p_send (x y : Int32) : QPi sl sx JA 96 212 [.int x, .int y] := by
  intro M hJ
  obtain ⟨n, b, hF, hT, hL, hC, hD, hK, hS, hH⟩ := id hJ
  have hn := hF.1
  by_cases r : rg x 300
  rotate_left
  · refine ⟨-1, M, M, ?_, ?_, hJ⟩
    · rw [e_X8_send, b_X8_send_0, k_w300, if_neg r, q_bi_s, if_pos rfl]
    · rw [e_X9_send, b_X9_send_0, k9_isMinute, if_neg r, q_bi_s, if_pos rfl]
  by_cases w : rg y 1
  rotate_left
  · refine ⟨-1, M, M, ?_, ?_, hJ⟩
    · rw [e_X8_send, b_X8_send_0, k_w300, if_pos r, q_bi_s, if_neg n10, k_w1, if_neg w, q_bi_s, if_pos rfl]
    · rw [e_X9_send, b_X9_send_0, k9_isMinute, if_pos r, q_bi_s, if_neg n10, k9_w1, if_neg w, q_bi_s, if_pos rfl]
  obtain ⟨m, rfl, hm⟩ := rgN300 r
  obtain ⟨p1, p2⟩ := sh2 hn
  obtain ⟨E, eE⟩ : ∃ E : Nat → Nat → Bool, E = fun c k => decide (on (nI k) 10 = nI c ∧ eD M n (nI k) ≤ m) := ⟨_, rfl⟩
  have Et : ∀ c k, on (nI k) 10 = nI c → eD M n (nI k) ≤ m → E c k = true := fun c k h1 h2 => by rw [eE]; exact decide_eq_true ⟨h1, h2⟩
  have Ef : ∀ c k, ¬ (on (nI k) 10 = nI c ∧ eD M n (nI k) ≤ m) → E c k = false := fun c k h => by rw [eE]; exact decide_eq_false h
  have eDk : ∀ M' set, Fr kZ M M' → eD M' n set = eD M n set := fun M' set f => by unfold eD; rw [dyM_kZ f]
  have eDy : ∀ M' set, Fr kY M M' → eD M' n set = eD M n set := fun M' set f => by unfold eD; rw [dyM_kY f]
  have big : ∀ c, c < 4 → ¬ (3 : Int32) < nI c := fun c h => by rw [Int32.lt_iff_toInt_lt, nI_toInt (by omega), show (3 : Int32).toInt = 3 by decide]; omega
  -- the class
  have cin : ∀ c, c < 4 → ∀ k M', Fr kZ M M' → ∃ M2, Fr kZ M M2 ∧ ((∃ p, p < 2 ^ n ∧ fo (E c) (2 ^ n) 0 = some p ∧ qF sl sx 999 96 (k + 2 ^ n) 42 [some (.ref 4), some (.int (nI m)), some (.int y), some (.int (nI (2 ^ n))), some (.int (nI c)), some (.int (nI 0))] [] M' = if y = 0 then some (some (.int (nI c)), M2) else some (some (.int (nI p)), M2)) ∨ (fo (E c) (2 ^ n) 0 = none ∧ qF sl sx 999 96 (k + 2 ^ n) 42 [some (.ref 4), some (.int (nI m)), some (.int y), some (.int (nI (2 ^ n))), some (.int (nI c)), some (.int (nI 0))] [] M' = qF sl sx 999 96 k 42 [some (.ref 4), some (.int (nI m)), some (.int y), some (.int (nI (2 ^ n))), some (.int (nI c)), some (.int (nI (2 ^ n)))] [] M2)) := by
    intro c hc k M' hM
    refine q_fo (fun k i M' => qF sl sx 999 96 k 42 [some (.ref 4), some (.int (nI m)), some (.int y), some (.int (nI (2 ^ n))), some (.int (nI c)), some (.int (nI i))] [] M') (fun p M2 => if y = 0 then some (some (.int (nI c)), M2) else some (some (.int (nI p)), M2)) (E c) (2 ^ n) (fun M' => Fr kZ M M') (fun k i M' hi hM => ?_) (2 ^ n) 0 k M' (by omega) hM
    rw [b_X8_send_42, if_neg (nI_ge hi (by omega)), k_bits (by omega), q_bi_s, nI_1]
    by_cases c1 : on (nI i) 10 = nI c
    · obtain ⟨M2, a1, a2⟩ := k_endsBy (sl := sl) (sx := sx) (d := 991) (m := m) (set := nI i) (jF_fr rfl hM hF) hm
      rw [eDk M' _ hM] at a1
      refine ⟨M2, fr_tr hM a2, ?_⟩
      rw [if_pos c1, a1, q_bi_s]
      by_cases c2 : eD M n (nI i) ≤ m
      · left
        refine ⟨Et c i c1 c2, ?_⟩
        rw [if_pos c2, if_neg n10]
      · right
        refine ⟨Ef c i (fun q => c2 q.2), ?_⟩
        rw [if_neg c2, if_pos rfl]
    · refine ⟨M', hM, ?_⟩
      right
      refine ⟨Ef c i (fun q => c1 q.1), ?_⟩
      rw [if_neg c1]
  have cl : ∀ r c k M', c + r = 4 → 1030 * (r + 1) < k → Fr kZ M M' → ∃ M2, qF sl sx 999 96 k 33 [some (.ref 4), some (.int (nI m)), some (.int y), some (.int (nI (2 ^ n))), some (.int (nI c)), none] [] M' = some (some (.int (gv E (2 ^ n) y r c)), M2) ∧ Fr kZ M M2 := by
    intro r
    induction r with
    | zero =>
      intro c k M' hc hk hM
      obtain ⟨k, rfl⟩ : ∃ k', k = k' + 1 := ⟨k - 1, by omega⟩
      have : c = 4 := by omega
      subst this
      refine ⟨M', ?_, hM⟩
      rw [b_X8_send_33, if_pos (by decide)]
      rfl
    | succ r ih =>
      intro c k M' hc hk hM
      obtain ⟨k, rfl⟩ : ∃ k', k = k' + 1 + 2 ^ n + 1 := ⟨k - 2 - 2 ^ n, by omega⟩
      obtain ⟨M2, h1, h2⟩ := cin c (by omega) (k + 1) M' hM
      rw [b_X8_send_33, if_neg (big c (by omega)), gv]
      show ∃ M2, qF sl sx 999 96 (k + 1 + 2 ^ n) 42 [some (.ref 4), some (.int (nI m)), some (.int y), some (.int (nI (2 ^ n))), some (.int (nI c)), some (.int (nI 0))] [] M' = _ ∧ _
      rcases h2 with ⟨p, g0, g1, g2⟩ | ⟨g1, g2⟩
      · refine ⟨M2, ?_, h1⟩
        rw [g2, g1]
        dsimp only
        split <;> rfl
      · obtain ⟨M3, z1, z2⟩ := ih (c + 1) k M2 (by omega) (by omega) h1
        refine ⟨M3, ?_, z2⟩
        rw [g2, g1, b_X8_send_42, if_pos (Int32.le_refl _), nI_1]
        exact z1
  obtain ⟨M1, c1, c2⟩ := cl 4 0 q_n1 M (by omega) (q_n1b (by omega)) fr_rf
  have f1 : Fr kY M M1 := fr_mo rfl c2
  -- the reference
  have rin : ∀ c, c < 4 → ∀ k M', Fr kY M M' → ∃ M2, Fr kY M M2 ∧ ((∃ p, p < 2 ^ n ∧ fo (E c) (2 ^ n) 0 = some p ∧ qF sl sx 999 212 (k + 2 ^ n) 30 [some (.ref 48), some (.int (nI m)), some (.int y), some (.int (nI c)), some (.int (nI 0))] [] M' = if y = 0 then some (some (.int (nI c)), M2) else some (some (.int (nI p)), M2)) ∨ (fo (E c) (2 ^ n) 0 = none ∧ qF sl sx 999 212 (k + 2 ^ n) 30 [some (.ref 48), some (.int (nI m)), some (.int y), some (.int (nI c)), some (.int (nI 0))] [] M' = qF sl sx 999 212 k 30 [some (.ref 48), some (.int (nI m)), some (.int y), some (.int (nI c)), some (.int (nI (2 ^ n)))] [] M2)) := by
    intro c hc k M' hM
    refine q_fo (fun k i M' => qF sl sx 999 212 k 30 [some (.ref 48), some (.int (nI m)), some (.int y), some (.int (nI c)), some (.int (nI i))] [] M') (fun p M2 => if y = 0 then some (some (.int (nI c)), M2) else some (some (.int (nI p)), M2)) (E c) (2 ^ n) (fun M' => Fr kY M M') (fun k i M' hi hM => ?_) (2 ^ n) 0 k M' (by omega) hM
    rw [b_X9_send_30, hM.1 48 0 rfl, hF.2.2.1, p1, if_neg (nI_ge hi (by omega)), k9_ones, q_bi_s, nI_1]
    by_cases c1 : on (nI i) 10 = nI c
    · obtain ⟨M2, a1, a2⟩ := k9_endW (sl := sl) (sx := sx) (d := 795) (set := nI i) (jF_fr rfl hM hF) (jL_fr rfl hM hL)
      rw [eDy M' _ hM] at a1
      have e3 : eD M n (nI i) ≤ 301 := sf_le _ _
      refine ⟨M2, fr_tr hM a2, ?_⟩
      rw [if_pos c1, a1, q_bi_s]
      by_cases c2 : eD M n (nI i) ≤ m
      · left
        refine ⟨Et c i c1 c2, ?_⟩
        rw [if_neg (nI_nlt c2 (by omega))]
      · right
        refine ⟨Ef c i (fun q => c2 q.2), ?_⟩
        rw [if_pos (nI_lt (by omega) (by omega))]
    · refine ⟨M', hM, ?_⟩
      right
      refine ⟨Ef c i (fun q => c1 q.1), ?_⟩
      rw [if_neg c1]
  have rl : ∀ r c k M', c + r = 4 → 1030 * (r + 1) < k → Fr kY M M' → ∃ M2, qF sl sx 999 212 k 22 [some (.ref 48), some (.int (nI m)), some (.int y), some (.int (nI c)), none] [] M' = some (some (.int (gv E (2 ^ n) y r c)), M2) ∧ Fr kY M M2 := by
    intro r
    induction r with
    | zero =>
      intro c k M' hc hk hM
      obtain ⟨k, rfl⟩ : ∃ k', k = k' + 1 := ⟨k - 1, by omega⟩
      have : c = 4 := by omega
      subst this
      refine ⟨M', ?_, hM⟩
      rw [b_X9_send_22, if_pos (by decide)]
      rfl
    | succ r ih =>
      intro c k M' hc hk hM
      obtain ⟨k, rfl⟩ : ∃ k', k = k' + 1 + 2 ^ n + 1 := ⟨k - 2 - 2 ^ n, by omega⟩
      obtain ⟨M2, h1, h2⟩ := rin c (by omega) (k + 1) M' hM
      rw [b_X9_send_22, if_neg (big c (by omega)), gv]
      show ∃ M2, qF sl sx 999 212 (k + 1 + 2 ^ n) 30 [some (.ref 48), some (.int (nI m)), some (.int y), some (.int (nI c)), some (.int (nI 0))] [] M' = _ ∧ _
      rcases h2 with ⟨p, g0, g1, g2⟩ | ⟨g1, g2⟩
      · refine ⟨M2, ?_, h1⟩
        rw [g2, g1]
        dsimp only
        split <;> rfl
      · obtain ⟨M3, z1, z2⟩ := ih (c + 1) k M2 (by omega) (by omega) h1
        refine ⟨M3, ?_, z2⟩
        rw [g2, g1, b_X9_send_30, h1.1 48 0 rfl, hF.2.2.1, p1, if_pos (Int32.le_refl _), nI_1]
        exact z1
  obtain ⟨M2, r1, r2⟩ := rl 4 0 q_n1 M1 (by omega) (q_n1b (by omega)) f1
  refine ⟨gv E (2 ^ n) y 4 0, M1, M2, ?_, ?_, ja_kY r2 hJ⟩
  · rw [e_X8_send, b_X8_send_0, k_w300, if_pos r, q_bi_s, if_neg n10, k_w1, if_pos w, q_bi_s, if_neg n10, hF.2.1, p1]
    exact c1
  · rw [e_X9_send, b_X9_send_0, k9_isMinute, if_pos r, q_bi_s, if_neg n10, k9_w1, if_pos w, q_bi_s, if_neg n10]
    exact r1
end SEND
