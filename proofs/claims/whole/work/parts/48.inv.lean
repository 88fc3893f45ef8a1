/-! WHAT HOLDS BETWEEN CALLS (wip/whole/f) -/
theorem fr_dis {l ks : List Nat} {M M' : QM} (h : ks.all (fun x => !(l.elem x)) = true) (f : Fr l M M') (a k : Nat) (e : ks.elem (q_key a k) = true) : M'.1 a k = M.1 a k := by
  rw [List.all_eq_true] at h
  have := h _ (List.elem_iff.mp e)
  rw [Bool.not_eq_true'] at this
  exact f.1 a k this
theorem fr_dis2 {l ks : List Nat} {M M' : QM} (h : ks.all (fun x => !(l.elem x)) = true) (f : Fr l M M') (a k : Nat) (e : ks.elem (200 + a) = true) : M'.2 a k = M.2 a k := by
  rw [List.all_eq_true] at h
  have := h _ (List.elem_iff.mp e)
  rw [Bool.not_eq_true'] at this
  exact f.2 a k this
abbrev rg (x : Int32) (m : Int) : Prop := 0 ≤ x.toInt ∧ x.toInt ≤ m
def mx : Nat → Int
  | 0 => 9
  | 1 => 5
  | 2 => 99
  | 3 => 3
  | 4 => 9
  | 5 => 10
  | 6 => 3
  | _ => 12
def kF : List Nat := [5, 6, 4800, 4801, 4802, 4803, 49, 50, 51, 52, 53]
def JF (n : Nat) (M : QM) : Prop := n ≤ 10 ∧ M.1 5 1 = nI n ∧ M.1 48 0 = nI n ∧ (∀ j, j < n → Rg (M.1 6) j) ∧ (∀ i, i < 5 * n → M.1 6 i = RN M i) ∧ (∀ j, n ≤ j → j < 10 → M.1 6 (5 * j + 4) = 0) ∧ M.1 6 50 = M.1 48 1 ∧ M.1 6 51 = M.1 48 2 ∧ M.1 6 52 = M.1 48 3 ∧ rg (M.1 6 50) 10 ∧ rg (M.1 6 51) 3 ∧ rg (M.1 6 52) 12
theorem jF_fr {n : Nat} {l : List Nat} {M M' : QM} (h : kF.all (fun x => !(l.elem x)) = true) (f : Fr l M M') (j : JF n M) : JF n M' := by
  have e := fr_dis h f
  have e6 : M'.1 6 = M.1 6 := funext fun k => e 6 k rfl
  have eR : RN M' = RN M := by
    funext i
    unfold RN
    rw [e 49 _ rfl, e 50 _ rfl, e 51 _ rfl, e 52 _ rfl, e 53 _ rfl]
  unfold JF at j ⊢
  rw [e 5 1 rfl, e 48 0 rfl, e 48 1 rfl, e 48 2 rfl, e 48 3 rfl, e6, eR]
  exact j
def kT : List Nat := [1401, 15, 4804, 54]
def JT (M : QM) : Prop := ∃ s, s ≤ 120 ∧ M.1 14 1 = nI s ∧ M.1 48 4 = nI s ∧ ∀ i, i < s → M.1 15 i = M.1 54 i
theorem jT_fr {l : List Nat} {M M' : QM} (h : kT.all (fun x => !(l.elem x)) = true) (f : Fr l M M') (j : JT M) : JT M' := by
  have e := fr_dis h f
  have e1 : M'.1 15 = M.1 15 := funext fun k => e 15 k rfl
  have e2 : M'.1 54 = M.1 54 := funext fun k => e 54 k rfl
  unfold JT at j ⊢
  rw [e 14 1 rfl, e 48 4 rfl, e1, e2]
  exact j
def kL : List Nat := [1701, 18, 4808, 4805, 55]
theorem jL_fr {l : List Nat} {M M' : QM} (h : kL.all (fun x => !(l.elem x)) = true) (f : Fr l M M') (j : JL M) : JL M' := by
  have e := fr_dis h f
  have e1 : M'.1 18 = M.1 18 := funext fun k => e 18 k rfl
  have e2 : M'.1 55 = M.1 55 := funext fun k => e 55 k rfl
  unfold JL TxOk at j ⊢
  rw [e 17 1 rfl, e 48 8 rfl, e 48 5 rfl, e1, e2]
  exact j
def kC : List Nat := [28, 29, 30, 31, 4820, 4821, 56, 57, 58, 59]
def CH (n : Nat) (sl wa be num wh old new : Int32) : Prop := wa = old ∧ be = new ∧ ∃ w, w < 8 ∧ wh = nI w ∧ rg old (mx w) ∧ rg new (mx w) ∧ ((w < 5 ∧ ∃ f, f < n ∧ num = nI f ∧ sl = nI (5 * f + w)) ∨ (5 ≤ w ∧ num = 0 ∧ sl = nI (45 + w)))
def JC (n : Nat) (M : QM) : Prop := ∃ d s, d ≤ s ∧ s ≤ 40 ∧ M.1 28 3 = nI d ∧ M.1 48 20 = nI d ∧ M.1 28 4 = nI s ∧ M.1 48 21 = nI s ∧ ∀ i, i < s → CH n (M.1 29 i) (M.1 30 i) (M.1 31 i) (M.1 56 i) (M.1 57 i) (M.1 58 i) (M.1 59 i)
theorem jC_fr {n : Nat} {l : List Nat} {M M' : QM} (h : kC.all (fun x => !(l.elem x)) = true) (f : Fr l M M') (j : JC n M) : JC n M' := by
  have e := fr_dis h f
  have e1 : M'.1 29 = M.1 29 := funext fun k => e 29 k rfl
  have e2 : M'.1 30 = M.1 30 := funext fun k => e 30 k rfl
  have e3 : M'.1 31 = M.1 31 := funext fun k => e 31 k rfl
  have e4 : M'.1 56 = M.1 56 := funext fun k => e 56 k rfl
  have e5 : M'.1 57 = M.1 57 := funext fun k => e 57 k rfl
  have e6 : M'.1 58 = M.1 58 := funext fun k => e 58 k rfl
  have e7 : M'.1 59 = M.1 59 := funext fun k => e 59 k rfl
  unfold JC at j ⊢
  rw [e 28 3 rfl, e 28 4 rfl, e 48 20 rfl, e 48 21 rfl, e1, e2, e3, e4, e5, e6, e7]
  exact j
theorem jC_mo {n n' : Nat} {M : QM} (h : n ≤ n') (j : JC n M) : JC n' M := by
  obtain ⟨d, s, h1, h2, h3, h4, h5, h6, h7⟩ := j
  refine ⟨d, s, h1, h2, h3, h4, h5, h6, fun i hi => ?_⟩
  obtain ⟨c1, c2, w, c3, c4, c5, c6, c7⟩ := h7 i hi
  refine ⟨c1, c2, w, c3, c4, c5, c6, ?_⟩
  rcases c7 with ⟨a1, f, a2, a3⟩ | a
  · exact Or.inl ⟨a1, f, by omega, a3⟩
  · exact Or.inr a
/-- a deed of the class and one of the reference -/
def DE (M : QM) (t c a : Nat) (h s : Nat → Int32) (nw p st te dy : Int32) : Prop := ∃ m, m ≤ 300 ∧ nw = nI m ∧ M.1 t 1 = nI m ∧ (0 < m → TW M t m h ∧ ∀ j, j ≤ m → q_R3 (h j)) ∧ (∀ f, f < 10 → s f = M.1 c f + 1 ∧ -1 ≤ (M.1 c f).toInt ∧ (M.1 c f).toInt ≤ 3) ∧ M.1 a 2 = p ∧ M.1 a 3 = st ∧ M.1 a 4 = te ∧ M.1 a 5 = dy
theorem de_fr {M M' : QM} {t c a : Nat} {h s : Nat → Int32} {nw p st te dy : Int32} (e1 : M'.1 t = M.1 t) (e2 : M'.1 (t + 1) = M.1 (t + 1)) (e3 : M'.1 c = M.1 c) (e4 : M'.1 a = M.1 a) (j : DE M t c a h s nw p st te dy) : DE M' t c a h s nw p st te dy := by
  obtain ⟨m, h1, h2, h3, h4, h5, h6⟩ := j
  refine ⟨m, h1, h2, by rw [e1]; exact h3, fun hm => ⟨tw_fr (fun k => by rw [e1]) (fun k => by rw [e2]) (h4 hm).1, (h4 hm).2⟩, by rw [e3]; exact h5, by rw [e4]; exact h6⟩
def kD : List Nat := [20, 21, 22, 23, 63, 67, 4837, 4838, 4839, 4840, 4841]
def JD (M : QM) : Prop := DE M 21 23 20 (M.1 63) (M.1 67) (M.1 48 37) (M.1 48 38) (M.1 48 39) (M.1 48 40) (M.1 48 41)
theorem jD_fr {l : List Nat} {M M' : QM} (h : kD.all (fun x => !(l.elem x)) = true) (f : Fr l M M') (j : JD M) : JD M' := by
  have e := fr_dis h f
  have e1 : M'.1 63 = M.1 63 := funext fun k => e 63 k rfl
  have e2 : M'.1 67 = M.1 67 := funext fun k => e 67 k rfl
  unfold JD at j ⊢
  rw [e1, e2, e 48 37 rfl, e 48 38 rfl, e 48 39 rfl, e 48 40 rfl, e 48 41 rfl]
  exact de_fr (funext fun k => e 21 k rfl) (funext fun k => e 22 k rfl) (funext fun k => e 23 k rfl) (funext fun k => e 20 k rfl) j
def kK : List Nat := [4, 24, 25, 26, 27, 68, 4844]
def JK (M : QM) : Prop := M.1 4 9 = M.1 48 44 ∧ (M.1 48 44 = 0 ∨ M.1 48 44 = 1) ∧ (M.1 48 44 = 1 → DE M 25 27 24 (M.1 68) (fun f => M.1 68 (301 + f)) (M.1 68 311) (M.1 68 312) (M.1 68 313) (M.1 68 314) (M.1 68 315))
theorem jK_fr {l : List Nat} {M M' : QM} (h : kK.all (fun x => !(l.elem x)) = true) (f : Fr l M M') (j : JK M) : JK M' := by
  have e := fr_dis h f
  have e1 : M'.1 68 = M.1 68 := funext fun k => e 68 k rfl
  unfold JK at j ⊢
  rw [e1, e 4 9 rfl, e 48 44 rfl]
  exact ⟨j.1, j.2.1, fun q => de_fr (funext fun k => e 25 k rfl) (funext fun k => e 26 k rfl) (funext fun k => e 27 k rfl) (funext fun k => e 24 k rfl) (j.2.2 q)⟩
def kS : List Nat := [32, 33, 34, 69, 70, 4806, 4807]
def JS (b : Nat) (M : QM) : Prop := b ≤ 50 ∧ M.1 32 1 = nI b ∧ M.1 48 7 = nI b ∧ (∀ i, i < b → M.1 33 i = M.1 69 i ∧ ∃ k, k < 8 ∧ M.1 69 i = nI k) ∧ ∃ r, r < 10000 ∧ M.1 32 3 = nI r ∧ M.1 48 6 = nI r ∧ ∀ i, i < r → i < 24 → M.1 34 i = M.1 70 i
theorem jS_fr {b : Nat} {l : List Nat} {M M' : QM} (h : kS.all (fun x => !(l.elem x)) = true) (f : Fr l M M') (j : JS b M) : JS b M' := by
  have e := fr_dis h f
  have e1 : M'.1 33 = M.1 33 := funext fun k => e 33 k rfl
  have e2 : M'.1 34 = M.1 34 := funext fun k => e 34 k rfl
  have e3 : M'.1 69 = M.1 69 := funext fun k => e 69 k rfl
  have e4 : M'.1 70 = M.1 70 := funext fun k => e 70 k rfl
  unfold JS at j ⊢
  rw [e1, e2, e3, e4, e 32 1 rfl, e 48 7 rfl, e 32 3 rfl, e 48 6 rfl]
  exact j
def kH : List Nat := [36, 38, 40, 42, 44, 46, 71, 72, 73, 74, 237, 239, 241, 243, 245, 247, 275]
def SH (b : Nat) (c : Nat → Int32) (cl : Nat → Int64) (hd so sz sh : Int32) (rc : Nat → Int64) : Prop := (hd = 0 ∧ c 0 = -1) ∨ (hd = 1 ∧ c 0 = -2 ∧ c 2 = sh ∧ ∃ j, j < b ∧ sh = nI j) ∨ (hd = 2 ∧ ∃ o z, o < 5 ∧ z ≤ 60 ∧ so = nI o ∧ c 0 = nI o ∧ sz = nI z ∧ c 1 = nI z ∧ ∀ i, i < 60 → cl i = rc i ∧ (o = 0 → (rc i).toInt32.toInt64 = rc i))
def JH (b : Nat) (M : QM) : Prop := ∀ s, s < 6 → SH b (M.1 (36 + 2 * s)) (M.2 (37 + 2 * s)) (M.1 71 s) (M.1 72 s) (M.1 73 s) (M.1 74 s) (fun i => M.2 75 (60 * s + i))
theorem kH_a {s : Nat} (h : s < 6) : (∀ k, kH.elem (q_key (36 + 2 * s) k) = true) ∧ kH.elem (200 + (37 + 2 * s)) = true := by
  have : s = 0 ∨ s = 1 ∨ s = 2 ∨ s = 3 ∨ s = 4 ∨ s = 5 := by omega
  rcases this with rfl | rfl | rfl | rfl | rfl | rfl <;> exact ⟨fun _ => rfl, rfl⟩
theorem jH_fr {b : Nat} {l : List Nat} {M M' : QM} (h : kH.all (fun x => !(l.elem x)) = true) (f : Fr l M M') (j : JH b M) : JH b M' := by
  have e := fr_dis h f
  have e2 := fr_dis2 h f
  intro s hs
  have j1 := j s hs
  obtain ⟨k1, k2⟩ := kH_a hs
  rw [show M'.1 (36 + 2 * s) = M.1 (36 + 2 * s) from funext fun k => e _ k (k1 k), show M'.2 (37 + 2 * s) = M.2 (37 + 2 * s) from funext fun k => e2 _ k k2, e 71 s rfl, e 72 s rfl, e 73 s rfl, e 74 s rfl, show M'.2 75 = M.2 75 from funext fun k => e2 75 k rfl]
  exact j1
theorem jH_mo {b b' : Nat} {M : QM} (h : b ≤ b') (j : JH b M) : JH b' M := by
  intro s hs
  rcases j s hs with q | ⟨q1, q2, q3, i, q4, q5⟩ | q
  · exact Or.inl q
  · exact Or.inr (Or.inl ⟨q1, q2, q3, i, by omega, q5⟩)
  · exact Or.inr (Or.inr q)
def JJ (n b : Nat) (M : QM) : Prop := JF n M ∧ JT M ∧ JL M ∧ JC n M ∧ JD M ∧ JK M ∧ JS b M ∧ JH b M
def JA (M : QM) : Prop := ∃ n b, JJ n b M
/-- the cells that no call leaves anything in -/
def kX : List Nat := [7, 8, 9, 10, 11, 12, 13, 1703, 19, 60, 61, 62, 64, 65, 66, 4822, 4823, 4824, 4830, 4831, 4832, 4833, 4834, 276]
theorem jj_fr {n b : Nat} {M M' : QM} (f : Fr kX M M') (j : JJ n b M) : JJ n b M' := ⟨jF_fr rfl f j.1, jT_fr rfl f j.2.1, jL_fr rfl f j.2.2.1, jC_fr rfl f j.2.2.2.1, jD_fr rfl f j.2.2.2.2.1, jK_fr rfl f j.2.2.2.2.2.1, jS_fr rfl f j.2.2.2.2.2.2.1, jH_fr rfl f j.2.2.2.2.2.2.2⟩
theorem ja_fr {M M' : QM} (f : Fr kX M M') (j : JA M) : JA M' := by
  obtain ⟨n, b, j⟩ := j
  exact ⟨n, b, jj_fr f j⟩
/-! pairs -/
section PAIRS1
variable {sl : Nat} {sx : Nat → Int32}
theorem p_count (x : Int32) : QPi sl sx JA 125 256 [.int x] := by
  intro M hJ
  obtain ⟨n, b, h⟩ := id hJ
  obtain ⟨F1, F2, F3, _⟩ := h.1
  obtain ⟨s, _, T1, T2, _⟩ := h.2.1
  obtain ⟨d, _, _, _, C1, C2, _⟩ := h.2.2.2.1
  obtain ⟨_, S1, S2, _, r, _, S3, S4, _⟩ := h.2.2.2.2.2.2.1
  refine ⟨_, M, M, k_count, ?_, hJ⟩
  rw [k_count9, F2, F3, T1, T2, C1, C2, S1, S2, S3, S4]
end PAIRS1
