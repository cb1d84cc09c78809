/-! type's characters; the loops as they are entered; numbers out of range -/
def sr_ok (c : Int32) : Prop := sr_dig c ∨ c = 32 ∨ c = 124 ∨ c = 42 ∨ c = 60 ∨ c = 62 ∨ c = 61 ∨ c = 94 ∨ c = 126 ∨ c = 46 ∨ c = 45
theorem sr_ok_d {c : Int32} (h : sr_dig c) : sr_ok c := Or.inl h
theorem sr_ok_32 {c : Int32} (h : c = 32) : sr_ok c := Or.inr (Or.inl h)
theorem sr_ok_124 {c : Int32} (h : c = 124) : sr_ok c := Or.inr (Or.inr (Or.inl h))
theorem sr_ok_42 {c : Int32} (h : c = 42) : sr_ok c := Or.inr (Or.inr (Or.inr (Or.inl h)))
theorem sr_ok_60 {c : Int32} (h : c = 60) : sr_ok c := Or.inr (Or.inr (Or.inr (Or.inr (Or.inl h))))
theorem sr_ok_62 {c : Int32} (h : c = 62) : sr_ok c := Or.inr (Or.inr (Or.inr (Or.inr (Or.inr (Or.inl h)))))
theorem sr_ok_61 {c : Int32} (h : c = 61) : sr_ok c := Or.inr (Or.inr (Or.inr (Or.inr (Or.inr (Or.inr (Or.inl h))))))
theorem sr_ok_94 {c : Int32} (h : c = 94) : sr_ok c := Or.inr (Or.inr (Or.inr (Or.inr (Or.inr (Or.inr (Or.inr (Or.inl h)))))))
theorem sr_ok_126 {c : Int32} (h : c = 126) : sr_ok c := Or.inr (Or.inr (Or.inr (Or.inr (Or.inr (Or.inr (Or.inr (Or.inr (Or.inl h))))))))
theorem sr_ok_46 {c : Int32} (h : c = 46) : sr_ok c := Or.inr (Or.inr (Or.inr (Or.inr (Or.inr (Or.inr (Or.inr (Or.inr (Or.inr (Or.inl h)))))))))
theorem sr_ok_45 {c : Int32} (h : c = 45) : sr_ok c := Or.inr (Or.inr (Or.inr (Or.inr (Or.inr (Or.inr (Or.inr (Or.inr (Or.inr (Or.inr h)))))))))
theorem sr_ok_n {c : Int32} (d : ¬ sr_dig c) (a1 : ¬ c = 32) (a2 : ¬ c = 124) (a3 : ¬ c = 42) (a4 : ¬ c = 60) (a5 : ¬ c = 62) (a6 : ¬ c = 61) (a7 : ¬ c = 94) (a8 : ¬ c = 126) (a9 : ¬ c = 46) (a10 : ¬ c = 45) : ¬ sr_ok c := by
  intro h
  rcases h with h | h | h | h | h | h | h | h | h | h | h
  · exact d h
  · exact a1 h
  · exact a2 h
  · exact a3 h
  · exact a4 h
  · exact a5 h
  · exact a6 h
  · exact a7 h
  · exact a8 h
  · exact a9 h
  · exact a10 h
theorem x_t41 {post : Int32 → Prop} {c x1 z0 : Int32} (h : ∀ z, wX_isTextCharacter_77 post c x1 z0 z) : wX_isTextCharacter_41 post c x1 z0 :=
  br_c (fun _ => h 1) (fun _ => br_c (fun _ => h 1) (fun _ => br_c (fun _ => h 1) (fun _ => br_c (fun _ => h 1) (fun _ => br_c (fun _ => h 1) (fun _ => h 0)))))
theorem x_t17 {post : Int32 → Prop} {c z0 : Int32} (h : ∀ z, wX_isTextCharacter_41 post c z0 z) : wX_isTextCharacter_17 post c z0 :=
  br_c (fun _ => h 1) (fun _ => br_c (fun _ => h 1) (fun _ => br_c (fun _ => h 1) (fun _ => h 0)))
theorem x_tc {post : Int32 → Prop} {c : Int32} (h1 : sr_ok c → post 1) (h0 : ¬ sr_ok c → post 0) : wpX_isTextCharacter post c := by
  by_cases d : sr_dig c
  · exact br_f (sr_nlt d.1) (br_f (sr_nlt d.2) (x_t17 (fun _ => x_t41 (fun _ => br_f (by decide) (h1 (sr_ok_d d))))))
  · have key : wX_isTextCharacter_17 post c 0 := by
      by_cases a1 : c = 32
      · exact br_t a1 (x_t41 (fun _ => br_t rfl (br_f (by decide) (h1 (sr_ok_32 a1)))))
      refine br_f a1 ?_
      by_cases a2 : c = 124
      · exact br_t a2 (x_t41 (fun _ => br_t rfl (br_f (by decide) (h1 (sr_ok_124 a2)))))
      refine br_f a2 ?_
      by_cases a3 : c = 42
      · exact br_t a3 (x_t41 (fun _ => br_t rfl (br_f (by decide) (h1 (sr_ok_42 a3)))))
      refine br_f a3 ?_
      by_cases a4 : c = 60
      · exact br_t a4 (br_t rfl (br_t rfl (br_f (by decide) (h1 (sr_ok_60 a4)))))
      refine br_f a4 ?_
      by_cases a5 : c = 62
      · exact br_t a5 (br_t rfl (br_t rfl (br_f (by decide) (h1 (sr_ok_62 a5)))))
      refine br_f a5 ?_
      by_cases a6 : c = 61
      · exact br_t a6 (br_t rfl (br_t rfl (br_f (by decide) (h1 (sr_ok_61 a6)))))
      refine br_f a6 ?_
      by_cases a7 : c = 94
      · exact br_t a7 (br_t rfl (br_t rfl (br_f (by decide) (h1 (sr_ok_94 a7)))))
      refine br_f a7 ?_
      by_cases a8 : c = 126
      · exact br_t a8 (br_t rfl (br_t rfl (br_f (by decide) (h1 (sr_ok_126 a8)))))
      refine br_f a8 (br_t rfl (br_t rfl (br_t rfl ?_)))
      exact br_c (fun a9 => h1 (sr_ok_46 a9)) (fun a9 => br_c (fun a10 => h1 (sr_ok_45 a10)) (fun a10 => h0 (sr_ok_n d a1 a2 a3 a4 a5 a6 a7 a8 a9 a10)))
    exact br_c (fun _ => key) (fun a => br_c (fun _ => key) (fun b => absurd ⟨Int32.not_lt.mp a, Int32.not_lt.mp b⟩ d))
theorem y_ty {post : Int32 → SY → Prop} {tl pt l h c : Int32} {T K R : Nat → Int32} (hL : ¬ tl = 40) (w1 : sr_ok c → wY_type_92 post c tl pt l h T K R) (w0 : ¬ sr_ok c → post (-1) (tl, pt, l, h, T, K, R)) : wpY_type post (tl, pt, l, h, T, K, R) c := by
  unfold wpY_type
  dsimp only
  refine br_f hL ?_
  by_cases d : sr_dig c
  · exact y_i1 d (br_f (by decide) (br_f (by decide) (w1 (sr_ok_d d))))
  refine y_i0 d (br_t rfl ?_)
  by_cases a1 : c = 32
  · exact br_t a1 (br_f (by decide) (w1 (sr_ok_32 a1)))
  refine br_f a1 ?_
  by_cases a3 : c = 42
  · exact br_t a3 (br_f (by decide) (w1 (sr_ok_42 a3)))
  refine br_f a3 ?_
  by_cases a9 : c = 46
  · exact br_t a9 (br_f (by decide) (w1 (sr_ok_46 a9)))
  refine br_f a9 ?_
  by_cases a2 : c = 124
  · exact br_t a2 (br_f (by decide) (w1 (sr_ok_124 a2)))
  refine br_f a2 ?_
  by_cases a4 : c = 60
  · exact br_t a4 (br_f (by decide) (w1 (sr_ok_60 a4)))
  refine br_f a4 (br_t rfl ?_)
  by_cases a5 : c = 62
  · exact br_t a5 (w1 (sr_ok_62 a5))
  refine br_f a5 ?_
  by_cases a6 : c = 61
  · exact br_t a6 (w1 (sr_ok_61 a6))
  refine br_f a6 ?_
  by_cases a7 : c = 94
  · exact br_t a7 (w1 (sr_ok_94 a7))
  refine br_f a7 ?_
  by_cases a8 : c = 126
  · exact br_t a8 (w1 (sr_ok_126 a8))
  refine br_f a8 ?_
  exact br_c (fun a10 => w1 (sr_ok_45 a10)) (fun a10 => w0 (sr_ok_n d a1 a2 a3 a4 a5 a6 a7 a8 a9 a10))
/-! the loops of meet, join, invert, stretches from their beginning -/
theorem x_meetL {post : Int32 → SX → Prop} {s a b : Nat} {tl pl pd pa pb ia ib : Int32} {M T f g : Nat → Int32} (hs : s < 4) (ha : a < 4) (hb : b < 4) (hB : sr_B M)
    (hf : ∀ v, v < 1000 → M (a * 1000 + v) = f v) (hg : ∀ v, v < 1000 → M (b * 1000 + v) = g v)
    (h1 : sr_st (sr_and f g) 1000 ≤ 24 → post 1 (tl, pl, pd, pa, pb, ia, ib, sr_new M s (sr_and f g), T))
    (h0 : ¬ sr_st (sr_and f g) 1000 ≤ 24 → post 0 (tl, pl, pd, pa, pb, ia, ib, sr_fill M 4000 (sr_and f g) 1000, T)) :
    ∃ n : Nat, wX_meet_26 post (nI s) (nI a) (nI b) tl pl pd pa pb ia ib n 0 M T := by
  have q := x_ml hs ha hb hB hf hg h1 h0 1000 0 rfl
  rw [sr_fill_0] at q
  exact ⟨1001, q⟩
theorem x_joinL {post : Int32 → SX → Prop} {s a b : Nat} {tl pl pd pa pb ia ib : Int32} {M T f g : Nat → Int32} (hs : s < 4) (ha : a < 4) (hb : b < 4) (hB : sr_B M)
    (hf : ∀ v, v < 1000 → M (a * 1000 + v) = f v) (hg : ∀ v, v < 1000 → M (b * 1000 + v) = g v)
    (h1 : sr_st (sr_or f g) 1000 ≤ 24 → post 1 (tl, pl, pd, pa, pb, ia, ib, sr_new M s (sr_or f g), T))
    (h0 : ¬ sr_st (sr_or f g) 1000 ≤ 24 → post 0 (tl, pl, pd, pa, pb, ia, ib, sr_fill M 4000 (sr_or f g) 1000, T)) :
    ∃ n : Nat, wX_join_26 post (nI s) (nI a) (nI b) tl pl pd pa pb ia ib n 0 M T := by
  have q := x_jl hs ha hb hB hf hg h1 h0 1000 0 rfl
  rw [sr_fill_0] at q
  exact ⟨1001, q⟩
theorem x_invL {post : Int32 → SX → Prop} {s a : Nat} {tl pl pd pa pb ia ib : Int32} {M T f : Nat → Int32} (hs : s < 4) (ha : a < 4) (hB : sr_B M)
    (hf : ∀ v, v < 1000 → M (a * 1000 + v) = f v)
    (h1 : sr_st (sr_not f) 1000 ≤ 24 → post 1 (tl, pl, pd, pa, pb, ia, ib, sr_new M s (sr_not f), T))
    (h0 : ¬ sr_st (sr_not f) 1000 ≤ 24 → post 0 (tl, pl, pd, pa, pb, ia, ib, sr_fill M 4000 (sr_not f) 1000, T)) :
    ∃ n : Nat, wX_invert_18 post (nI s) (nI a) tl pl pd pa pb ia ib n 0 M T := by
  have q := x_il hs ha hB hf h1 h0 1000 0 rfl
  rw [sr_fill_0] at q
  exact ⟨1001, q⟩
theorem y_meetL {post : Int32 → SY → Prop} {s a b : Nat} {tl pt lo hi : Int32} {K T R f g : Nat → Int32} (hs : s < 4) (ha : a < 4) (hb : b < 4) (hB : sr_B R)
    (hf : ∀ v, v < 1000 → K (a * 1000 + v) = f v) (hg : ∀ v, v < 1000 → K (b * 1000 + v) = g v)
    (h1 : sr_st (sr_and f g) 1000 ≤ 24 → post 1 (tl, pt, lo, hi, T, sr_fill K (s * 1000) (sr_fill R 0 (sr_and f g) 1000) 1000, sr_fill R 0 (sr_and f g) 1000))
    (h0 : ¬ sr_st (sr_and f g) 1000 ≤ 24 → post 0 (tl, pt, lo, hi, T, K, sr_fill R 0 (sr_and f g) 1000)) :
    ∃ n : Nat, wY_meet_29 post (nI s) (nI a) (nI b) tl pt lo hi n 0 T K R := by
  have q := y_ml hs ha hb hB hf hg h1 h0 1000 0 rfl
  rw [sr_fill_0] at q
  exact ⟨1001, q⟩
theorem y_joinL {post : Int32 → SY → Prop} {s a b : Nat} {tl pt lo hi : Int32} {K T R f g : Nat → Int32} (hs : s < 4) (ha : a < 4) (hb : b < 4) (hB : sr_B R)
    (hf : ∀ v, v < 1000 → K (a * 1000 + v) = f v) (hg : ∀ v, v < 1000 → K (b * 1000 + v) = g v)
    (h1 : sr_st (sr_or f g) 1000 ≤ 24 → post 1 (tl, pt, lo, hi, T, sr_fill K (s * 1000) (sr_fill R 0 (sr_or f g) 1000) 1000, sr_fill R 0 (sr_or f g) 1000))
    (h0 : ¬ sr_st (sr_or f g) 1000 ≤ 24 → post 0 (tl, pt, lo, hi, T, K, sr_fill R 0 (sr_or f g) 1000)) :
    ∃ n : Nat, wY_join_29 post (nI s) (nI a) (nI b) tl pt lo hi n 0 T K R := by
  have q := y_jl hs ha hb hB hf hg h1 h0 1000 0 rfl
  rw [sr_fill_0] at q
  exact ⟨1001, q⟩
theorem y_invL {post : Int32 → SY → Prop} {s a : Nat} {tl pt lo hi : Int32} {K T R f : Nat → Int32} (hs : s < 4) (ha : a < 4) (hB : sr_B R)
    (hf : ∀ v, v < 1000 → K (a * 1000 + v) = f v)
    (h1 : sr_st (sr_not f) 1000 ≤ 24 → post 1 (tl, pt, lo, hi, T, sr_fill K (s * 1000) (sr_fill R 0 (sr_not f) 1000) 1000, sr_fill R 0 (sr_not f) 1000))
    (h0 : ¬ sr_st (sr_not f) 1000 ≤ 24 → post 0 (tl, pt, lo, hi, T, K, sr_fill R 0 (sr_not f) 1000)) :
    ∃ n : Nat, wY_invert_20 post (nI s) (nI a) tl pt lo hi n 0 T K R := by
  have q := y_il hs ha hB hf h1 h0 1000 0 rfl
  rw [sr_fill_0] at q
  exact ⟨1001, q⟩
theorem y_strL {post : Int32 → SY → Prop} {s : Nat} {tl pt lo hi : Int32} {K T R f : Nat → Int32} (hs : s < 4) (hB : sr_B f) (hf : ∀ v, v < 1000 → K (s * 1000 + v) = f v)
    (h : post (nI (sr_st f 1000)) (tl, pt, lo, hi, T, K, sr_fill R 0 f 1000)) : ∃ n : Nat, wY_stretches_12 post (nI s) tl pt lo hi n 0 T K R := by
  have q := y_sc (R := R) hs hB hf h 1000 0 rfl
  rw [sr_fill_0] at q
  exact ⟨1001, q⟩
/-! numbers out of 0 .. 999 -/
theorem sr_neg_n {x : Int32} {v : Nat} (h : x < 0) (hv : v < 1000) : x < nI v := by
  rw [Int32.lt_iff_toInt_lt] at h
  rw [Int32.lt_iff_toInt_lt, nI_toInt (by omega)]
  have e : (0 : Int32).toInt = 0 := by decide
  omega
theorem sr_neg_f {x : Int32} {v : Nat} (h : x < 0) (hv : v < 1000) : ¬ nI v < x := by
  rw [Int32.lt_iff_toInt_lt] at h
  rw [Int32.lt_iff_toInt_lt, nI_toInt (by omega)]
  have e : (0 : Int32).toInt = 0 := by decide
  omega
theorem sr_big_n {x : Int32} {v : Nat} (h : nI 1000 ≤ x) (hv : v < 1000) : nI v < x := by
  rw [Int32.le_iff_toInt_le, nI_toInt (by omega)] at h
  rw [Int32.lt_iff_toInt_lt, nI_toInt (by omega)]
  omega
theorem sr_big_f {x : Int32} {v : Nat} (h : nI 1000 ≤ x) (hv : v < 1000) : ¬ x < nI v := by
  rw [Int32.le_iff_toInt_le, nI_toInt (by omega)] at h
  rw [Int32.lt_iff_toInt_lt, nI_toInt (by omega)]
  omega
theorem sr_neg_le {x : Int32} (h : x < 0) : x ≤ 999 := by
  rw [Int32.lt_iff_toInt_lt] at h
  rw [Int32.le_iff_toInt_le]
  have e : (0 : Int32).toInt = 0 := by decide
  have e2 : (999 : Int32).toInt = 999 := by decide
  omega
theorem sr_big_le {x : Int32} (h : nI 1000 ≤ x) : ¬ x ≤ 999 := by
  rw [Int32.le_iff_toInt_le, nI_toInt (by omega)] at h
  rw [Int32.le_iff_toInt_le]
  have e2 : (999 : Int32).toInt = 999 := by decide
  omega
theorem sr_big_lt {x : Int32} (h : nI 1000 ≤ x) : 999 < x := Int32.not_le.mp (sr_big_le h)
theorem sr_big_0 {x : Int32} (h : nI 1000 ≤ x) : 0 ≤ x := by
  rw [Int32.le_iff_toInt_le, nI_toInt (by omega)] at h
  rw [Int32.le_iff_toInt_le]
  have e : (0 : Int32).toInt = 0 := by decide
  omega
theorem sr_neg_0 {x : Int32} (h : x < 0) : ¬ 0 ≤ x := Int32.not_le.mpr h
