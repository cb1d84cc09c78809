/-! the loops over 1000 cells: each side against a pure picture -/
theorem sr_1000 {i : Nat} (h : i < 1000) : ¬ (1000 : Int32) ≤ nI i := nI_ge (b := 1000) h (by decide)
theorem sr_1000e : (1000 : Int32) ≤ nI 1000 := by decide
/-- the number of members among the first n -/
def sr_cn (f : Nat → Int32) : Nat → Nat
  | 0 => 0
  | n + 1 => sr_cn f n + (if f n = 0 then 0 else 1)
theorem sr_cn_0 {f : Nat → Int32} {n : Nat} (h : f n = 0) : sr_cn f (n + 1) = sr_cn f n := by
  show sr_cn f n + _ = _
  rw [if_pos h, Nat.add_zero]
theorem sr_cn_1 {f : Nat → Int32} {n : Nat} (h : ¬ f n = 0) : sr_cn f (n + 1) = sr_cn f n + 1 := by
  show sr_cn f n + _ = _
  rw [if_neg h]
theorem x_cn {post : Int32 → Prop} {s : Nat} {tl pl pd pa pb ia ib : Int32} {M T f : Nat → Int32} (hs : s ≤ 4) (hf : ∀ v, v < 1000 → M (s * 1000 + v) = f v) (h : post (nI (sr_cn f 1000))) :
    ∀ d i : Nat, i + d = 1000 → wX_countMembers_4 post (nI s) tl pl pd pa pb ia ib M T (d + 1) (nI (sr_cn f i)) (nI i) := by
  intro d
  induction d with
  | zero =>
    intro i hi
    obtain rfl : i = 1000 := by omega
    exact br_t sr_1000e h
  | succ d IH =>
    intro i hi
    have ck : (nI s * 1000 + nI i).toNatClampNeg = s * 1000 + i := pk_cl _ (sr_ixX s i)
    have IH' := IH (i + 1) (by omega)
    refine br_f (sr_1000 (by omega)) ⟨pk_in (s * 1000 + i) 5000 (by omega) (sr_ixX s i), ?_⟩
    rw [ck, hf i (by omega)]
    by_cases z : f i = 0
    · rw [sr_cn_0 z] at IH'
      exact br_t z (nm_r (nI_1 i) IH')
    · rw [sr_cn_1 z] at IH'
      exact br_f z (nm_r (nI_1 _) (nm_r (nI_1 i) IH'))
theorem x_count {post : Int32 → Prop} {s : Nat} {tl pl pd pa pb ia ib : Int32} {M T f : Nat → Int32} (hs : s ≤ 4) (hf : ∀ v, v < 1000 → M (s * 1000 + v) = f v) (h : post (nI (sr_cn f 1000))) :
    wpX_countMembers post (tl, pl, pd, pa, pb, ia, ib, M, T) (nI s) := ⟨1001, x_cn hs hf h 1000 0 rfl⟩
theorem y_cn {post : Int32 → Prop} {s : Nat} {tl pt lo hi : Int32} {K T R f : Nat → Int32} (hs : s < 4) (hf : ∀ v, v < 1000 → K (s * 1000 + v) = f v) (h : post (nI (sr_cn f 1000))) :
    ∀ d i : Nat, i + d = 1000 → wY_count_14 post (nI s) tl pt lo hi T K R (d + 1) (nI (sr_cn f i)) (nI i) := by
  intro d
  induction d with
  | zero =>
    intro i hi
    obtain rfl : i = 1000 := by omega
    exact br_t sr_1000e h
  | succ d IH =>
    intro i hi
    have ck : (1000 * nI s + nI i).toNatClampNeg = s * 1000 + i := pk_cl _ (sr_ixY s i)
    have IH' := IH (i + 1) (by omega)
    refine br_f (sr_1000 (by omega)) ⟨pk_in (s * 1000 + i) 4000 (by omega) (sr_ixY s i), ?_⟩
    rw [ck, hf i (by omega)]
    by_cases z : f i = 0
    · rw [sr_cn_0 z] at IH'
      exact br_t z (nm_r (nI_1 i) IH')
    · rw [sr_cn_1 z] at IH'
      exact br_f z (nm_r (nI_1 _) (nm_r (nI_1 i) IH'))
theorem y_count {post : Int32 → Prop} {s : Nat} {tl pt lo hi : Int32} {K T R f : Nat → Int32} (hs : s < 4) (hf : ∀ v, v < 1000 → K (s * 1000 + v) = f v) (h : post (nI (sr_cn f 1000))) :
    wpY_count post (tl, pt, lo, hi, T, K, R) (nI s) := by
  unfold wpY_count
  dsimp only
  exact y_r1 hs (br_f (by decide) ⟨1001, y_cn hs hf h 1000 0 rfl⟩)
/-! stretches -/
theorem x_sl {post : Int32 → Prop} {s : Nat} {tl pl pd pa pb ia ib : Int32} {M T f : Nat → Int32} (hs : s ≤ 4) (hf : ∀ v, v < 1000 → M (s * 1000 + v) = f v) (h : post (nI (sr_st f 1000))) :
    ∀ (d i : Nat) (x : Int32), i + d = 1000 → (x = 0 ↔ (i = 0 ∨ f (i - 1) = 0)) → wX_countStretches_7 post (nI s) tl pl pd pa pb ia ib M T (d + 1) (nI (sr_st f i)) x (nI i) := by
  intro d
  induction d with
  | zero =>
    intro i x hi hx
    obtain rfl : i = 1000 := by omega
    exact br_t sr_1000e h
  | succ d IH =>
    intro i x hi hx
    have ck : (nI s * 1000 + nI i).toNatClampNeg = s * 1000 + i := pk_cl _ (sr_ixX s i)
    have IH' := IH (i + 1) (f i) (by omega) ⟨fun z => Or.inr z, fun z => z.elim (fun y => absurd y (by omega)) id⟩
    rw [sr_st_s] at IH'
    refine br_f (sr_1000 (by omega)) ⟨pk_in (s * 1000 + i) 5000 (by omega) (sr_ixX s i), nm_r (e' := f i) (by rw [ck, hf i (by omega)]) ?_⟩
    by_cases z : f i = 0
    · rw [sr_e_z z] at IH'
      exact br_t z (nm_r (nI_1 i) IH')
    · by_cases y : x = 0
      · rw [sr_e_1 z (hx.mp y)] at IH'
        exact br_f z (br_t y (nm_r (nI_1 _) (nm_r (nI_1 i) IH')))
      · have w : ¬ (i = 0 ∨ f (i - 1) = 0) := fun q => y (hx.mpr q)
        rw [sr_e_0 (fun q => w (Or.inl q)) (fun q => w (Or.inr q))] at IH'
        exact br_f z (br_f y (nm_r (nI_1 i) IH'))
theorem x_st {post : Int32 → Prop} {s : Nat} {tl pl pd pa pb ia ib : Int32} {M T f : Nat → Int32} (hs : s ≤ 4) (hf : ∀ v, v < 1000 → M (s * 1000 + v) = f v) (h : post (nI (sr_st f 1000))) :
    wpX_countStretches post (tl, pl, pd, pa, pb, ia, ib, M, T) (nI s) := ⟨1001, x_sl hs hf h 1000 0 0 rfl ⟨fun _ => Or.inl rfl, fun _ => rfl⟩⟩
theorem y_sl {post : Int32 → Prop} {tl pt lo hi : Int32} {K T R f : Nat → Int32} (hf : ∀ v, v < 1000 → R v = f v) (h : post (nI (sr_st f 1000))) :
    ∀ d i : Nat, i + d = 1000 → wY_stretchesOfResult_4 post tl pt lo hi T K R (d + 1) (nI (sr_st f i)) (nI i) := by
  intro d
  induction d with
  | zero =>
    intro i hi
    obtain rfl : i = 1000 := by omega
    exact br_t sr_1000e h
  | succ d IH =>
    intro i hi
    have ck : (nI i).toNatClampNeg = i := pk_cl i
    have IH' := IH (i + 1) (by omega)
    rw [sr_st_s] at IH'
    refine br_f (sr_1000 (by omega)) ⟨pk_in i 1000 (by omega), ?_⟩
    rw [ck, hf i (by omega)]
    by_cases z : f i = 0
    · rw [sr_e_z z] at IH'
      exact br_t z (nm_r (nI_1 i) IH')
    · refine br_f z ?_
      by_cases y : i = 0
      · rw [sr_e_1 z (Or.inl y)] at IH'
        exact br_t (by rw [y]; rfl) (nm_r (nI_1 _) (nm_r (nI_1 i) IH'))
      · have e1 : nI i - 1 = nI (i - 1) := pk_sub (a := i) (b := 1) (by omega)
        have ck1 : (nI i - 1).toNatClampNeg = i - 1 := pk_cl _ e1
        refine br_f (nI_ne0 (by omega) (by omega)) ⟨pk_in (i - 1) 1000 (by omega) e1, ?_⟩
        rw [ck1, hf (i - 1) (by omega)]
        by_cases w : f (i - 1) = 0
        · rw [sr_e_1 z (Or.inr w)] at IH'
          exact br_t w (nm_r (nI_1 _) (nm_r (nI_1 i) IH'))
        · rw [sr_e_0 y w] at IH'
          exact br_f w (nm_r (nI_1 i) IH')
theorem y_st {post : Int32 → Prop} {tl pt lo hi : Int32} {K T R f : Nat → Int32} (hf : ∀ v, v < 1000 → R v = f v) (h : post (nI (sr_st f 1000))) :
    wpY_stretchesOfResult post (tl, pt, lo, hi, T, K, R) := ⟨1001, y_sl hf h 1000 0 rfl⟩
/-! keeping a result -/
theorem x_kl {post : Int32 → SX → Prop} {s : Nat} {tl pl pd pa pb ia ib : Int32} {M T : Nat → Int32} (hs : s < 4) (hB : sr_B M)
    (h : post 1 (tl, pl, pd, pa, pb, ia, ib, sr_fill M (s * 1000) (fun v => M (4000 + v)) 1000, T)) :
    ∀ d i : Nat, i + d = 1000 → wX_keepResult_14 post (nI s) tl pl pd pa pb ia ib (d + 1) (nI i) (sr_fill M (s * 1000) (fun v => M (4000 + v)) i) T := by
  intro d
  induction d with
  | zero =>
    intro i hi
    obtain rfl : i = 1000 := by omega
    exact br_t sr_1000e h
  | succ d IH =>
    intro i hi
    have ck : (nI s * 1000 + nI i).toNatClampNeg = s * 1000 + i := pk_cl _ (sr_ixX s i)
    have ck2 : (4000 + nI i).toNatClampNeg = 4000 + i := pk_cl _ (sr_ixR i)
    refine br_f (sr_1000 (by omega)) ⟨pk_in (4000 + i) 5000 (by omega) (sr_ixR i), pk_in (s * 1000 + i) 5000 (by omega) (sr_ixX s i), nm_r ?_ (nm_r (nI_1 i) (IH (i + 1) (by omega)))⟩
    rw [ck, ck2, sr_fill_out (j := 4000 + i) (by omega), sr_vb (hB _)]
    exact sr_fill_s M (s * 1000) (fun v => M (4000 + v)) i
theorem x_keep {post : Int32 → SX → Prop} {s : Nat} {tl pl pd pa pb ia ib : Int32} {M T f : Nat → Int32} (hs : s < 4) (hB : sr_B M) (hf : ∀ v, v < 1000 → M (4000 + v) = f v)
    (h1 : sr_st f 1000 ≤ 24 → post 1 (tl, pl, pd, pa, pb, ia, ib, sr_fill M (s * 1000) (fun v => M (4000 + v)) 1000, T))
    (h0 : ¬ sr_st f 1000 ≤ 24 → post 0 (tl, pl, pd, pa, pb, ia, ib, M, T)) : wpX_keepResult post (tl, pl, pd, pa, pb, ia, ib, M, T) (nI s) := by
  have b := sr_st_le f 1000
  refine x_st (s := 4) (f := f) (by omega) hf ?_
  by_cases z : sr_st f 1000 ≤ 24
  · refine br_t (nI_le (b := 24) z (by decide)) ⟨1001, ?_⟩
    have q := x_kl hs hB (h1 z) 1000 0 rfl
    rw [sr_fill_0] at q
    exact q
  · exact br_f (nI_ge (a := 24) (by omega) (by omega)) (h0 z)
theorem y_kl {post : SY → Prop} {s : Nat} {tl pt lo hi : Int32} {K T R : Nat → Int32} (hs : s < 4) (hB : sr_B R)
    (h : post (tl, pt, lo, hi, T, sr_fill K (s * 1000) R 1000, R)) :
    ∀ d i : Nat, i + d = 1000 → wY_keep_2 post (nI s) tl pt lo hi (d + 1) (nI i) T (sr_fill K (s * 1000) R i) R := by
  intro d
  induction d with
  | zero =>
    intro i hi
    obtain rfl : i = 1000 := by omega
    exact br_t sr_1000e h
  | succ d IH =>
    intro i hi
    have ck : (1000 * nI s + nI i).toNatClampNeg = s * 1000 + i := pk_cl _ (sr_ixY s i)
    have ck2 : (nI i).toNatClampNeg = i := pk_cl i
    refine br_f (sr_1000 (by omega)) ⟨pk_in i 1000 (by omega), pk_in (s * 1000 + i) 4000 (by omega) (sr_ixY s i), nm_r ?_ (nm_r (nI_1 i) (IH (i + 1) (by omega)))⟩
    rw [ck, ck2, sr_vb (hB _)]
    exact sr_fill_s K (s * 1000) R i
theorem y_keep {post : SY → Prop} {s : Nat} {tl pt lo hi : Int32} {K T R : Nat → Int32} (hs : s < 4) (hB : sr_B R)
    (h : post (tl, pt, lo, hi, T, sr_fill K (s * 1000) R 1000, R)) : wpY_keep post (tl, pt, lo, hi, T, K, R) (nI s) := by
  refine ⟨1001, ?_⟩
  have q := y_kl hs hB h 1000 0 rfl
  rw [sr_fill_0] at q
  exact q
theorem y_kif {post : Int32 → SY → Prop} {s : Nat} {tl pt lo hi : Int32} {K T R f : Nat → Int32} (hs : s < 4) (hB : sr_B R) (hf : ∀ v, v < 1000 → R v = f v)
    (h1 : sr_st f 1000 ≤ 24 → post 1 (tl, pt, lo, hi, T, sr_fill K (s * 1000) R 1000, R))
    (h0 : ¬ sr_st f 1000 ≤ 24 → post 0 (tl, pt, lo, hi, T, K, R)) : wpY_keepIfFew post (tl, pt, lo, hi, T, K, R) (nI s) := by
  have b := sr_st_le f 1000
  refine y_st (f := f) hf ?_
  by_cases z : sr_st f 1000 ≤ 24
  · exact br_t (nI_le (b := 24) z (by decide)) (y_keep hs hB (h1 z))
  · exact br_f (nI_ge (a := 24) (by omega) (by omega)) (h0 z)
/-! clearing -/
theorem x_cl {post : SX → Prop} {tl pl pd pa pb ia ib : Int32} {M T : Nat → Int32} (h : post (tl, pl, pd, pa, pb, ia, ib, sr_fill M 4000 (fun _ => 0) 1000, T)) :
    ∀ d i : Nat, i + d = 1000 → wX_clearResult_2 post tl pl pd pa pb ia ib (d + 1) (nI i) (sr_fill M 4000 (fun _ => 0) i) T := by
  intro d
  induction d with
  | zero =>
    intro i hi
    obtain rfl : i = 1000 := by omega
    exact br_t sr_1000e h
  | succ d IH =>
    intro i hi
    have ck2 : (4000 + nI i).toNatClampNeg = 4000 + i := pk_cl _ (sr_ixR i)
    refine br_f (sr_1000 (by omega)) ⟨pk_in (4000 + i) 5000 (by omega) (sr_ixR i), nm_r ?_ (nm_r (nI_1 i) (IH (i + 1) (by omega)))⟩
    rw [ck2, sr_vb (Or.inl rfl)]
    exact sr_fill_s M 4000 (fun _ => 0) i
theorem x_clear {post : SX → Prop} {tl pl pd pa pb ia ib : Int32} {M T : Nat → Int32} (h : post (tl, pl, pd, pa, pb, ia, ib, sr_fill M 4000 (fun _ => 0) 1000, T)) :
    wpX_clearResult post (tl, pl, pd, pa, pb, ia, ib, M, T) := by
  refine ⟨1001, ?_⟩
  have q := x_cl h 1000 0 rfl
  rw [sr_fill_0] at q
  exact q
theorem sr_fill_z (f g : Nat → Int32) (i : Nat) : upd (sr_fill f 0 g i) i (g i) = sr_fill f 0 g (i + 1) := by
  have q := sr_fill_s f 0 g i
  rw [Nat.zero_add] at q
  exact q
/-! adding an interval -/
theorem x_al {post : SX → Prop} {tl pl pd pa pb ia ib : Int32} {M T : Nat → Int32} {a b : Nat} (ha : a ≤ 1000) (hb : b ≤ 1000) (h : post (tl, pl, pd, pa, pb, ia, ib, sr_ad M (4000 + a) (4000 + b), T)) :
    ∀ d i : Nat, i + d = 1000 → ∀ N : Nat → Int32, (∀ j, N j = if 4000 + a ≤ j ∧ j < 4000 + b ∧ j < 4000 + i then 1 else M j) → wX_addToResult_2 post (nI a) (nI b - 1) tl pl pd pa pb ia ib (d + 1) (nI i) N T := by
  intro d
  induction d with
  | zero =>
    intro i hi N hN
    obtain rfl : i = 1000 := by omega
    have e : N = sr_ad M (4000 + a) (4000 + b) := by
      funext j
      rw [hN j]
      by_cases z : 4000 + a ≤ j ∧ j < 4000 + b
      · rw [if_pos (by omega), sr_ad_in z]
      · rw [if_neg (by omega), sr_ad_out z]
    rw [e]
    exact br_t sr_1000e h
  | succ d IH =>
    intro i hi N hN
    have ck2 : (4000 + nI i).toNatClampNeg = 4000 + i := pk_cl _ (sr_ixR i)
    refine br_f (sr_1000 (by omega)) ?_
    by_cases z : i < a
    · refine br_t (nI_lt z (by omega)) (nm_r (nI_1 i) (IH (i + 1) (by omega) N (fun j => ?_)))
      rw [hN j]
      by_cases w : 4000 + a ≤ j ∧ j < 4000 + b ∧ j < 4000 + i
      · rw [if_pos w, if_pos (by omega)]
      · rw [if_neg w, if_neg (by omega)]
    · refine br_f (nI_nlt (by omega) (by omega)) ?_
      by_cases y : b ≤ i
      · refine br_t ((sr_v_lt (by omega) hb).mpr y) (nm_r (nI_1 i) (IH (i + 1) (by omega) N (fun j => ?_)))
        rw [hN j]
        by_cases w : 4000 + a ≤ j ∧ j < 4000 + b ∧ j < 4000 + i
        · rw [if_pos w, if_pos (by omega)]
        · rw [if_neg w, if_neg (by omega)]
      · refine br_f (fun q => y ((sr_v_lt (by omega) hb).mp q)) ⟨pk_in (4000 + i) 5000 (by omega) (sr_ixR i), nm_r (e' := upd N (4000 + i) 1) (by rw [ck2, sr_vb (Or.inr rfl)]) (nm_r (nI_1 i) (IH (i + 1) (by omega) _ (fun j => ?_)))⟩
        by_cases w : j = 4000 + i
        · rw [w, pk_us, if_pos (by omega)]
        · rw [pk_un w, hN j]
          by_cases w2 : 4000 + a ≤ j ∧ j < 4000 + b ∧ j < 4000 + i
          · rw [if_pos w2, if_pos (by omega)]
          · rw [if_neg w2, if_neg (by omega)]
theorem x_add {post : SX → Prop} {tl pl pd pa pb ia ib : Int32} {M T : Nat → Int32} {a b : Nat} (ha : a ≤ 1000) (hb : b ≤ 1000) (h : post (tl, pl, pd, pa, pb, ia, ib, sr_ad M (4000 + a) (4000 + b), T)) :
    wpX_addToResult post (tl, pl, pd, pa, pb, ia, ib, M, T) (nI a) (nI b - 1) :=
  ⟨1001, x_al ha hb h 1000 0 rfl M (fun j => (if_neg (by omega)).symm)⟩
theorem y_al {post : Int32 → SY → Prop} {J : Int32 → Int32 → Int32 → Int32 → Int32 → Int32 → Int32 → Int32 → (Nat → Int32) → (Nat → Int32) → (Nat → Int32) → Prop} {x4 tl pt lo hi : Int32} {K T R : Nat → Int32} {a b : Nat} (hb : b ≤ 1000)
    (h : wY_parse_164 post J 0 999 x4 tl pt lo hi T K (sr_ad R a b)) :
    ∀ d i : Nat, i + d = b → a ≤ i → wY_parse_138 post J (nI b - 1) x4 tl pt lo hi (d + 1) (nI i) T K (sr_ad R a i) := by
  intro d
  induction d with
  | zero =>
    intro i hi hai
    obtain rfl : i = b := by omega
    exact br_t ((sr_v_lt (by omega) hb).mpr (Nat.le_refl _)) h
  | succ d IH =>
    intro i hi hai
    have ck : (nI i).toNatClampNeg = i := pk_cl i
    refine br_f (fun q => absurd ((sr_v_lt (by omega) hb).mp q) (by omega)) ⟨pk_in i 1000 (by omega), nm_r ?_ (nm_r (nI_1 i) (IH (i + 1) (by omega) (by omega)))⟩
    rw [ck, sr_vb (Or.inr rfl)]
    funext j
    by_cases w : j = i
    · rw [w, pk_us, sr_ad_in (by omega)]
    · rw [pk_un w]
      by_cases w2 : a ≤ j ∧ j < i
      · rw [sr_ad_in w2, sr_ad_in (by omega)]
      · rw [sr_ad_out w2, sr_ad_out (by omega)]
theorem sr_ad_e {R : Nat → Int32} {a b : Nat} (h : b ≤ a) : sr_ad R a b = R := by
  funext j
  exact sr_ad_out (by omega)
theorem y_add {post : Int32 → SY → Prop} {J : Int32 → Int32 → Int32 → Int32 → Int32 → Int32 → Int32 → Int32 → (Nat → Int32) → (Nat → Int32) → (Nat → Int32) → Prop} {x4 tl pt lo hi : Int32} {K T R : Nat → Int32} {a b : Nat} (ha : a ≤ 1000) (hb : b ≤ 1000)
    (h : wY_parse_164 post J 0 999 x4 tl pt lo hi T K (sr_ad R a b)) : ∃ n : Nat, wY_parse_138 post J (nI b - 1) x4 tl pt lo hi n (nI a) T K R := by
  by_cases z : b ≤ a
  · rw [sr_ad_e z] at h
    exact ⟨1, br_t ((sr_v_lt (by omega) hb).mpr z) h⟩
  · refine ⟨b - a + 1, ?_⟩
    have q := y_al hb h (b - a) a (by omega) (Nat.le_refl _)
    rw [sr_ad_e (Nat.le_refl a)] at q
    exact q
