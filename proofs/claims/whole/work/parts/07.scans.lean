/-! atLeast, atMost, within -/
def sr_al (f : Nat → Int32) : Nat → Nat → Int32
  | _, 0 => -3
  | i, d + 1 => if f i = 0 then sr_al f (i + 1) d else nI i
theorem sr_al_t {f : Nat → Int32} {i d : Nat} (h : f i = 0) : sr_al f i (d + 1) = sr_al f (i + 1) d := if_pos h
theorem sr_al_f {f : Nat → Int32} {i d : Nat} (h : ¬ f i = 0) : sr_al f i (d + 1) = nI i := if_neg h
theorem x_atl {post : Int32 → Prop} {s : Nat} {tl pl pd pa pb ia ib : Int32} {M T f : Nat → Int32} (hs : s < 4) (hf : ∀ v, v < 1000 → M (s * 1000 + v) = f v) :
    ∀ d i : Nat, i + d = 1000 → post (sr_al f i d) → wX_atLeast_22 post (nI s) tl pl pd pa pb ia ib M T (d + 1) (nI i) := by
  intro d
  induction d with
  | zero =>
    intro i hi h
    obtain rfl : i = 1000 := by omega
    exact br_t sr_1000e h
  | succ d IH =>
    intro i hi h
    have ck : (nI s * 1000 + nI i).toNatClampNeg = s * 1000 + i := pk_cl _ (sr_ixX s i)
    refine br_f (sr_1000 (by omega)) ⟨pk_in (s * 1000 + i) 5000 (by omega) (sr_ixX s i), ?_⟩
    rw [ck, hf i (by omega)]
    by_cases z : f i = 0
    · rw [sr_al_t z] at h
      exact br_t z (nm_r (nI_1 i) (IH (i + 1) (by omega) h))
    · rw [sr_al_f z] at h
      exact br_f z h
theorem y_atl {post : Int32 → Prop} {s : Nat} {tl pt lo hi x : Int32} {K T R f : Nat → Int32} (hs : s < 4) (hf : ∀ v, v < 1000 → K (s * 1000 + v) = f v) :
    ∀ d i : Nat, i + d = 1000 → (∀ v, i ≤ v → v < 1000 → ¬ nI v < x) → post (sr_al f i d) → wY_atLeast_12 post (nI s) x tl pt lo hi T K R (d + 1) (nI i) := by
  intro d
  induction d with
  | zero =>
    intro i hi hx h
    obtain rfl : i = 1000 := by omega
    exact br_t sr_1000e h
  | succ d IH =>
    intro i hi hx h
    have ck : (1000 * nI s + nI i).toNatClampNeg = s * 1000 + i := pk_cl _ (sr_ixY s i)
    refine br_f (sr_1000 (by omega)) ⟨pk_in (s * 1000 + i) 4000 (by omega) (sr_ixY s i), ?_⟩
    rw [ck, hf i (by omega)]
    by_cases z : f i = 0
    · rw [sr_al_t z] at h
      exact br_t z (nm_r (nI_1 i) (IH (i + 1) (by omega) (fun v h1 h2 => hx v (by omega) h2) h))
    · rw [sr_al_f z] at h
      exact br_f z (br_f (hx i (Nat.le_refl _) (by omega)) h)
theorem y_atl_s {post : Int32 → Prop} {s : Nat} {tl pt lo hi x : Int32} {K T R : Nat → Int32} {n j : Nat} (hs : s < 4) (hj : j ≤ 1000) (hx : ∀ v, v < j → nI v < x)
    (h : wY_atLeast_12 post (nI s) x tl pt lo hi T K R n (nI j)) :
    ∀ e i : Nat, i + e = j → wY_atLeast_12 post (nI s) x tl pt lo hi T K R (n + e) (nI i) := by
  intro e
  induction e with
  | zero =>
    intro i hi
    obtain rfl : i = j := by omega
    exact h
  | succ e IH =>
    intro i hi
    have IH' := IH (i + 1) (by omega)
    exact br_f (sr_1000 (by omega)) ⟨pk_in (s * 1000 + i) 4000 (by omega) (sr_ixY s i), br_c (fun _ => nm_r (nI_1 i) IH') (fun _ => br_t (hx i (by omega)) (nm_r (nI_1 i) IH'))⟩
def sr_am (f : Nat → Int32) : Nat → Int32
  | 0 => -3
  | i + 1 => if f i = 0 then sr_am f i else nI i
theorem sr_am_t {f : Nat → Int32} {i : Nat} (h : f i = 0) : sr_am f (i + 1) = sr_am f i := if_pos h
theorem sr_am_f {f : Nat → Int32} {i : Nat} (h : ¬ f i = 0) : sr_am f (i + 1) = nI i := if_neg h
theorem sr_dn (i : Nat) : nI i + (-1) = nI i - 1 := (Int32.sub_eq_add_neg _ _).symm
theorem x_atm {post : Int32 → Prop} {s : Nat} {tl pl pd pa pb ia ib : Int32} {M T f : Nat → Int32} (hs : s < 4) (hf : ∀ v, v < 1000 → M (s * 1000 + v) = f v) :
    ∀ i : Nat, i ≤ 1000 → post (sr_am f i) → wX_atMost_27 post (nI s) tl pl pd pa pb ia ib M T (i + 1) (nI i - 1) := by
  intro i
  induction i with
  | zero =>
    intro hi h
    exact br_t (by decide) h
  | succ i IH =>
    intro hi h
    rw [nI_pred]
    have ck : (nI s * 1000 + nI i).toNatClampNeg = s * 1000 + i := pk_cl _ (sr_ixX s i)
    refine br_f (nI_pos (by omega)) ⟨pk_in (s * 1000 + i) 5000 (by omega) (sr_ixX s i), ?_⟩
    rw [ck, hf i (by omega)]
    by_cases z : f i = 0
    · rw [sr_am_t z] at h
      exact br_t z (nm_r (sr_dn i) (IH (by omega) h))
    · rw [sr_am_f z] at h
      exact br_f z h
theorem y_atm {post : Int32 → Prop} {s : Nat} {tl pt lo hi x : Int32} {K T R f : Nat → Int32} (hs : s < 4) (hf : ∀ v, v < 1000 → K (s * 1000 + v) = f v) :
    ∀ i : Nat, i ≤ 1000 → (∀ v, v < i → ¬ x < nI v) → post (sr_am f i) → wY_atMost_14 post (nI s) x tl pt lo hi T K R (i + 1) (nI i - 1) := by
  intro i
  induction i with
  | zero =>
    intro hi hx h
    exact br_t (by decide) h
  | succ i IH =>
    intro hi hx h
    rw [nI_pred]
    have ck : (1000 * nI s + nI i).toNatClampNeg = s * 1000 + i := pk_cl _ (sr_ixY s i)
    refine br_f (nI_pos (by omega)) ⟨pk_in (s * 1000 + i) 4000 (by omega) (sr_ixY s i), ?_⟩
    rw [ck, hf i (by omega)]
    by_cases z : f i = 0
    · rw [sr_am_t z] at h
      exact br_t z (nm_r (sr_dn i) (IH (by omega) (fun v hv => hx v (by omega)) h))
    · rw [sr_am_f z] at h
      exact br_f z (br_f (hx i (by omega)) h)
theorem y_atm_s {post : Int32 → Prop} {s : Nat} {tl pt lo hi x : Int32} {K T R : Nat → Int32} {n j : Nat} (hs : s < 4) (hx : ∀ v, j ≤ v → v < 1000 → x < nI v)
    (h : wY_atMost_14 post (nI s) x tl pt lo hi T K R n (nI j - 1)) :
    ∀ e : Nat, j + e ≤ 1000 → wY_atMost_14 post (nI s) x tl pt lo hi T K R (n + e) (nI (j + e) - 1) := by
  intro e
  induction e with
  | zero => exact fun _ => h
  | succ e IH =>
    intro hi
    have IH' := IH (by omega)
    rw [show nI (j + (e + 1)) - 1 = nI (j + e) from nI_pred (j + e)]
    exact br_f (nI_pos (by omega)) ⟨pk_in (s * 1000 + (j + e)) 4000 (by omega) (sr_ixY s (j + e)), br_c (fun _ => nm_r (sr_dn _) IH') (fun _ => br_t (hx (j + e) (by omega) (by omega)) (nm_r (sr_dn _) IH'))⟩
def sr_wi (f g : Nat → Int32) : Nat → Nat → Int32
  | _, 0 => 1
  | i, d + 1 => if f i = 0 then sr_wi f g (i + 1) d else if g i = 0 then 0 else sr_wi f g (i + 1) d
theorem sr_wi_0 {f g : Nat → Int32} {i d : Nat} (h : f i = 0) : sr_wi f g i (d + 1) = sr_wi f g (i + 1) d := if_pos h
theorem sr_wi_1 {f g : Nat → Int32} {i d : Nat} (h : ¬ f i = 0) (h' : g i = 0) : sr_wi f g i (d + 1) = 0 := (if_neg h).trans (if_pos h')
theorem sr_wi_2 {f g : Nat → Int32} {i d : Nat} (h : ¬ f i = 0) (h' : ¬ g i = 0) : sr_wi f g i (d + 1) = sr_wi f g (i + 1) d := (if_neg h).trans (if_neg h')
theorem x_wi {post : Int32 → Prop} {a b : Nat} {tl pl pd pa pb ia ib : Int32} {M T f g : Nat → Int32} (ha : a < 4) (hb : b < 4) (hf : ∀ v, v < 1000 → M (a * 1000 + v) = f v) (hg : ∀ v, v < 1000 → M (b * 1000 + v) = g v) :
    ∀ d i : Nat, i + d = 1000 → post (sr_wi f g i d) → wX_within_18 post (nI a) (nI b) tl pl pd pa pb ia ib M T (d + 1) (nI i) := by
  intro d
  induction d with
  | zero =>
    intro i hi h
    obtain rfl : i = 1000 := by omega
    exact br_t sr_1000e h
  | succ d IH =>
    intro i hi h
    have cka : (nI a * 1000 + nI i).toNatClampNeg = a * 1000 + i := pk_cl _ (sr_ixX a i)
    have ckb : (nI b * 1000 + nI i).toNatClampNeg = b * 1000 + i := pk_cl _ (sr_ixX b i)
    refine br_f (sr_1000 (by omega)) ⟨pk_in (a * 1000 + i) 5000 (by omega) (sr_ixX a i), ?_⟩
    rw [cka, ckb, hf i (by omega), hg i (by omega)]
    by_cases z : f i = 0
    · rw [sr_wi_0 z] at h
      exact br_t z (nm_r (nI_1 i) (IH (i + 1) (by omega) h))
    · refine br_f z ⟨pk_in (b * 1000 + i) 5000 (by omega) (sr_ixX b i), ?_⟩
      by_cases y : g i = 0
      · rw [sr_wi_1 z y] at h
        exact br_t y h
      · rw [sr_wi_2 z y] at h
        exact br_f y (nm_r (nI_1 i) (IH (i + 1) (by omega) h))
theorem y_wi {post : Int32 → Prop} {a b : Nat} {tl pt lo hi : Int32} {K T R f g : Nat → Int32} (ha : a < 4) (hb : b < 4) (hf : ∀ v, v < 1000 → K (a * 1000 + v) = f v) (hg : ∀ v, v < 1000 → K (b * 1000 + v) = g v) :
    ∀ d i : Nat, i + d = 1000 → post (sr_wi f g i d) → wY_within_20 post (nI a) (nI b) tl pt lo hi T K R (d + 1) (nI i) := by
  intro d
  induction d with
  | zero =>
    intro i hi h
    obtain rfl : i = 1000 := by omega
    exact br_t sr_1000e h
  | succ d IH =>
    intro i hi h
    have cka : (1000 * nI a + nI i).toNatClampNeg = a * 1000 + i := pk_cl _ (sr_ixY a i)
    have ckb : (1000 * nI b + nI i).toNatClampNeg = b * 1000 + i := pk_cl _ (sr_ixY b i)
    refine br_f (sr_1000 (by omega)) ⟨pk_in (a * 1000 + i) 4000 (by omega) (sr_ixY a i), ?_⟩
    rw [cka, ckb, hf i (by omega), hg i (by omega)]
    by_cases z : f i = 0
    · rw [sr_wi_0 z] at h
      exact br_t z (nm_r (nI_1 i) (IH (i + 1) (by omega) h))
    · refine br_f z ⟨pk_in (b * 1000 + i) 4000 (by omega) (sr_ixY b i), ?_⟩
      by_cases y : g i = 0
      · rw [sr_wi_1 z y] at h
        exact br_t y h
      · rw [sr_wi_2 z y] at h
        exact br_f y (nm_r (nI_1 i) (IH (i + 1) (by omega) h))
/-! the reference's stretches copies the range into its result first -/
theorem y_sc {post : Int32 → SY → Prop} {s : Nat} {tl pt lo hi : Int32} {K T R f : Nat → Int32} (hs : s < 4) (hB : sr_B f) (hf : ∀ v, v < 1000 → K (s * 1000 + v) = f v)
    (h : post (nI (sr_st f 1000)) (tl, pt, lo, hi, T, K, sr_fill R 0 f 1000)) :
    ∀ d i : Nat, i + d = 1000 → wY_stretches_12 post (nI s) tl pt lo hi (d + 1) (nI i) T K (sr_fill R 0 f i) := by
  intro d
  induction d with
  | zero =>
    intro i hi
    obtain rfl : i = 1000 := by omega
    refine br_t sr_1000e (y_st (f := f) (fun v hv => ?_) h)
    have q := sr_fill_in (f := R) (b := 0) (g := f) hv
    rw [Nat.zero_add] at q
    exact q
  | succ d IH =>
    intro i hi
    have ck : (1000 * nI s + nI i).toNatClampNeg = s * 1000 + i := pk_cl _ (sr_ixY s i)
    have ck2 : (nI i).toNatClampNeg = i := pk_cl i
    refine br_f (sr_1000 (by omega)) ⟨pk_in (s * 1000 + i) 4000 (by omega) (sr_ixY s i), pk_in i 1000 (by omega), nm_r ?_ (nm_r (nI_1 i) (IH (i + 1) (by omega)))⟩
    rw [ck, ck2, hf i (by omega), sr_vb (hB i)]
    exact sr_fill_z R f i
