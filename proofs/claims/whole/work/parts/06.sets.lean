/-! meet, join, invert: the result's cells; the scans of atLeast, atMost, within -/
def sr_and (f g : Nat → Int32) : Nat → Int32 := fun v => if f v = 0 then 0 else if g v = 0 then 0 else 1
def sr_or (f g : Nat → Int32) : Nat → Int32 := fun v => if f v = 0 then (if g v = 0 then 0 else 1) else 1
def sr_not (f : Nat → Int32) : Nat → Int32 := fun v => if f v = 0 then 1 else 0
theorem sr_and_B (f g : Nat → Int32) : sr_B (sr_and f g) := by
  intro v
  unfold sr_and
  split
  · exact Or.inl rfl
  · split
    · exact Or.inl rfl
    · exact Or.inr rfl
theorem sr_or_B (f g : Nat → Int32) : sr_B (sr_or f g) := by
  intro v
  unfold sr_or
  split
  · split
    · exact Or.inl rfl
    · exact Or.inr rfl
  · exact Or.inr rfl
theorem sr_not_B (f : Nat → Int32) : sr_B (sr_not f) := by
  intro v
  unfold sr_not
  split
  · exact Or.inr rfl
  · exact Or.inl rfl
/-- what X's members are after a result g was kept as range s -/
def sr_new (M : Nat → Int32) (s : Nat) (g : Nat → Int32) : Nat → Int32 := sr_fill (sr_fill M 4000 g 1000) (s * 1000) (fun v => sr_fill M 4000 g 1000 (4000 + v)) 1000
theorem x_end {post : Int32 → SX → Prop} {s : Nat} {tl pl pd pa pb ia ib : Int32} {M T g : Nat → Int32} (hs : s < 4) (hB : sr_B M) (hg : sr_B g)
    (h1 : sr_st g 1000 ≤ 24 → post 1 (tl, pl, pd, pa, pb, ia, ib, sr_new M s g, T))
    (h0 : ¬ sr_st g 1000 ≤ 24 → post 0 (tl, pl, pd, pa, pb, ia, ib, sr_fill M 4000 g 1000, T)) : wpX_keepResult post (tl, pl, pd, pa, pb, ia, ib, sr_fill M 4000 g 1000, T) (nI s) :=
  x_keep hs (sr_fill_B hB (fun v _ => hg v)) (fun _ hv => sr_fill_in hv) h1 h0
theorem x_ml {post : Int32 → SX → Prop} {s a b : Nat} {tl pl pd pa pb ia ib : Int32} {M T f g : Nat → Int32} (hs : s < 4) (ha : a < 4) (hb : b < 4) (hB : sr_B M)
    (hf : ∀ v, v < 1000 → M (a * 1000 + v) = f v) (hg : ∀ v, v < 1000 → M (b * 1000 + v) = g v)
    (h1 : sr_st (sr_and f g) 1000 ≤ 24 → post 1 (tl, pl, pd, pa, pb, ia, ib, sr_new M s (sr_and f g), T))
    (h0 : ¬ sr_st (sr_and f g) 1000 ≤ 24 → post 0 (tl, pl, pd, pa, pb, ia, ib, sr_fill M 4000 (sr_and f g) 1000, T)) :
    ∀ d i : Nat, i + d = 1000 → wX_meet_26 post (nI s) (nI a) (nI b) tl pl pd pa pb ia ib (d + 1) (nI i) (sr_fill M 4000 (sr_and f g) i) T := by
  intro d
  induction d with
  | zero =>
    intro i hi
    obtain rfl : i = 1000 := by omega
    exact br_t sr_1000e (x_end hs hB (sr_and_B f g) (fun z => ⟨rfl, h1 z⟩) (fun z => ⟨rfl, h0 z⟩))
  | succ d IH =>
    intro i hi
    have cka : (nI a * 1000 + nI i).toNatClampNeg = a * 1000 + i := pk_cl _ (sr_ixX a i)
    have ckb : (nI b * 1000 + nI i).toNatClampNeg = b * 1000 + i := pk_cl _ (sr_ixX b i)
    have ck2 : (4000 + nI i).toNatClampNeg = 4000 + i := pk_cl _ (sr_ixR i)
    have hR : vp_in (4000 + nI i) 5000 := pk_in (4000 + i) 5000 (by omega) (sr_ixR i)
    have st := sr_fill_s M 4000 (sr_and f g) i
    have IH' := IH (i + 1) (by omega)
    refine br_f (sr_1000 (by omega)) ⟨pk_in (a * 1000 + i) 5000 (by omega) (sr_ixX a i), ?_⟩
    rw [cka, ckb, ck2, sr_fill_out (j := a * 1000 + i) (by omega), sr_fill_out (j := b * 1000 + i) (by omega), hf i (by omega), hg i (by omega)]
    by_cases z : f i = 0
    · have e : sr_and f g i = 0 := if_pos z
      rw [e] at st
      exact br_t z ⟨hR, nm_r (by rw [sr_vb (Or.inl rfl)]; exact st) (nm_r (nI_1 i) IH')⟩
    · refine br_f z ⟨pk_in (b * 1000 + i) 5000 (by omega) (sr_ixX b i), ?_⟩
      by_cases y : g i = 0
      · have e : sr_and f g i = 0 := (if_neg z).trans (if_pos y)
        rw [e] at st
        exact br_t y ⟨hR, nm_r (by rw [sr_vb (Or.inl rfl)]; exact st) (nm_r (nI_1 i) IH')⟩
      · have e : sr_and f g i = 1 := (if_neg z).trans (if_neg y)
        rw [e] at st
        exact br_f y ⟨hR, nm_r (by rw [sr_vb (Or.inr rfl)]; exact st) (nm_r (nI_1 i) IH')⟩
theorem x_jl {post : Int32 → SX → Prop} {s a b : Nat} {tl pl pd pa pb ia ib : Int32} {M T f g : Nat → Int32} (hs : s < 4) (ha : a < 4) (hb : b < 4) (hB : sr_B M)
    (hf : ∀ v, v < 1000 → M (a * 1000 + v) = f v) (hg : ∀ v, v < 1000 → M (b * 1000 + v) = g v)
    (h1 : sr_st (sr_or f g) 1000 ≤ 24 → post 1 (tl, pl, pd, pa, pb, ia, ib, sr_new M s (sr_or f g), T))
    (h0 : ¬ sr_st (sr_or f g) 1000 ≤ 24 → post 0 (tl, pl, pd, pa, pb, ia, ib, sr_fill M 4000 (sr_or f g) 1000, T)) :
    ∀ d i : Nat, i + d = 1000 → wX_join_26 post (nI s) (nI a) (nI b) tl pl pd pa pb ia ib (d + 1) (nI i) (sr_fill M 4000 (sr_or f g) i) T := by
  intro d
  induction d with
  | zero =>
    intro i hi
    obtain rfl : i = 1000 := by omega
    exact br_t sr_1000e (x_end hs hB (sr_or_B f g) (fun z => ⟨rfl, h1 z⟩) (fun z => ⟨rfl, h0 z⟩))
  | succ d IH =>
    intro i hi
    have cka : (nI a * 1000 + nI i).toNatClampNeg = a * 1000 + i := pk_cl _ (sr_ixX a i)
    have ckb : (nI b * 1000 + nI i).toNatClampNeg = b * 1000 + i := pk_cl _ (sr_ixX b i)
    have ck2 : (4000 + nI i).toNatClampNeg = 4000 + i := pk_cl _ (sr_ixR i)
    have hR : vp_in (4000 + nI i) 5000 := pk_in (4000 + i) 5000 (by omega) (sr_ixR i)
    have st := sr_fill_s M 4000 (sr_or f g) i
    have IH' := IH (i + 1) (by omega)
    refine br_f (sr_1000 (by omega)) ⟨pk_in (a * 1000 + i) 5000 (by omega) (sr_ixX a i), ?_⟩
    rw [cka, ckb, ck2, sr_fill_out (j := a * 1000 + i) (by omega), sr_fill_out (j := b * 1000 + i) (by omega), hf i (by omega), hg i (by omega)]
    by_cases z : f i = 0
    · refine br_t z ⟨pk_in (b * 1000 + i) 5000 (by omega) (sr_ixX b i), ?_⟩
      by_cases y : g i = 0
      · have e : sr_or f g i = 0 := (if_pos z).trans (if_pos y)
        rw [e] at st
        exact br_t y ⟨hR, nm_r (by rw [sr_vb (Or.inl rfl)]; exact st) (nm_r (nI_1 i) IH')⟩
      · have e : sr_or f g i = 1 := (if_pos z).trans (if_neg y)
        rw [e] at st
        exact br_f y ⟨hR, nm_r (by rw [sr_vb (Or.inr rfl)]; exact st) (nm_r (nI_1 i) IH')⟩
    · have e : sr_or f g i = 1 := if_neg z
      rw [e] at st
      exact br_f z ⟨hR, nm_r (by rw [sr_vb (Or.inr rfl)]; exact st) (nm_r (nI_1 i) IH')⟩
theorem x_il {post : Int32 → SX → Prop} {s a : Nat} {tl pl pd pa pb ia ib : Int32} {M T f : Nat → Int32} (hs : s < 4) (ha : a < 4) (hB : sr_B M)
    (hf : ∀ v, v < 1000 → M (a * 1000 + v) = f v)
    (h1 : sr_st (sr_not f) 1000 ≤ 24 → post 1 (tl, pl, pd, pa, pb, ia, ib, sr_new M s (sr_not f), T))
    (h0 : ¬ sr_st (sr_not f) 1000 ≤ 24 → post 0 (tl, pl, pd, pa, pb, ia, ib, sr_fill M 4000 (sr_not f) 1000, T)) :
    ∀ d i : Nat, i + d = 1000 → wX_invert_18 post (nI s) (nI a) tl pl pd pa pb ia ib (d + 1) (nI i) (sr_fill M 4000 (sr_not f) i) T := by
  intro d
  induction d with
  | zero =>
    intro i hi
    obtain rfl : i = 1000 := by omega
    exact br_t sr_1000e (x_end hs hB (sr_not_B f) (fun z => ⟨rfl, h1 z⟩) (fun z => ⟨rfl, h0 z⟩))
  | succ d IH =>
    intro i hi
    have cka : (nI a * 1000 + nI i).toNatClampNeg = a * 1000 + i := pk_cl _ (sr_ixX a i)
    have ck2 : (4000 + nI i).toNatClampNeg = 4000 + i := pk_cl _ (sr_ixR i)
    have hR : vp_in (4000 + nI i) 5000 := pk_in (4000 + i) 5000 (by omega) (sr_ixR i)
    have st := sr_fill_s M 4000 (sr_not f) i
    have IH' := IH (i + 1) (by omega)
    refine br_f (sr_1000 (by omega)) ⟨pk_in (a * 1000 + i) 5000 (by omega) (sr_ixX a i), ?_⟩
    rw [cka, ck2, sr_fill_out (j := a * 1000 + i) (by omega), hf i (by omega)]
    by_cases z : f i = 0
    · have e : sr_not f i = 1 := if_pos z
      rw [e] at st
      exact br_t z ⟨hR, nm_r (by rw [sr_vb (Or.inr rfl)]; exact st) (nm_r (nI_1 i) IH')⟩
    · have e : sr_not f i = 0 := if_neg z
      rw [e] at st
      exact br_f z ⟨hR, nm_r (by rw [sr_vb (Or.inl rfl)]; exact st) (nm_r (nI_1 i) IH')⟩
/-! the reference's -/
theorem y_end {post : Int32 → SY → Prop} {s : Nat} {tl pt lo hi : Int32} {K T R g : Nat → Int32} (hs : s < 4) (hB : sr_B R) (hg : sr_B g)
    (h1 : sr_st g 1000 ≤ 24 → post 1 (tl, pt, lo, hi, T, sr_fill K (s * 1000) (sr_fill R 0 g 1000) 1000, sr_fill R 0 g 1000))
    (h0 : ¬ sr_st g 1000 ≤ 24 → post 0 (tl, pt, lo, hi, T, K, sr_fill R 0 g 1000)) : wpY_keepIfFew post (tl, pt, lo, hi, T, K, sr_fill R 0 g 1000) (nI s) :=
  y_kif hs (sr_fill_B hB (fun v _ => hg v)) (fun v hv => by have q := sr_fill_in (f := R) (b := 0) (g := g) hv; rw [Nat.zero_add] at q; exact q) h1 h0
theorem y_ml {post : Int32 → SY → Prop} {s a b : Nat} {tl pt lo hi : Int32} {K T R f g : Nat → Int32} (hs : s < 4) (ha : a < 4) (hb : b < 4) (hB : sr_B R)
    (hf : ∀ v, v < 1000 → K (a * 1000 + v) = f v) (hg : ∀ v, v < 1000 → K (b * 1000 + v) = g v)
    (h1 : sr_st (sr_and f g) 1000 ≤ 24 → post 1 (tl, pt, lo, hi, T, sr_fill K (s * 1000) (sr_fill R 0 (sr_and f g) 1000) 1000, sr_fill R 0 (sr_and f g) 1000))
    (h0 : ¬ sr_st (sr_and f g) 1000 ≤ 24 → post 0 (tl, pt, lo, hi, T, K, sr_fill R 0 (sr_and f g) 1000)) :
    ∀ d i : Nat, i + d = 1000 → wY_meet_29 post (nI s) (nI a) (nI b) tl pt lo hi (d + 1) (nI i) T K (sr_fill R 0 (sr_and f g) i) := by
  intro d
  induction d with
  | zero =>
    intro i hi
    obtain rfl : i = 1000 := by omega
    exact br_t sr_1000e (y_end hs hB (sr_and_B f g) (fun z => ⟨rfl, h1 z⟩) (fun z => ⟨rfl, h0 z⟩))
  | succ d IH =>
    intro i hi
    have cka : (1000 * nI a + nI i).toNatClampNeg = a * 1000 + i := pk_cl _ (sr_ixY a i)
    have ckb : (1000 * nI b + nI i).toNatClampNeg = b * 1000 + i := pk_cl _ (sr_ixY b i)
    have ck2 : (nI i).toNatClampNeg = i := pk_cl i
    have hR : vp_in (nI i) 1000 := pk_in i 1000 (by omega)
    have st := sr_fill_z R (sr_and f g) i
    have IH' := IH (i + 1) (by omega)
    refine br_f (sr_1000 (by omega)) ⟨pk_in (a * 1000 + i) 4000 (by omega) (sr_ixY a i), ?_⟩
    rw [cka, ckb, ck2, hf i (by omega), hg i (by omega)]
    by_cases z : f i = 0
    · have e : sr_and f g i = 0 := if_pos z
      rw [e] at st
      exact br_t z ⟨hR, nm_r (by rw [sr_vb (Or.inl rfl)]; exact st) (nm_r (nI_1 i) IH')⟩
    · refine br_f z ⟨pk_in (b * 1000 + i) 4000 (by omega) (sr_ixY b i), ?_⟩
      by_cases y : g i = 0
      · have e : sr_and f g i = 0 := (if_neg z).trans (if_pos y)
        rw [e] at st
        exact br_t y ⟨hR, nm_r (by rw [sr_vb (Or.inl rfl)]; exact st) (nm_r (nI_1 i) IH')⟩
      · have e : sr_and f g i = 1 := (if_neg z).trans (if_neg y)
        rw [e] at st
        exact br_f y ⟨hR, nm_r (by rw [sr_vb (Or.inr rfl)]; exact st) (nm_r (nI_1 i) IH')⟩
theorem y_jl {post : Int32 → SY → Prop} {s a b : Nat} {tl pt lo hi : Int32} {K T R f g : Nat → Int32} (hs : s < 4) (ha : a < 4) (hb : b < 4) (hB : sr_B R)
    (hf : ∀ v, v < 1000 → K (a * 1000 + v) = f v) (hg : ∀ v, v < 1000 → K (b * 1000 + v) = g v)
    (h1 : sr_st (sr_or f g) 1000 ≤ 24 → post 1 (tl, pt, lo, hi, T, sr_fill K (s * 1000) (sr_fill R 0 (sr_or f g) 1000) 1000, sr_fill R 0 (sr_or f g) 1000))
    (h0 : ¬ sr_st (sr_or f g) 1000 ≤ 24 → post 0 (tl, pt, lo, hi, T, K, sr_fill R 0 (sr_or f g) 1000)) :
    ∀ d i : Nat, i + d = 1000 → wY_join_29 post (nI s) (nI a) (nI b) tl pt lo hi (d + 1) (nI i) T K (sr_fill R 0 (sr_or f g) i) := by
  intro d
  induction d with
  | zero =>
    intro i hi
    obtain rfl : i = 1000 := by omega
    exact br_t sr_1000e (y_end hs hB (sr_or_B f g) (fun z => ⟨rfl, h1 z⟩) (fun z => ⟨rfl, h0 z⟩))
  | succ d IH =>
    intro i hi
    have cka : (1000 * nI a + nI i).toNatClampNeg = a * 1000 + i := pk_cl _ (sr_ixY a i)
    have ckb : (1000 * nI b + nI i).toNatClampNeg = b * 1000 + i := pk_cl _ (sr_ixY b i)
    have ck2 : (nI i).toNatClampNeg = i := pk_cl i
    have hR : vp_in (nI i) 1000 := pk_in i 1000 (by omega)
    have st := sr_fill_z R (sr_or f g) i
    have IH' := IH (i + 1) (by omega)
    refine br_f (sr_1000 (by omega)) ⟨pk_in (a * 1000 + i) 4000 (by omega) (sr_ixY a i), ?_⟩
    rw [cka, ckb, ck2, hf i (by omega), hg i (by omega)]
    by_cases z : f i = 0
    · refine br_t z ⟨pk_in (b * 1000 + i) 4000 (by omega) (sr_ixY b i), ?_⟩
      by_cases y : g i = 0
      · have e : sr_or f g i = 0 := (if_pos z).trans (if_pos y)
        rw [e] at st
        exact br_t y ⟨hR, nm_r (by rw [sr_vb (Or.inl rfl)]; exact st) (nm_r (nI_1 i) IH')⟩
      · have e : sr_or f g i = 1 := (if_pos z).trans (if_neg y)
        rw [e] at st
        exact br_f y ⟨hR, nm_r (by rw [sr_vb (Or.inr rfl)]; exact st) (nm_r (nI_1 i) IH')⟩
    · have e : sr_or f g i = 1 := if_neg z
      rw [e] at st
      exact br_f z ⟨hR, nm_r (by rw [sr_vb (Or.inr rfl)]; exact st) (nm_r (nI_1 i) IH')⟩
theorem y_il {post : Int32 → SY → Prop} {s a : Nat} {tl pt lo hi : Int32} {K T R f : Nat → Int32} (hs : s < 4) (ha : a < 4) (hB : sr_B R)
    (hf : ∀ v, v < 1000 → K (a * 1000 + v) = f v)
    (h1 : sr_st (sr_not f) 1000 ≤ 24 → post 1 (tl, pt, lo, hi, T, sr_fill K (s * 1000) (sr_fill R 0 (sr_not f) 1000) 1000, sr_fill R 0 (sr_not f) 1000))
    (h0 : ¬ sr_st (sr_not f) 1000 ≤ 24 → post 0 (tl, pt, lo, hi, T, K, sr_fill R 0 (sr_not f) 1000)) :
    ∀ d i : Nat, i + d = 1000 → wY_invert_20 post (nI s) (nI a) tl pt lo hi (d + 1) (nI i) T K (sr_fill R 0 (sr_not f) i) := by
  intro d
  induction d with
  | zero =>
    intro i hi
    obtain rfl : i = 1000 := by omega
    exact br_t sr_1000e (y_end hs hB (sr_not_B f) (fun z => ⟨rfl, h1 z⟩) (fun z => ⟨rfl, h0 z⟩))
  | succ d IH =>
    intro i hi
    have cka : (1000 * nI a + nI i).toNatClampNeg = a * 1000 + i := pk_cl _ (sr_ixY a i)
    have ck2 : (nI i).toNatClampNeg = i := pk_cl i
    have hR : vp_in (nI i) 1000 := pk_in i 1000 (by omega)
    have st := sr_fill_z R (sr_not f) i
    have IH' := IH (i + 1) (by omega)
    refine br_f (sr_1000 (by omega)) ⟨pk_in (a * 1000 + i) 4000 (by omega) (sr_ixY a i), ?_⟩
    rw [cka, ck2, hf i (by omega)]
    by_cases z : f i = 0
    · have e : sr_not f i = 1 := if_pos z
      rw [e] at st
      exact br_t z ⟨hR, nm_r (by rw [sr_vb (Or.inr rfl)]; exact st) (nm_r (nI_1 i) IH')⟩
    · have e : sr_not f i = 0 := if_neg z
      rw [e] at st
      exact br_f z ⟨hR, nm_r (by rw [sr_vb (Or.inl rfl)]; exact st) (nm_r (nI_1 i) IH')⟩
/-! agreement after a kept result -/
def sr_ag (K M : Nat → Int32) : Prop := ∀ j, j < 4000 → K j = M j
theorem sr_ag_fill {K M N g : Nat → Int32} {s : Nat} (h : sr_ag K M) (hs : s < 4) (hN : ∀ v, v < 1000 → N v = g v) : sr_ag (sr_fill K (s * 1000) N 1000) (sr_fill M (s * 1000) g 1000) := by
  intro j hj
  by_cases z : s * 1000 ≤ j ∧ j < s * 1000 + 1000
  · obtain ⟨v, rfl⟩ : ∃ v, j = s * 1000 + v := ⟨j - s * 1000, by omega⟩
    rw [sr_fill_in (by omega), sr_fill_in (by omega)]
    exact hN v (by omega)
  · rw [sr_fill_out (by omega), sr_fill_out (by omega)]
    exact h j hj
theorem sr_ag_R {K M g : Nat → Int32} (h : sr_ag K M) : sr_ag K (sr_fill M 4000 g 1000) := by
  intro j hj
  rw [sr_fill_out (by omega)]
  exact h j hj
theorem sr_ag_new {K M R g : Nat → Int32} {s : Nat} (h : sr_ag K M) (hs : s < 4) : sr_ag (sr_fill K (s * 1000) (sr_fill R 0 g 1000) 1000) (sr_new M s g) :=
  sr_ag_fill (sr_ag_R h) hs (fun v hv => by
    have q := sr_fill_in (f := R) (b := 0) (g := g) hv
    rw [Nat.zero_add] at q
    rw [q, sr_fill_in hv])
theorem sr_new_B {M g : Nat → Int32} {s : Nat} (hM : sr_B M) (hg : sr_B g) : sr_B (sr_new M s g) :=
  sr_fill_B (sr_fill_B hM (fun v _ => hg v)) (fun v _ => sr_fill_B hM (fun v _ => hg v) (4000 + v))
