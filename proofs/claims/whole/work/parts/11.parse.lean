/-! the loop over the items of a text, on both sides -/
theorem x_48 {post : Int32 → SX → Prop} {J : Int32 → Int32 → Int32 → Int32 → Int32 → Int32 → Int32 → Int32 → Int32 → Int32 → (Nat → Int32) → (Nat → Int32) → Prop} {b b' : Nat} {x3 z tl pl pd pa pb ia : Int32} {M T : Nat → Int32} (hb : b ≤ 1000) (hb' : b' ≤ 1000)
    (h : wX_readText_65 post J z x3 (nI (min b b') - 1) tl pl pd pa pb ia (nI b' - 1) M T) : wX_readText_48 post J (nI b - 1) x3 z tl pl pd pa pb ia (nI b' - 1) M T := by
  by_cases w : b ≤ b'
  · rw [Nat.min_eq_left w] at h
    exact br_t ((sr_hi_le hb hb').mpr w) h
  · rw [Nat.min_eq_right (by omega)] at h
    exact br_f (fun q => w ((sr_hi_le hb hb').mp q)) h
theorem x_it {post : Int32 → SX → Prop} {n it L p q a b a' b' : Nat} {pd pa pb ia ib : Int32} {M T : Nat → Int32} (hit : it ≤ 40) (ha : a ≤ 1000) (hb : b ≤ 1000) (S : sr_IS T L p q a' b')
    (h : ∀ pd' pa' pb' : Int32, wX_readText_65 post (wX_readText_17 post n) (nI (max a a')) (nI it) (nI (min b b') - 1) (nI L) (nI q) pd' pa' pb' (nI a') (nI b' - 1) M T) :
    wX_readText_17 post (n + 1) (nI a) (nI b - 1) (nI it) (nI L) (nI p) pd pa pb ia ib M T := by
  obtain ⟨-, -, ha', hb', iX, -⟩ := S
  refine br_f (nI_nlt (a := 40) hit (by decide)) (iX _ _ _ _ _ _ _ (fun pd' pa' pb' => br_f (by decide) ?_))
  have h' := h pd' pa' pb'
  by_cases w : a' ≤ a
  · rw [Nat.max_eq_left w] at h'
    exact br_t (nI_le w (by omega)) (x_48 hb hb' h')
  · rw [Nat.max_eq_right (by omega)] at h'
    exact br_f (nI_ge (by omega) (by omega)) (x_48 hb hb' h')
theorem y_78 {post : Int32 → SY → Prop} {J : Int32 → Int32 → Int32 → Int32 → Int32 → Int32 → Int32 → Int32 → (Nat → Int32) → (Nat → Int32) → (Nat → Int32) → Prop} {b b' : Nat} {x1 x4 tl pt l : Int32} {T K R : Nat → Int32} (hb : b ≤ 1000) (hb' : b' ≤ 1000)
    (h : wY_parse_91 post J x1 (nI (min b b') - 1) x4 tl pt l (nI b' - 1) T K R) : wY_parse_78 post J x1 (nI b - 1) x4 tl pt l (nI b' - 1) T K R := by
  by_cases w : b ≤ b'
  · rw [Nat.min_eq_left w] at h
    exact br_t ((sr_hi_le hb hb').mpr w) h
  · rw [Nat.min_eq_right (by omega)] at h
    exact br_f (fun q => w ((sr_hi_le hb hb').mp q)) h
theorem y_it {post : Int32 → SY → Prop} {n it L p q a b a' b' : Nat} {pt l h : Int32} {T K R : Nat → Int32} (hL : L ≤ 40) (hit : it ≤ 40) (ha : a ≤ 1000) (hb : b ≤ 1000) (S : sr_IS T L p q a' b')
    (w : wY_parse_91 post (wY_parse_33 post n) (nI (max a a')) (nI (min b b') - 1) (nI it) (nI L) (nI q) (nI a') (nI b' - 1) T K R) :
    wY_parse_33 post (n + 1) (nI a) (nI b - 1) (nI p) (nI it) (nI L) pt l h T K R := by
  obtain ⟨-, hq, ha', hb', -, iY⟩ := S
  refine br_f (nI_ge (b := 41) (by omega) (by decide)) (iY _ _ _ _ _ _ (br_f (nI_pos (by omega)) (br_t (nI_le hq (by omega)) ?_)))
  by_cases z : a' ≤ a
  · rw [Nat.max_eq_left z] at w
    exact br_t (nI_le z (by omega)) (y_78 hb hb' w)
  · rw [Nat.max_eq_right (by omega)] at w
    exact br_f (nI_ge (by omega) (by omega)) (y_78 hb hb' w)
/-! behind an item: a blank, a bar, the end, or something else -/
theorem x_65b {post : Int32 → SX → Prop} {J : Int32 → Int32 → Int32 → Int32 → Int32 → Int32 → Int32 → Int32 → Int32 → Int32 → (Nat → Int32) → (Nat → Int32) → Prop} {L q it : Nat} {x1 z pd pa pb ia ib : Int32} {M T : Nat → Int32} (hL : L ≤ 40) (e : sr_ch T L q = 32)
    (h : J x1 z (nI (it + 1)) (nI L) (nI (q + 1)) pd pa pb ia ib M T) : wX_readText_65 post J x1 (nI it) z (nI L) (nI q) pd pa pb ia ib M T := by
  unfold wX_readText_65
  exact x_tk1 hL e (by decide) (br_f (by decide) (nm_r (nI_1 it) h))
theorem x_65n {post : Int32 → SX → Prop} {J : Int32 → Int32 → Int32 → Int32 → Int32 → Int32 → Int32 → Int32 → Int32 → Int32 → (Nat → Int32) → (Nat → Int32) → Prop} {L q it a b : Nat} {pd pa pb ia ib : Int32} {M T : Nat → Int32} (hL : L ≤ 40) (ha : a ≤ 1000) (hb : b ≤ 1000) (e : sr_ch T L q = 124)
    (h : J 0 999 (nI (it + 1)) (nI L) (nI (q + 1)) pd pa pb ia ib (sr_ad M (4000 + a) (4000 + b)) T) : wX_readText_65 post J (nI a) (nI it) (nI b - 1) (nI L) (nI q) pd pa pb ia ib M T := by
  have hq := sr_ch_lt e (by decide)
  unfold wX_readText_65
  exact x_tk0 hL (by omega) (by rw [e]; decide) (br_t rfl (x_add ha hb (x_tk1 hL e (by decide) (br_f (by decide) (nm_r (nI_1 it) h)))))
theorem x_65e {post : Int32 → SX → Prop} {J : Int32 → Int32 → Int32 → Int32 → Int32 → Int32 → Int32 → Int32 → Int32 → Int32 → (Nat → Int32) → (Nat → Int32) → Prop} {L q a b : Nat} {it pd pa pb ia ib : Int32} {M T : Nat → Int32} (hL : L ≤ 40) (hq : q ≤ L) (ha : a ≤ 1000) (hb : b ≤ 1000) (e1 : ¬ sr_ch T L q = 32) (e2 : ¬ sr_ch T L q = 124)
    (h1 : q = L → post 1 (nI L, nI q, pd, pa, pb, ia, ib, sr_ad M (4000 + a) (4000 + b), T)) (h0 : ¬ q = L → post 0 (nI L, nI q, pd, pa, pb, ia, ib, sr_ad M (4000 + a) (4000 + b), T)) : wX_readText_65 post J (nI a) it (nI b - 1) (nI L) (nI q) pd pa pb ia ib M T := by
  unfold wX_readText_65
  refine x_tk0 hL (by omega) e1 (br_t rfl (x_add ha hb (x_tk0 hL (by omega) e2 (br_t rfl ?_))))
  by_cases w : q = L
  · exact br_t (congrArg nI w) (h1 w)
  · exact br_f (fun z => w ((nI_eq (by omega) (by omega)).mp z)) (h0 w)
theorem y_91b {post : Int32 → SY → Prop} {J : Int32 → Int32 → Int32 → Int32 → Int32 → Int32 → Int32 → Int32 → (Nat → Int32) → (Nat → Int32) → (Nat → Int32) → Prop} {L q it : Nat} {x1 x2 l h : Int32} {T K R : Nat → Int32} (hL : L ≤ 40) (e : sr_ch T L q = 32)
    (w : J x1 x2 (nI (q + 1)) (nI (it + 1)) (nI L) (nI q) l h T K R) : wY_parse_91 post J x1 x2 (nI it) (nI L) (nI q) l h T K R := by
  have hq := sr_ch_lt e (by decide)
  unfold wY_parse_91
  refine y_ch q hL (by omega) rfl ?_
  rw [e]
  exact br_f (nI_ge hq (by omega)) (br_t rfl (br_t rfl (br_f (fun z => absurd ((nI_eq (a := q) (b := L) (by omega) (by omega)).mp z) (by omega)) (nm_r (nI_1 q) (nm_r (nI_1 it) w)))))
theorem y_91n {post : Int32 → SY → Prop} {J : Int32 → Int32 → Int32 → Int32 → Int32 → Int32 → Int32 → Int32 → (Nat → Int32) → (Nat → Int32) → (Nat → Int32) → Prop} {L q it a b : Nat} {l h : Int32} {T K R : Nat → Int32} (hL : L ≤ 40) (ha : a ≤ 1000) (hb : b ≤ 1000) (e : sr_ch T L q = 124)
    (w : J 0 999 (nI (q + 1)) (nI (it + 1)) (nI L) (nI q) l h T K (sr_ad R a b)) : wY_parse_91 post J (nI a) (nI b - 1) (nI it) (nI L) (nI q) l h T K R := by
  have hq := sr_ch_lt e (by decide)
  unfold wY_parse_91
  refine y_ch q hL (by omega) rfl ?_
  rw [e]
  exact br_f (nI_ge hq (by omega)) (br_f (by decide) (br_t rfl (br_f (by decide) (y_add ha hb (br_f (fun z => absurd ((nI_eq (a := q) (b := L) (by omega) (by omega)).mp z) (by omega)) (nm_r (nI_1 q) (nm_r (nI_1 it) w)))))))
theorem y_91e {post : Int32 → SY → Prop} {J : Int32 → Int32 → Int32 → Int32 → Int32 → Int32 → Int32 → Int32 → (Nat → Int32) → (Nat → Int32) → (Nat → Int32) → Prop} {L q a b : Nat} {it l h : Int32} {T K R : Nat → Int32} (hL : L ≤ 40) (hq : q ≤ L) (ha : a ≤ 1000) (hb : b ≤ 1000) (e1 : ¬ sr_ch T L q = 32) (e2 : ¬ sr_ch T L q = 124)
    (h1 : q = L → post 1 (nI L, nI q, l, h, T, K, sr_ad R a b)) (h0 : ¬ q = L → post 0 (nI L, nI q, l, h, T, K, R)) : wY_parse_91 post J (nI a) (nI b - 1) it (nI L) (nI q) l h T K R := by
  unfold wY_parse_91
  refine y_ch q hL (by omega) rfl ?_
  by_cases w : q = L
  · exact br_t (nI_le (by omega) (by omega)) (br_f e1 (y_add ha hb (br_t (congrArg nI w) (h1 w))))
  · exact br_f (nI_ge (by omega) (by omega)) (br_f e1 (br_f e2 (h0 w)))
theorem sr_mx {a a' : Nat} (h : a ≤ 1000) (h' : a' ≤ 1000) : max a a' ≤ 1000 := Nat.max_le.mpr ⟨h, h'⟩
theorem sr_mn {b b' : Nat} (h : b ≤ 1000) : min b b' ≤ 1000 := Nat.le_trans (Nat.min_le_left _ _) h
theorem sr_parse (T K : Nat → Int32) {L : Nat} (hL : L ≤ 40) : ∀ d it : Nat, it + d = 41 → ∀ (p c a b : Nat) (M R : Nat → Int32), p ≤ L → 2 * c ≤ p → a ≤ 1000 → b ≤ 1000 → sr_B M → sr_B R → (∀ v, v < 1000 → M (4000 + v) = R v) → sr_st R 1000 ≤ c →
    ∃ (z : Int32) (M' R' : Nat → Int32), sr_B M' ∧ sr_B R' ∧ (∀ j, j < 4000 → M' j = M j) ∧ (z = 0 ∨ (z = 1 ∧ (∀ v, v < 1000 → M' (4000 + v) = R' v) ∧ sr_st R' 1000 ≤ 24))
      ∧ (∀ (post : Int32 → SX → Prop) (pd pa pb ia ib : Int32), (∀ pl' pd' pa' pb' ia' ib' : Int32, post z (nI L, pl', pd', pa', pb', ia', ib', M', T)) → wX_readText_17 post (d + 1) (nI a) (nI b - 1) (nI it) (nI L) (nI p) pd pa pb ia ib M T)
      ∧ (∀ (post : Int32 → SY → Prop) (pt l h : Int32), (∀ pt' l' h' : Int32, post z (nI L, pt', l', h', T, K, R')) → wY_parse_33 post (d + 1) (nI a) (nI b - 1) (nI p) (nI it) (nI L) pt l h T K R) := by
  intro d
  induction d with
  | zero =>
    intro it hit p c a b M R hp hc ha hb hM hR hMR hst
    obtain rfl : it = 41 := by omega
    exact ⟨0, M, R, hM, hR, fun _ _ => rfl, Or.inl rfl, fun post pd pa pb ia ib w => br_t (by decide) (w _ _ _ _ _ _), fun post pt l h w => br_t (by decide) (w _ _ _)⟩
  | succ d IH =>
    intro it hit p c a b M R hp hc ha hb hM hR hMR hst
    rcases sr_item T hL (p := p) (by omega) with F | ⟨q, a', b', S⟩
    · refine ⟨0, M, R, hM, hR, fun _ _ => rfl, Or.inl rfl, fun post pd pa pb ia ib w => ?_, fun post pt l h w => ?_⟩
      · exact br_f (nI_nlt (a := 40) (by omega) (by decide)) (F.1 _ _ _ _ _ _ _ (fun x1 x2 x3 x4 x5 x6 => br_t rfl (w _ _ _ _ _ _)))
      · exact br_f (nI_ge (b := 41) (by omega) (by decide)) (F.2 _ _ _ _ _ _ (fun l' h' => br_t (by decide) (w _ _ _)))
    · have S' := S
      obtain ⟨hpq, hq, ha', hb', -, -⟩ := S'
      have hA := sr_mx ha ha'
      have hN : min b b' ≤ 1000 := sr_mn hb
      by_cases e1 : sr_ch T L q = 32
      · have hq1 := sr_ch_lt e1 (by decide)
        obtain ⟨z, M', R', k1, k2, k3, k4, kX, kY⟩ := IH (it + 1) (by omega) (q + 1) c (max a a') (min b b') M R (by omega) (by omega) hA hN hM hR hMR hst
        exact ⟨z, M', R', k1, k2, k3, k4, fun post pd pa pb ia ib w => x_it (by omega) ha hb S (fun pd' pa' pb' => x_65b hL e1 (kX _ _ _ _ _ _ w)), fun post pt l h w => y_it hL (by omega) ha hb S (y_91b hL e1 (kY _ _ _ _ w))⟩
      · have st1 := (sr_st_ad R (max a a') (min b b') 1000).2
        have hM1 : sr_B (sr_ad M (4000 + max a a') (4000 + min b b')) := sr_ad_B hM
        have hR1 : sr_B (sr_ad R (max a a') (min b b')) := sr_ad_B hR
        have lo1 : ∀ j, j < 4000 → sr_ad M (4000 + max a a') (4000 + min b b') j = M j := fun j hj => sr_ad_out (by omega)
        have eq1 : ∀ v, v < 1000 → sr_ad M (4000 + max a a') (4000 + min b b') (4000 + v) = sr_ad R (max a a') (min b b') v := by
          intro v hv
          by_cases w : max a a' ≤ v ∧ v < min b b'
          · rw [sr_ad_in w, sr_ad_in (by omega)]
          · rw [sr_ad_out w, sr_ad_out (by omega)]
            exact hMR v hv
        by_cases e2 : sr_ch T L q = 124
        · have hq1 := sr_ch_lt e2 (by decide)
          obtain ⟨z, M', R', k1, k2, k3, k4, kX, kY⟩ := IH (it + 1) (by omega) (q + 1) (c + 1) 0 1000 _ _ (by omega) (by omega) (by omega) (by omega) hM1 hR1 eq1 (by omega)
          rw [← sr_999] at kX kY
          exact ⟨z, M', R', k1, k2, fun j hj => (k3 j hj).trans (lo1 j hj), k4, fun post pd pa pb ia ib w => x_it (by omega) ha hb S (fun pd' pa' pb' => x_65n hL hA hN e2 (kX _ _ _ _ _ _ w)), fun post pt l h w => y_it hL (by omega) ha hb S (y_91n hL hA hN e2 (kY _ _ _ _ w))⟩
        · by_cases e3 : q = L
          · exact ⟨1, _, _, hM1, hR1, lo1, Or.inr ⟨rfl, eq1, by omega⟩, fun post pd pa pb ia ib w => x_it (by omega) ha hb S (fun pd' pa' pb' => x_65e hL hq hA hN e1 e2 (fun _ => w _ _ _ _ _ _) (fun z => absurd e3 z)), fun post pt l h w => y_it hL (by omega) ha hb S (y_91e hL hq hA hN e1 e2 (fun _ => w _ _ _) (fun z => absurd e3 z))⟩
          · exact ⟨0, _, R, hM1, hR, lo1, Or.inl rfl, fun post pd pa pb ia ib w => x_it (by omega) ha hb S (fun pd' pa' pb' => x_65e hL hq hA hN e1 e2 (fun z => absurd z e3) (fun _ => w _ _ _ _ _ _)), fun post pt l h w => y_it hL (by omega) ha hb S (y_91e hL hq hA hN e1 e2 (fun z => absurd z e3) (fun _ => w _ _ _))⟩
/-! Y's clearing loop, ahead of the items -/
theorem y_cl {post : Int32 → SY → Prop} {tl pt lo hi : Int32} {K T R : Nat → Int32} (h : ∃ n : Nat, wY_parse_33 post n 0 999 0 0 tl pt lo hi T K (sr_fill R 0 (fun _ => 0) 1000)) :
    ∀ d i : Nat, i + d = 1000 → wY_parse_2 post tl pt lo hi (d + 1) (nI i) T K (sr_fill R 0 (fun _ => 0) i) := by
  intro d
  induction d with
  | zero =>
    intro i hi
    obtain rfl : i = 1000 := by omega
    exact br_t sr_1000e h
  | succ d IH =>
    intro i hi
    have ck2 : (nI i).toNatClampNeg = i := pk_cl i
    refine br_f (sr_1000 (by omega)) ⟨pk_in i 1000 (by omega), nm_r ?_ (nm_r (nI_1 i) (IH (i + 1) (by omega)))⟩
    rw [ck2, sr_vb (Or.inl rfl)]
    exact sr_fill_z R (fun _ => 0) i
theorem y_par {post : Int32 → SY → Prop} {tl pt lo hi : Int32} {K T R : Nat → Int32} (h : ∃ n : Nat, wY_parse_33 post n 0 999 0 0 tl pt lo hi T K (sr_fill R 0 (fun _ => 0) 1000)) : wpY_parse post (tl, pt, lo, hi, T, K, R) := by
  refine ⟨1001, ?_⟩
  have q := y_cl h 1000 0 rfl
  rw [sr_fill_0] at q
  exact q
/-- the whole text: one outcome, on both sides -/
theorem sr_text (T K : Nat → Int32) {L : Nat} (hL : L ≤ 40) {M R : Nat → Int32} (hM : sr_B M) (hR : sr_B R) :
    ∃ (z : Int32) (M' R' : Nat → Int32), sr_B M' ∧ sr_B R' ∧ (∀ j, j < 4000 → M' j = M j) ∧ (z = 0 ∨ (z = 1 ∧ (∀ v, v < 1000 → M' (4000 + v) = R' v) ∧ sr_st R' 1000 ≤ 24))
      ∧ (∀ (post : Int32 → SX → Prop) (pl pd pa pb ia ib : Int32), (∀ pl' pd' pa' pb' ia' ib' : Int32, post z (nI L, pl', pd', pa', pb', ia', ib', M', T)) → wpX_readText post (nI L, pl, pd, pa, pb, ia, ib, M, T))
      ∧ (∀ (post : Int32 → SY → Prop) (pt l h : Int32), (∀ pt' l' h' : Int32, post z (nI L, pt', l', h', T, K, R')) → wpY_parse post (nI L, pt, l, h, T, K, R)) := by
  have z0 : ∀ v, v < 1000 → sr_fill R 0 (fun _ => 0) 1000 v = (0 : Int32) := by
    intro v hv
    have q := sr_fill_in (f := R) (b := 0) (g := fun _ => 0) hv
    rw [Nat.zero_add] at q
    exact q
  have s0 : sr_st (sr_fill R 0 (fun _ => 0) 1000) 1000 ≤ 0 := by
    rw [sr_st_c (g := fun _ => 0) z0, sr_st_0]
    exact Nat.le_refl _
  obtain ⟨z, M', R', k1, k2, k3, k4, kX, kY⟩ := sr_parse T K hL 41 0 rfl 0 0 0 1000 (sr_fill M 4000 (fun _ => 0) 1000) (sr_fill R 0 (fun _ => 0) 1000) (by omega) (by omega) (by omega) (by omega)
    (sr_fill_B hM (fun _ _ => Or.inl rfl)) (sr_fill_B hR (fun _ _ => Or.inl rfl)) (fun v hv => (sr_fill_in hv).trans (z0 v hv).symm) s0
  rw [← sr_999] at kX kY
  refine ⟨z, M', R', k1, k2, fun j hj => (k3 j hj).trans (sr_fill_out (by omega)), k4, fun post pl pd pa pb ia ib w => ?_, fun post pt l h w => ?_⟩
  · unfold wpX_readText
    dsimp only
    exact x_clear ⟨42, kX _ _ _ _ _ _ w⟩
  · exact y_par ⟨42, kY _ _ _ _ w⟩
