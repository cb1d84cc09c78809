/-! one, two or three digits: X's readPartial, Y's digitsAt, lowOf, highOf -/
theorem x_rpF {post : Int32 → SX → Prop} {n L p k : Nat} {x1 pd pa pb ia ib : Int32} {M T : Nat → Int32} (hL : L ≤ 40) (hp : p ≤ 100) (hk : k ≤ 3) (e : ¬ sr_dig (sr_ch T L p))
    (h : post 0 (nI L, nI p, pd, pa, pb, ia, ib, M, T)) : wX_readPartial_11 post (n + 1) x1 (nI k) (nI L) (nI p) pd pa pb ia ib M T :=
  br_f (nI_nlt (a := 3) hk (by decide)) (x_td0 hL hp e (br_f (by decide) h))
theorem sr_d10 {z : Nat} (hz : z ≤ 100) : nI (10 * z) / 10 = nI z := by
  have e : nI (10 * z) / 10 = nI (10 * z / 10) := pk_div (d := 10) (by omega) (by omega) (by omega)
  rw [e]
  exact congrArg nI (by omega)
theorem sr_lo (lo g z : Nat) : nI lo + nI g * nI z = nI (lo + g * z) := by rw [pk_mul, nI_add]
theorem sr_hi {w z : Nat} (hz : 1 ≤ z) : nI w + nI z - 1 = nI (w + z - 1) := by
  rw [nI_add]
  exact pk_sub (a := w + z) (b := 1) (by omega)
theorem x_rp3 {post : Int32 → SX → Prop} {n L p g lo : Nat} {pd pb ia ib : Int32} {M T : Nat → Int32} (hL : L ≤ 40) (hg : g ≤ 9) (e : sr_ch T L p = nI (48 + g))
    (h : post 1 (nI L, nI (p + 1), nI 3, nI (lo + g * 1), nI (lo + g * 1 + 1 - 1), ia, ib, M, T)) : wX_readPartial_11 post (n + 1) (nI (10 * 1)) (nI 3) (nI L) (nI p) pd (nI lo) pb ia ib M T :=
  br_f (nI_nlt (a := 3) (Nat.le_refl _) (by decide)) (x_td1 hL e hg (br_t (nI_pos' (by omega)) ⟨by decide, nm_r (sr_d10 (by omega)) (nm_r (sr_lo lo g 1) (nm_r (sr_hi (Nat.le_refl _)) (br_t rfl h)))⟩))
theorem x_rpE {post : Int32 → SX → Prop} {n L p g lo k z : Nat} {pd pb ia ib : Int32} {M T : Nat → Int32} (hL : L ≤ 40) (hk : k < 3) (hz : 1 ≤ z) (hz' : z ≤ 100) (hg : g ≤ 9) (e : sr_ch T L p = nI (48 + g)) (e' : ¬ sr_ch T L (p + 1) = 46)
    (h : post 1 (nI L, nI (p + 1), nI k, nI (lo + g * z), nI (lo + g * z + z - 1), ia, ib, M, T)) : wX_readPartial_11 post (n + 1) (nI (10 * z)) (nI k) (nI L) (nI p) pd (nI lo) pb ia ib M T := by
  have hp := sr_ch_lt e (sr_dn0 hg)
  exact br_f (nI_nlt (a := 3) (by omega) (by decide)) (x_td1 hL e hg (br_t (nI_pos' (by omega)) ⟨by decide, nm_r (sr_d10 hz') (nm_r (sr_lo lo g z) (nm_r (sr_hi hz) (br_f (fun q => absurd ((nI_eq (a := k) (b := 3) (by omega) (by omega)).mp q) (by omega)) (x_tk0 hL (by omega) e' (br_t rfl h)))))⟩))
theorem x_rpN {post : Int32 → SX → Prop} {n L p g lo k z : Nat} {pd pb ia ib : Int32} {M T : Nat → Int32} (hL : L ≤ 40) (hk : k < 3) (hz : 1 ≤ z) (hz' : z ≤ 100) (hg : g ≤ 9) (e : sr_ch T L p = nI (48 + g)) (e' : sr_ch T L (p + 1) = 46)
    (h : wX_readPartial_11 post n (nI z) (nI (k + 1)) (nI L) (nI (p + 2)) (nI k) (nI (lo + g * z)) (nI (lo + g * z + z - 1)) ia ib M T) : wX_readPartial_11 post (n + 1) (nI (10 * z)) (nI k) (nI L) (nI p) pd (nI lo) pb ia ib M T :=
  br_f (nI_nlt (a := 3) (by omega) (by decide)) (x_td1 hL e hg (br_t (nI_pos' (by omega)) ⟨by decide, nm_r (sr_d10 hz') (nm_r (sr_lo lo g z) (nm_r (sr_hi hz) (br_f (fun q => absurd ((nI_eq (a := k) (b := 3) (by omega) (by omega)).mp q) (by omega)) (x_tk1 hL e' (by decide) (br_f (by decide) (nm_r (nI_1 k) h))))))⟩))
theorem sr_46 : ¬ sr_dig 46 := by unfold sr_dig; decide
theorem y_dg0 {post : Int32 → Prop} {L p : Nat} {pt lo hi : Int32} {T K R : Nat → Int32} (hL : L ≤ 40) (hp : p ≤ 90) (e0 : ¬ sr_dig (sr_ch T L p)) (h : post 0) : wpY_digitsAt post (nI L, pt, lo, hi, T, K, R) (nI p) := by
  unfold wpY_digitsAt
  dsimp only
  exact y_ch p hL (by omega) rfl (y_ch (p + 2) hL (by omega) (nI_add p 2) (y_ch (p + 4) hL (by omega) (nI_add p 4) (y_i0 e0 (br_t rfl h))))
theorem y_dg1 {post : Int32 → Prop} {L p : Nat} {pt lo hi : Int32} {T K R : Nat → Int32} (hL : L ≤ 40) (hp : p ≤ 90) (e0 : sr_dig (sr_ch T L p)) (e1 : ¬ sr_ch T L (p + 1) = 46) (h : post 1) : wpY_digitsAt post (nI L, pt, lo, hi, T, K, R) (nI p) := by
  unfold wpY_digitsAt
  dsimp only
  exact y_ch p hL (by omega) rfl (y_ch (p + 2) hL (by omega) (nI_add p 2) (y_ch (p + 4) hL (by omega) (nI_add p 4) (y_i1 e0 (br_f (by decide) (y_ch (p + 1) hL (by omega) (nI_add p 1) (br_f e1 h))))))
theorem y_dg10 {post : Int32 → Prop} {L p : Nat} {pt lo hi : Int32} {T K R : Nat → Int32} (hL : L ≤ 40) (hp : p ≤ 90) (e0 : sr_dig (sr_ch T L p)) (e1 : sr_ch T L (p + 1) = 46) (e2 : ¬ sr_dig (sr_ch T L (p + 2))) (h : post 0) : wpY_digitsAt post (nI L, pt, lo, hi, T, K, R) (nI p) := by
  unfold wpY_digitsAt
  dsimp only
  exact y_ch p hL (by omega) rfl (y_ch (p + 2) hL (by omega) (nI_add p 2) (y_ch (p + 4) hL (by omega) (nI_add p 4) (y_i1 e0 (br_f (by decide) (y_ch (p + 1) hL (by omega) (nI_add p 1) (br_t e1 (y_i0 e2 (br_t rfl h))))))))
theorem y_dg2 {post : Int32 → Prop} {L p : Nat} {pt lo hi : Int32} {T K R : Nat → Int32} (hL : L ≤ 40) (hp : p ≤ 90) (e0 : sr_dig (sr_ch T L p)) (e1 : sr_ch T L (p + 1) = 46) (e2 : sr_dig (sr_ch T L (p + 2))) (e3 : ¬ sr_ch T L (p + 3) = 46) (h : post 2) : wpY_digitsAt post (nI L, pt, lo, hi, T, K, R) (nI p) := by
  unfold wpY_digitsAt
  dsimp only
  exact y_ch p hL (by omega) rfl (y_ch (p + 2) hL (by omega) (nI_add p 2) (y_ch (p + 4) hL (by omega) (nI_add p 4) (y_i1 e0 (br_f (by decide) (y_ch (p + 1) hL (by omega) (nI_add p 1) (br_t e1 (y_i1 e2 (br_f (by decide) (y_ch (p + 3) hL (by omega) (nI_add p 3) (br_f e3 h))))))))))
theorem y_dg20 {post : Int32 → Prop} {L p : Nat} {pt lo hi : Int32} {T K R : Nat → Int32} (hL : L ≤ 40) (hp : p ≤ 90) (e0 : sr_dig (sr_ch T L p)) (e1 : sr_ch T L (p + 1) = 46) (e2 : sr_dig (sr_ch T L (p + 2))) (e3 : sr_ch T L (p + 3) = 46) (e4 : ¬ sr_dig (sr_ch T L (p + 4))) (h : post 0) : wpY_digitsAt post (nI L, pt, lo, hi, T, K, R) (nI p) := by
  unfold wpY_digitsAt
  dsimp only
  exact y_ch p hL (by omega) rfl (y_ch (p + 2) hL (by omega) (nI_add p 2) (y_ch (p + 4) hL (by omega) (nI_add p 4) (y_i1 e0 (br_f (by decide) (y_ch (p + 1) hL (by omega) (nI_add p 1) (br_t e1 (y_i1 e2 (br_f (by decide) (y_ch (p + 3) hL (by omega) (nI_add p 3) (br_t e3 (y_i0 e4 (br_t rfl h))))))))))))
theorem y_dg3 {post : Int32 → Prop} {L p : Nat} {pt lo hi : Int32} {T K R : Nat → Int32} (hL : L ≤ 40) (hp : p ≤ 90) (e0 : sr_dig (sr_ch T L p)) (e1 : sr_ch T L (p + 1) = 46) (e2 : sr_dig (sr_ch T L (p + 2))) (e3 : sr_ch T L (p + 3) = 46) (e4 : sr_dig (sr_ch T L (p + 4))) (h : post 3) : wpY_digitsAt post (nI L, pt, lo, hi, T, K, R) (nI p) := by
  unfold wpY_digitsAt
  dsimp only
  exact y_ch p hL (by omega) rfl (y_ch (p + 2) hL (by omega) (nI_add p 2) (y_ch (p + 4) hL (by omega) (nI_add p 4) (y_i1 e0 (br_f (by decide) (y_ch (p + 1) hL (by omega) (nI_add p 1) (br_t e1 (y_i1 e2 (br_f (by decide) (y_ch (p + 3) hL (by omega) (nI_add p 3) (br_t e3 (y_i1 e4 (br_f (by decide) h))))))))))))
theorem sr_m100 (g : Nat) : 100 * nI g = nI (100 * g) := pk_mul 100 g
theorem sr_m10 (a g : Nat) : nI a + 10 * nI g = nI (a + 10 * g) := by
  have e : 10 * nI g = nI (10 * g) := pk_mul 10 g
  rw [e, nI_add]
theorem y_lw1 {post : Int32 → Prop} {L p g : Nat} {pt lo hi : Int32} {T K R : Nat → Int32} (hL : L ≤ 40) (hp : p ≤ 90) (e0 : sr_ch T L p = nI (48 + g)) (h : post (nI (100 * g))) : wpY_lowOf post (nI L, pt, lo, hi, T, K, R) (nI p) 1 := by
  unfold wpY_lowOf
  dsimp only
  refine y_da p hL (by omega) rfl ?_
  rw [e0, sr_m48]
  exact nm_r (sr_m100 g) (br_t (by decide) (br_t (by decide) h))
theorem y_lw2 {post : Int32 → Prop} {L p g g2 : Nat} {pt lo hi : Int32} {T K R : Nat → Int32} (hL : L ≤ 40) (hp : p ≤ 90) (e0 : sr_ch T L p = nI (48 + g)) (e2 : sr_ch T L (p + 2) = nI (48 + g2)) (h : post (nI (100 * g + 10 * g2))) : wpY_lowOf post (nI L, pt, lo, hi, T, K, R) (nI p) 2 := by
  unfold wpY_lowOf
  dsimp only
  refine y_da p hL (by omega) rfl ?_
  rw [e0, sr_m48]
  refine nm_r (sr_m100 g) (br_f (by decide) (y_da (p + 2) hL (by omega) (nI_add p 2) ?_))
  rw [e2, sr_m48]
  exact nm_r (sr_m10 _ g2) (br_t (by decide) h)
theorem y_lw3 {post : Int32 → Prop} {L p g g2 g3 : Nat} {pt lo hi : Int32} {T K R : Nat → Int32} (hL : L ≤ 40) (hp : p ≤ 90) (e0 : sr_ch T L p = nI (48 + g)) (e2 : sr_ch T L (p + 2) = nI (48 + g2)) (e4 : sr_ch T L (p + 4) = nI (48 + g3)) (h : post (nI (100 * g + 10 * g2 + g3))) : wpY_lowOf post (nI L, pt, lo, hi, T, K, R) (nI p) 3 := by
  unfold wpY_lowOf
  dsimp only
  refine y_da p hL (by omega) rfl ?_
  rw [e0, sr_m48]
  refine nm_r (sr_m100 g) (br_f (by decide) (y_da (p + 2) hL (by omega) (nI_add p 2) ?_))
  rw [e2, sr_m48]
  refine nm_r (sr_m10 _ g2) (br_f (by decide) (y_da (p + 4) hL (by omega) (nI_add p 4) ?_))
  rw [e4, sr_m48, nI_add]
  exact h
theorem y_hw0 {post : Int32 → Prop} {L p : Nat} {pt lo hi : Int32} {T K R : Nat → Int32} (hL : L ≤ 40) (hp : p ≤ 90) (h : ∀ r, post r) : wpY_highOf post (nI L, pt, lo, hi, T, K, R) (nI p) 0 := by
  unfold wpY_highOf wpY_lowOf
  dsimp only
  exact y_da p hL (by omega) rfl (nm_e (br_t (by decide) (br_t (by decide) (br_f (by decide) (br_f (by decide) (h _))))))
theorem y_hw1 {post : Int32 → Prop} {L p g : Nat} {pt lo hi : Int32} {T K R : Nat → Int32} (hL : L ≤ 40) (hp : p ≤ 90) (e0 : sr_ch T L p = nI (48 + g)) (h : post (nI (100 * g + 99))) : wpY_highOf post (nI L, pt, lo, hi, T, K, R) (nI p) 1 := by
  unfold wpY_highOf
  dsimp only
  refine y_lw1 hL hp e0 (br_t rfl ?_)
  have q : nI (100 * g) + 99 = nI (100 * g + 99) := nI_add _ 99
  rw [q]
  exact h
theorem y_hw2 {post : Int32 → Prop} {L p g g2 : Nat} {pt lo hi : Int32} {T K R : Nat → Int32} (hL : L ≤ 40) (hp : p ≤ 90) (e0 : sr_ch T L p = nI (48 + g)) (e2 : sr_ch T L (p + 2) = nI (48 + g2)) (h : post (nI (100 * g + 10 * g2 + 9))) : wpY_highOf post (nI L, pt, lo, hi, T, K, R) (nI p) 2 := by
  unfold wpY_highOf
  dsimp only
  refine y_lw2 hL hp e0 e2 (br_f (by decide) (br_t rfl ?_))
  have q : nI (100 * g + 10 * g2) + 9 = nI (100 * g + 10 * g2 + 9) := nI_add _ 9
  rw [q]
  exact h
theorem y_hw3 {post : Int32 → Prop} {L p g g2 g3 : Nat} {pt lo hi : Int32} {T K R : Nat → Int32} (hL : L ≤ 40) (hp : p ≤ 90) (e0 : sr_ch T L p = nI (48 + g)) (e2 : sr_ch T L (p + 2) = nI (48 + g2)) (e4 : sr_ch T L (p + 4) = nI (48 + g3)) (h : post (nI (100 * g + 10 * g2 + g3))) : wpY_highOf post (nI L, pt, lo, hi, T, K, R) (nI p) 3 := by
  unfold wpY_highOf
  dsimp only
  exact y_lw3 hL hp e0 e2 e4 (br_f (by decide) (br_f (by decide) h))
/-- n digits stand at p, for the versions from lo to hi -/
def sr_PS (T : Nat → Int32) (L p n lo hi : Nat) : Prop := 1 ≤ n ∧ n ≤ 3 ∧ p + 2 * n - 1 ≤ L ∧ lo ≤ hi ∧ hi ≤ 999 ∧ (n = 1 → lo % 100 = 0 ∧ hi = lo + 99)
  ∧ (∀ (post : Int32 → SX → Prop) (pd pa pb ia ib : Int32) (M : Nat → Int32), post 1 (nI L, nI (p + 2 * n - 1), nI n, nI lo, nI hi, ia, ib, M, T) → wpX_readPartial post (nI L, nI p, pd, pa, pb, ia, ib, M, T))
  ∧ (∀ (post : Int32 → Prop) (pt l h : Int32) (K R : Nat → Int32), post (nI n) → wpY_digitsAt post (nI L, pt, l, h, T, K, R) (nI p))
  ∧ (∀ (post : Int32 → Prop) (pt l h : Int32) (K R : Nat → Int32), post (nI lo) → wpY_lowOf post (nI L, pt, l, h, T, K, R) (nI p) (nI n))
  ∧ (∀ (post : Int32 → Prop) (pt l h : Int32) (K R : Nat → Int32), post (nI hi) → wpY_highOf post (nI L, pt, l, h, T, K, R) (nI p) (nI n))
/-- no such digits stand at p -/
def sr_PF (T : Nat → Int32) (L p : Nat) : Prop :=
  (∀ (post : Int32 → SX → Prop) (pd pa pb ia ib : Int32) (M : Nat → Int32), (∀ pl' pd' pa' pb' : Int32, post 0 (nI L, pl', pd', pa', pb', ia, ib, M, T)) → wpX_readPartial post (nI L, nI p, pd, pa, pb, ia, ib, M, T))
  ∧ (∀ (post : Int32 → Prop) (pt l h : Int32) (K R : Nat → Int32), post 0 → wpY_digitsAt post (nI L, pt, l, h, T, K, R) (nI p))
theorem sr_part (T : Nat → Int32) {L p : Nat} (hL : L ≤ 40) (hp : p ≤ 90) : sr_PF T L p ∨ ∃ n lo hi, sr_PS T L p n lo hi := by
  by_cases d0 : sr_dig (sr_ch T L p)
  · obtain ⟨g, hg, e0⟩ := sr_dig_of d0
    have hp0 := sr_ch_lt e0 (sr_dn0 hg)
    by_cases e1 : sr_ch T L (p + 1) = 46
    · by_cases d2 : sr_dig (sr_ch T L (p + 2))
      · obtain ⟨g2, hg2, e2⟩ := sr_dig_of d2
        have hp2 := sr_ch_lt e2 (sr_dn0 hg2)
        by_cases e3 : sr_ch T L (p + 3) = 46
        · by_cases d4 : sr_dig (sr_ch T L (p + 4))
          · obtain ⟨g3, hg3, e4⟩ := sr_dig_of d4
            have hp4 := sr_ch_lt e4 (sr_dn0 hg3)
            refine Or.inr ⟨3, 100 * g + 10 * g2 + g3, 100 * g + 10 * g2 + g3, by omega, by omega, by omega, by omega, by omega, by omega, ?_, fun post pt l h K R q => y_dg3 hL hp d0 e1 d2 e3 d4 q, fun post pt l h K R q => y_lw3 hL hp e0 e2 e4 q, fun post pt l h K R q => y_hw3 hL hp e0 e2 e4 q⟩
            intro post pd pa pb ia ib M q
            refine ⟨4, x_rpN (n := 3) (k := 1) (z := 100) (lo := 0) hL (by omega) (by omega) (by omega) hg e0 e1 (x_rpN (n := 2) (k := 2) (z := 10) (p := p + 2) hL (by omega) (by omega) (by omega) hg2 e2 e3 (x_rp3 (n := 1) (p := p + 4) hL hg3 e4 ?_))⟩
            have w1 : p + 4 + 1 = p + 2 * 3 - 1 := by omega
            have w2 : 0 + g * 100 + g2 * 10 + g3 * 1 = 100 * g + 10 * g2 + g3 := by omega
            have w3 : 100 * g + 10 * g2 + g3 + 1 - 1 = 100 * g + 10 * g2 + g3 := by omega
            rw [w1, w2, w3]
            exact q
          · refine Or.inl ⟨?_, fun post pt l h K R q => y_dg20 hL hp d0 e1 d2 e3 d4 q⟩
            intro post pd pa pb ia ib M q
            exact ⟨4, x_rpN (n := 3) (k := 1) (z := 100) (lo := 0) hL (by omega) (by omega) (by omega) hg e0 e1 (x_rpN (n := 2) (k := 2) (z := 10) (p := p + 2) hL (by omega) (by omega) (by omega) hg2 e2 e3 (x_rpF (n := 1) (k := 3) (p := p + 4) hL (by omega) (by omega) d4 (q _ _ _ _)))⟩
        · refine Or.inr ⟨2, 100 * g + 10 * g2, 100 * g + 10 * g2 + 9, by omega, by omega, by omega, by omega, by omega, by omega, ?_, fun post pt l h K R q => y_dg2 hL hp d0 e1 d2 e3 q, fun post pt l h K R q => y_lw2 hL hp e0 e2 q, fun post pt l h K R q => y_hw2 hL hp e0 e2 q⟩
          intro post pd pa pb ia ib M q
          refine ⟨4, x_rpN (n := 3) (k := 1) (z := 100) (lo := 0) hL (by omega) (by omega) (by omega) hg e0 e1 (x_rpE (n := 2) (k := 2) (z := 10) (p := p + 2) hL (by omega) (by omega) (by omega) hg2 e2 e3 ?_)⟩
          have w1 : p + 2 + 1 = p + 2 * 2 - 1 := by omega
          have w2 : 0 + g * 100 + g2 * 10 = 100 * g + 10 * g2 := by omega
          have w3 : 100 * g + 10 * g2 + 10 - 1 = 100 * g + 10 * g2 + 9 := by omega
          rw [w1, w2, w3]
          exact q
      · refine Or.inl ⟨?_, fun post pt l h K R q => y_dg10 hL hp d0 e1 d2 q⟩
        intro post pd pa pb ia ib M q
        exact ⟨4, x_rpN (n := 3) (k := 1) (z := 100) (lo := 0) hL (by omega) (by omega) (by omega) hg e0 e1 (x_rpF (n := 2) (k := 2) (p := p + 2) hL (by omega) (by omega) d2 (q _ _ _ _))⟩
    · refine Or.inr ⟨1, 100 * g, 100 * g + 99, by omega, by omega, by omega, by omega, by omega, by omega, ?_, fun post pt l h K R q => y_dg1 hL hp d0 e1 q, fun post pt l h K R q => y_lw1 hL hp e0 q, fun post pt l h K R q => y_hw1 hL hp e0 q⟩
      intro post pd pa pb ia ib M q
      refine ⟨4, x_rpE (n := 3) (k := 1) (z := 100) (lo := 0) hL (by omega) (by omega) (by omega) hg e0 e1 ?_⟩
      have w1 : p + 1 = p + 2 * 1 - 1 := by omega
      have w2 : 0 + g * 100 = 100 * g := by omega
      have w3 : 100 * g + 100 - 1 = 100 * g + 99 := by omega
      rw [w2, w3, w1]
      exact q
  · refine Or.inl ⟨?_, fun post pt l h K R q => y_dg0 hL hp d0 q⟩
    intro post pd pa pb ia ib M q
    exact ⟨4, x_rpF (n := 3) (k := 1) hL (by omega) (by omega) d0 (q _ _ _ _)⟩
