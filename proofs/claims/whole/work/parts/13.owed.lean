/-! what is owed -/
def i_Rel (k : Nat) (u : SX) (v : SY) : Prop := ∃ (L : Nat) (pl pd pa pb ia ib pt l h : Int32) (M T K R : Nat → Int32), L ≤ 40 ∧ sr_B M ∧ sr_B R ∧ sr_ag K M ∧ u = (nI L, pl, pd, pa, pb, ia, ib, M, T) ∧ v = (nI L, pt, l, h, T, K, R)
theorem sr_mk {k L : Nat} {pl pd pa pb ia ib pt l h : Int32} {M T K R : Nat → Int32} (hL : L ≤ 40) (hM : sr_B M) (hR : sr_B R) (hag : sr_ag K M) : i_Rel k (nI L, pl, pd, pa, pb, ia, ib, M, T) (nI L, pt, l, h, T, K, R) :=
  ⟨L, pl, pd, pa, pb, ia, ib, pt, l, h, M, T, K, R, hL, hM, hR, hag, rfl, rfl⟩
theorem i_up {k : Nat} {u : SX} {v : SY} (h : i_Rel k u v) : i_Rel (k + 4) u v := h
theorem i_vc0 : wpX_init (fun u => wpY_init (fun v => i_Rel 0 u v)) :=
  sr_mk (k := 0) (L := 0) (by omega) (fun _ => Or.inl rfl) (fun _ => Or.inl rfl) (fun _ _ => rfl)
theorem i_vc_type {k : Nat} {u : SX} {v : SY} (I : i_Rel k u v) (hk : k + 4 ≤ 2048) (v1 : Int32) : wpX_type (fun r u' => wpY_type (fun r' v' => r' = r ∧ i_Rel (k + 4) u' v') v (lw_u16 v1)) u (lw_u16 v1) := by
  obtain ⟨L, pl, pd, pa, pb, ia, ib, pt, l, h, M, T, K, R, hL, hM, hR, hag, rfl, rfl⟩ := I
  have ev : vp_nar .char (lw_u16 v1) = lw_u16 v1 := pk_vc v1
  generalize lw_u16 v1 = c at ev ⊢
  by_cases z : L = 40
  · subst z
    unfold wpX_type wpY_type
    dsimp only
    exact br_f (by decide) (br_t rfl ⟨rfl, sr_mk hL hM hR hag⟩)
  · have n40 : ¬ nI L = 40 := fun q => z ((nI_eq (a := L) (b := 40) (by omega) (by omega)).mp q)
    have cl : (nI L).toNatClampNeg = L := pk_cl L
    unfold wpX_type
    dsimp only
    refine br_t (nI_lt (b := 40) (by omega) (by decide)) (x_tc (fun ok => br_f (by decide) ⟨pk_in L 40 (by omega), nm_r (by rw [cl, ev]) (nm_r (nI_1 L) ?_)⟩) (fun ok => br_t rfl ?_))
    · exact y_ty n40 (fun _ => ⟨pk_in L 40 (by omega), nm_r (by rw [cl]) (nm_r (nI_1 L) ⟨rfl, sr_mk (by omega) hM hR hag⟩)⟩) (fun q => absurd ok q)
    · exact y_ty n40 (fun q => absurd q ok) (fun _ => ⟨rfl, sr_mk hL hM hR hag⟩)
theorem i_vc_wipe {k : Nat} {u : SX} {v : SY} (I : i_Rel k u v) (hk : k + 4 ≤ 2048) : wpX_wipe (fun r u' => wpY_wipe (fun r' v' => r' = r ∧ i_Rel (k + 4) u' v') v) u := by
  obtain ⟨L, pl, pd, pa, pb, ia, ib, pt, l, h, M, T, K, R, hL, hM, hR, hag, rfl, rfl⟩ := I
  unfold wpX_wipe wpY_wipe
  dsimp only
  exact ⟨rfl, sr_mk (L := 0) (by omega) hM hR hag⟩
theorem i_vc_read {k : Nat} {u : SX} {v : SY} (I : i_Rel k u v) (hk : k + 4 ≤ 2048) (v1 : Int32) : wpX_read (fun r u' => wpY_read (fun r' v' => r' = r ∧ i_Rel (k + 4) u' v') v v1) u v1 := by
  obtain ⟨L, pl, pd, pa, pb, ia, ib, pt, l, h, M, T, K, R, hL, hM, hR, hag, rfl, rfl⟩ := I
  unfold wpX_read wpY_read
  dsimp only
  rcases sr_rng v1 with hb | ⟨s, hs, rfl⟩
  · exact x_r0 hb (br_t rfl (y_r0 hb (br_t rfl ⟨rfl, sr_mk hL hM hR hag⟩)))
  · obtain ⟨z, M', R', k1, k2, k3, k4, kX, kY⟩ := sr_text T K hL hM hR
    have ag' : sr_ag K M' := fun j hj => (hag j hj).trans (k3 j hj).symm
    refine x_r1 hs (br_f (by decide) (kX _ _ _ _ _ _ _ (fun a b c d e f => ?_)))
    rcases k4 with rfl | ⟨rfl, k5, k6⟩
    · exact br_t rfl (y_r1 hs (br_f (by decide) (kY _ _ _ _ (fun a b c => br_t rfl ⟨rfl, sr_mk hL k1 k2 ag'⟩))))
    · have cX : ∀ v, v < 1000 → sr_fill M' (s * 1000) (fun v => M' (4000 + v)) 1000 (s * 1000 + v) = R' v := fun v hv => (sr_fill_in hv).trans (k5 v hv)
      have cY : ∀ v, v < 1000 → sr_fill K (s * 1000) R' 1000 (s * 1000 + v) = R' v := fun v hv => sr_fill_in hv
      refine br_f (by decide) (x_keep hs k1 (f := R') k5 (fun _ => x_count (Nat.le_of_lt hs) (f := R') cX ?_) (fun q => absurd k6 q))
      exact y_r1 hs (br_f (by decide) (kY _ _ _ _ (fun a b c => br_f (by decide) (y_keep hs k2 (y_count hs (f := R') cY ⟨rfl, sr_mk (L := 0) (by omega) (sr_fill_B k1 (fun v _ => k1 _)) k2 (sr_ag_fill ag' hs (fun v hv => (k5 v hv).symm))⟩)))))
theorem i_vc_meet {k : Nat} {u : SX} {v : SY} (I : i_Rel k u v) (hk : k + 4 ≤ 2048) (v1 : Int32) (v2 : Int32) (v3 : Int32) : wpX_meet (fun r u' => wpY_meet (fun r' v' => r' = r ∧ i_Rel (k + 4) u' v') v v1 v2 v3) u v1 v2 v3 := by
  obtain ⟨L, pl, pd, pa, pb, ia, ib, pt, l, h, M, T, K, R, hL, hM, hR, hag, rfl, rfl⟩ := I
  unfold wpX_meet wpY_meet
  dsimp only
  rcases sr_rng v1 with h1 | ⟨s, h1, rfl⟩
  · exact x_r0 h1 (br_t rfl (y_r0 h1 (br_t rfl ⟨rfl, sr_mk hL hM hR hag⟩)))
  rcases sr_rng v2 with h2 | ⟨a, h2, rfl⟩
  · exact x_r1 h1 (br_f (by decide) (x_r0 h2 (br_t rfl (y_r1 h1 (br_f (by decide) (y_r0 h2 (br_t rfl ⟨rfl, sr_mk hL hM hR hag⟩)))))))
  rcases sr_rng v3 with h3 | ⟨b, h3, rfl⟩
  · exact x_r1 h1 (br_f (by decide) (x_r1 h2 (br_f (by decide) (x_r0 h3 (br_t rfl (y_r1 h1 (br_f (by decide) (y_r1 h2 (br_f (by decide) (y_r0 h3 (br_t rfl ⟨rfl, sr_mk hL hM hR hag⟩)))))))))))
  have gB := sr_and_B (fun v => M (a * 1000 + v)) (fun v => M (b * 1000 + v))
  have rB : sr_B (sr_fill R 0 (sr_and (fun v => M (a * 1000 + v)) (fun v => M (b * 1000 + v))) 1000) := sr_fill_B hR (fun v _ => gB v)
  have hf : ∀ v, v < 1000 → K (a * 1000 + v) = M (a * 1000 + v) := fun v hv => hag _ (by omega)
  have hg : ∀ v, v < 1000 → K (b * 1000 + v) = M (b * 1000 + v) := fun v hv => hag _ (by omega)
  refine x_r1 h1 (br_f (by decide) (x_r1 h2 (br_f (by decide) (x_r1 h3 (br_f (by decide) (x_meetL (f := fun v => M (a * 1000 + v)) (g := fun v => M (b * 1000 + v)) h1 h2 h3 hM (fun _ _ => rfl) (fun _ _ => rfl) (fun st => ?_) (fun st => ?_)))))))
  · exact y_r1 h1 (br_f (by decide) (y_r1 h2 (br_f (by decide) (y_r1 h3 (br_f (by decide) (y_meetL h1 h2 h3 hR hf hg (fun _ => ⟨rfl, sr_mk hL (sr_new_B hM gB) rB (sr_ag_new hag h1)⟩) (fun q => absurd st q)))))))
  · exact y_r1 h1 (br_f (by decide) (y_r1 h2 (br_f (by decide) (y_r1 h3 (br_f (by decide) (y_meetL h1 h2 h3 hR hf hg (fun q => absurd q st) (fun _ => ⟨rfl, sr_mk hL (sr_fill_B hM (fun v _ => gB v)) rB (sr_ag_R hag)⟩)))))))
theorem i_vc_join {k : Nat} {u : SX} {v : SY} (I : i_Rel k u v) (hk : k + 4 ≤ 2048) (v1 : Int32) (v2 : Int32) (v3 : Int32) : wpX_join (fun r u' => wpY_join (fun r' v' => r' = r ∧ i_Rel (k + 4) u' v') v v1 v2 v3) u v1 v2 v3 := by
  obtain ⟨L, pl, pd, pa, pb, ia, ib, pt, l, h, M, T, K, R, hL, hM, hR, hag, rfl, rfl⟩ := I
  unfold wpX_join wpY_join
  dsimp only
  rcases sr_rng v1 with h1 | ⟨s, h1, rfl⟩
  · exact x_r0 h1 (br_t rfl (y_r0 h1 (br_t rfl ⟨rfl, sr_mk hL hM hR hag⟩)))
  rcases sr_rng v2 with h2 | ⟨a, h2, rfl⟩
  · exact x_r1 h1 (br_f (by decide) (x_r0 h2 (br_t rfl (y_r1 h1 (br_f (by decide) (y_r0 h2 (br_t rfl ⟨rfl, sr_mk hL hM hR hag⟩)))))))
  rcases sr_rng v3 with h3 | ⟨b, h3, rfl⟩
  · exact x_r1 h1 (br_f (by decide) (x_r1 h2 (br_f (by decide) (x_r0 h3 (br_t rfl (y_r1 h1 (br_f (by decide) (y_r1 h2 (br_f (by decide) (y_r0 h3 (br_t rfl ⟨rfl, sr_mk hL hM hR hag⟩)))))))))))
  have gB := sr_or_B (fun v => M (a * 1000 + v)) (fun v => M (b * 1000 + v))
  have rB : sr_B (sr_fill R 0 (sr_or (fun v => M (a * 1000 + v)) (fun v => M (b * 1000 + v))) 1000) := sr_fill_B hR (fun v _ => gB v)
  have hf : ∀ v, v < 1000 → K (a * 1000 + v) = M (a * 1000 + v) := fun v hv => hag _ (by omega)
  have hg : ∀ v, v < 1000 → K (b * 1000 + v) = M (b * 1000 + v) := fun v hv => hag _ (by omega)
  refine x_r1 h1 (br_f (by decide) (x_r1 h2 (br_f (by decide) (x_r1 h3 (br_f (by decide) (x_joinL (f := fun v => M (a * 1000 + v)) (g := fun v => M (b * 1000 + v)) h1 h2 h3 hM (fun _ _ => rfl) (fun _ _ => rfl) (fun st => ?_) (fun st => ?_)))))))
  · exact y_r1 h1 (br_f (by decide) (y_r1 h2 (br_f (by decide) (y_r1 h3 (br_f (by decide) (y_joinL h1 h2 h3 hR hf hg (fun _ => ⟨rfl, sr_mk hL (sr_new_B hM gB) rB (sr_ag_new hag h1)⟩) (fun q => absurd st q)))))))
  · exact y_r1 h1 (br_f (by decide) (y_r1 h2 (br_f (by decide) (y_r1 h3 (br_f (by decide) (y_joinL h1 h2 h3 hR hf hg (fun q => absurd q st) (fun _ => ⟨rfl, sr_mk hL (sr_fill_B hM (fun v _ => gB v)) rB (sr_ag_R hag)⟩)))))))
theorem i_vc_invert {k : Nat} {u : SX} {v : SY} (I : i_Rel k u v) (hk : k + 4 ≤ 2048) (v1 : Int32) (v2 : Int32) : wpX_invert (fun r u' => wpY_invert (fun r' v' => r' = r ∧ i_Rel (k + 4) u' v') v v1 v2) u v1 v2 := by
  obtain ⟨L, pl, pd, pa, pb, ia, ib, pt, l, h, M, T, K, R, hL, hM, hR, hag, rfl, rfl⟩ := I
  unfold wpX_invert wpY_invert
  dsimp only
  rcases sr_rng v1 with h1 | ⟨s, h1, rfl⟩
  · exact x_r0 h1 (br_t rfl (y_r0 h1 (br_t rfl ⟨rfl, sr_mk hL hM hR hag⟩)))
  rcases sr_rng v2 with h2 | ⟨a, h2, rfl⟩
  · exact x_r1 h1 (br_f (by decide) (x_r0 h2 (br_t rfl (y_r1 h1 (br_f (by decide) (y_r0 h2 (br_t rfl ⟨rfl, sr_mk hL hM hR hag⟩)))))))
  have gB := sr_not_B (fun v => M (a * 1000 + v))
  have rB : sr_B (sr_fill R 0 (sr_not (fun v => M (a * 1000 + v))) 1000) := sr_fill_B hR (fun v _ => gB v)
  have hf : ∀ v, v < 1000 → K (a * 1000 + v) = M (a * 1000 + v) := fun v hv => hag _ (by omega)
  refine x_r1 h1 (br_f (by decide) (x_r1 h2 (br_f (by decide) (x_invL (f := fun v => M (a * 1000 + v)) h1 h2 hM (fun _ _ => rfl) (fun st => ?_) (fun st => ?_)))))
  · exact y_r1 h1 (br_f (by decide) (y_r1 h2 (br_f (by decide) (y_invL h1 h2 hR hf (fun _ => ⟨rfl, sr_mk hL (sr_new_B hM gB) rB (sr_ag_new hag h1)⟩) (fun q => absurd st q)))))
  · exact y_r1 h1 (br_f (by decide) (y_r1 h2 (br_f (by decide) (y_invL h1 h2 hR hf (fun q => absurd q st) (fun _ => ⟨rfl, sr_mk hL (sr_fill_B hM (fun v _ => gB v)) rB (sr_ag_R hag)⟩)))))
theorem i_vc_has {k : Nat} {u : SX} {v : SY} (I : i_Rel k u v) (hk : k + 4 ≤ 2048) (v1 : Int32) (v2 : Int32) : wpX_has (fun r => wpY_has (fun r' => r' = r ∧ i_Rel (k + 4) u v) v v1 v2) u v1 v2 := by
  obtain ⟨L, pl, pd, pa, pb, ia, ib, pt, l, h, M, T, K, R, hL, hM, hR, hag, rfl, rfl⟩ := I
  have rel : i_Rel (k + 4) (nI L, pl, pd, pa, pb, ia, ib, M, T) (nI L, pt, l, h, T, K, R) := sr_mk hL hM hR hag
  unfold wpX_has wpY_has
  dsimp only
  rcases sr_rng v1 with h1 | ⟨s, h1, rfl⟩
  · exact x_r0 h1 (br_t rfl (y_r0 h1 (br_t rfl ⟨rfl, rel⟩)))
  rcases pk_ix v2 (n := 1000) (by decide) with h2 | h2 | ⟨j, h2, rfl⟩
  · exact x_r1 h1 (br_f (by decide) (br_t h2 (y_r1 h1 (br_f (by decide) (br_t h2 ⟨rfl, rel⟩)))))
  · have p0 : ¬ v2 < 0 := Int32.not_lt.mpr (sr_big_0 h2)
    exact x_r1 h1 (br_f (by decide) (br_f p0 (br_f (sr_big_le h2) (y_r1 h1 (br_f (by decide) (br_f p0 (br_t (sr_big_lt h2) ⟨rfl, rel⟩)))))))
  · have p0 : ¬ nI j < 0 := nI_pos (by omega)
    have p1 : nI j ≤ 999 := nI_le (b := 999) (by omega) (by decide)
    have cx : (nI s * 1000 + nI j).toNatClampNeg = s * 1000 + j := pk_cl _ (sr_ixX s j)
    have cy : (1000 * nI s + nI j).toNatClampNeg = s * 1000 + j := pk_cl _ (sr_ixY s j)
    have ek : K (s * 1000 + j) = M (s * 1000 + j) := hag _ (by omega)
    rw [cx, cy, ek]
    refine x_r1 h1 (br_f (by decide) (br_f p0 (br_t p1 ⟨pk_in (s * 1000 + j) 5000 (by omega) (sr_ixX s j), sr_nb (hM _), y_r1 h1 (br_f (by decide) (br_f p0 (br_f (sr_nlt p1) ⟨pk_in (s * 1000 + j) 4000 (by omega) (sr_ixY s j), ?_⟩)))⟩)))
    rcases hM (s * 1000 + j) with e | e
    · exact br_t e ⟨e.symm, rel⟩
    · exact br_f (by rw [e]; decide) ⟨e.symm, rel⟩
theorem i_vc_count {k : Nat} {u : SX} {v : SY} (I : i_Rel k u v) (hk : k + 4 ≤ 2048) (v1 : Int32) : wpX_count (fun r => wpY_count (fun r' => r' = r ∧ i_Rel (k + 4) u v) v v1) u v1 := by
  obtain ⟨L, pl, pd, pa, pb, ia, ib, pt, l, h, M, T, K, R, hL, hM, hR, hag, rfl, rfl⟩ := I
  have rel : i_Rel (k + 4) (nI L, pl, pd, pa, pb, ia, ib, M, T) (nI L, pt, l, h, T, K, R) := sr_mk hL hM hR hag
  unfold wpX_count wpY_count
  dsimp only
  rcases sr_rng v1 with h1 | ⟨s, h1, rfl⟩
  · exact x_r0 h1 (br_t rfl (y_r0 h1 (br_t rfl ⟨rfl, rel⟩)))
  exact x_r1 h1 (br_f (by decide) (x_count (f := fun v => M (s * 1000 + v)) (Nat.le_of_lt h1) (fun _ _ => rfl) (y_r1 h1 (br_f (by decide) ⟨1001, y_cn (f := fun v => M (s * 1000 + v)) h1 (fun v hv => hag _ (by omega)) ⟨rfl, rel⟩ 1000 0 rfl⟩))))
theorem i_vc_atLeast {k : Nat} {u : SX} {v : SY} (I : i_Rel k u v) (hk : k + 4 ≤ 2048) (v1 : Int32) (v2 : Int32) : wpX_atLeast (fun r => wpY_atLeast (fun r' => r' = r ∧ i_Rel (k + 4) u v) v v1 v2) u v1 v2 := by
  obtain ⟨L, pl, pd, pa, pb, ia, ib, pt, l, h, M, T, K, R, hL, hM, hR, hag, rfl, rfl⟩ := I
  have rel : i_Rel (k + 4) (nI L, pl, pd, pa, pb, ia, ib, M, T) (nI L, pt, l, h, T, K, R) := sr_mk hL hM hR hag
  unfold wpX_atLeast wpY_atLeast
  dsimp only
  rcases sr_rng v1 with h1 | ⟨s, h1, rfl⟩
  · exact x_r0 h1 (br_t rfl (y_r0 h1 (br_t rfl ⟨rfl, rel⟩)))
  have hf : ∀ v, v < 1000 → K (s * 1000 + v) = M (s * 1000 + v) := fun v hv => hag _ (by omega)
  refine x_r1 h1 (br_f (by decide) ?_)
  rcases pk_ix v2 (n := 1000) (by decide) with h2 | h2 | ⟨j, h2, rfl⟩
  · exact br_f (sr_neg_0 h2) ⟨1001, x_atl (f := fun v => M (s * 1000 + v)) h1 (fun _ _ => rfl) 1000 0 rfl (y_r1 h1 (br_f (by decide) ⟨1001, y_atl (f := fun v => M (s * 1000 + v)) h1 hf 1000 0 rfl (fun v _ hv => sr_neg_f h2 hv) ⟨rfl, rel⟩⟩))⟩
  · exact br_t (sr_big_0 h2) ⟨1, br_t h2 (y_r1 h1 (br_f (by decide) ⟨1 + 1000, y_atl_s (n := 1) (j := 1000) h1 (Nat.le_refl _) (fun v hv => sr_big_n h2 hv) (br_t sr_1000e ⟨rfl, rel⟩) 1000 0 rfl⟩))⟩
  · exact br_t (nI_pos' (by omega)) ⟨1000 - j + 1, x_atl (f := fun v => M (s * 1000 + v)) h1 (fun _ _ => rfl) (1000 - j) j (by omega) (y_r1 h1 (br_f (by decide) ⟨1000 - j + 1 + j, y_atl_s (j := j) h1 (by omega) (fun v hv => nI_lt hv (by omega)) (y_atl (f := fun v => M (s * 1000 + v)) h1 hf (1000 - j) j (by omega) (fun v h3 h4 => nI_nlt h3 (by omega)) ⟨rfl, rel⟩) j 0 (by omega)⟩))⟩
theorem i_vc_atMost {k : Nat} {u : SX} {v : SY} (I : i_Rel k u v) (hk : k + 4 ≤ 2048) (v1 : Int32) (v2 : Int32) : wpX_atMost (fun r => wpY_atMost (fun r' => r' = r ∧ i_Rel (k + 4) u v) v v1 v2) u v1 v2 := by
  obtain ⟨L, pl, pd, pa, pb, ia, ib, pt, l, h, M, T, K, R, hL, hM, hR, hag, rfl, rfl⟩ := I
  have rel : i_Rel (k + 4) (nI L, pl, pd, pa, pb, ia, ib, M, T) (nI L, pt, l, h, T, K, R) := sr_mk hL hM hR hag
  unfold wpX_atMost wpY_atMost
  dsimp only
  rcases sr_rng v1 with h1 | ⟨s, h1, rfl⟩
  · exact x_r0 h1 (br_t rfl (y_r0 h1 (br_t rfl ⟨rfl, rel⟩)))
  have hf : ∀ v, v < 1000 → K (s * 1000 + v) = M (s * 1000 + v) := fun v hv => hag _ (by omega)
  refine x_r1 h1 (br_f (by decide) ?_)
  rw [sr_999]
  rcases pk_ix v2 (n := 1000) (by decide) with h2 | h2 | ⟨j, h2, rfl⟩
  · have q := y_atm_s (post := fun r' => r' = (-3 : Int32) ∧ i_Rel (k + 4) (nI L, pl, pd, pa, pb, ia, ib, M, T) (nI L, pt, l, h, T, K, R)) (n := 1) (j := 0) (tl := nI L) (pt := pt) (lo := l) (hi := h) (T := T) (K := K) (R := R) h1 (fun v _ hv => sr_neg_n h2 hv) (br_t (by decide) ⟨rfl, rel⟩) 1000 (by omega)
    rw [Nat.zero_add] at q
    exact br_t (by rw [← sr_999]; exact sr_neg_le h2) ⟨1, br_t h2 (y_r1 h1 (br_f (by decide) ⟨1 + 1000, q⟩))⟩
  · exact br_f (by rw [← sr_999]; exact sr_big_le h2) ⟨1001, x_atm (f := fun v => M (s * 1000 + v)) h1 (fun _ _ => rfl) 1000 (Nat.le_refl _) (y_r1 h1 (br_f (by decide) ⟨1001, y_atm (f := fun v => M (s * 1000 + v)) h1 hf 1000 (Nat.le_refl _) (fun v hv => sr_big_f h2 hv) ⟨rfl, rel⟩⟩))⟩
  · have q := y_atm_s (post := fun r' => r' = sr_am (fun v => M (s * 1000 + v)) (j + 1) ∧ i_Rel (k + 4) (nI L, pl, pd, pa, pb, ia, ib, M, T) (nI L, pt, l, h, T, K, R)) (x := nI j) (j := j + 1) (tl := nI L) (pt := pt) (lo := l) (hi := h) (T := T) (K := K) (R := R) h1 (fun v h3 h4 => nI_lt (by omega) (by omega)) (y_atm (f := fun v => M (s * 1000 + v)) h1 hf (j + 1) (by omega) (fun v hv => nI_nlt (by omega) (by omega)) ⟨rfl, rel⟩) (999 - j) (by omega)
    rw [show j + 1 + (999 - j) = 1000 from by omega] at q
    have p := x_atm (post := fun r => wpY_isRange (fun r_1 => (r_1 = 0 → (-1 : Int32) = r ∧ i_Rel (k + 4) (nI L, pl, pd, pa, pb, ia, ib, M, T) (nI L, pt, l, h, T, K, R)) ∧ (¬ r_1 = 0 → ∃ n14, wY_atMost_14 (fun r' => r' = r ∧ i_Rel (k + 4) (nI L, pl, pd, pa, pb, ia, ib, M, T) (nI L, pt, l, h, T, K, R)) (nI s) (nI j) (nI L) pt l h T K R n14 (nI 1000 - 1))) (nI L, pt, l, h, T, K, R) (nI s)) (f := fun v => M (s * 1000 + v)) (tl := nI L) (pl := pl) (pd := pd) (pa := pa) (pb := pb) (ia := ia) (ib := ib) (T := T) h1 (fun _ _ => rfl) (j + 1) (by omega) (y_r1 h1 (br_f (by decide) ⟨_, q⟩))
    rw [nI_pred j] at p
    exact br_t ((sr_v_le (by omega) (by omega)).mpr (by omega)) ⟨_, p⟩
theorem i_vc_stretches {k : Nat} {u : SX} {v : SY} (I : i_Rel k u v) (hk : k + 4 ≤ 2048) (v1 : Int32) : wpX_stretches (fun r => wpY_stretches (fun r' v' => r' = r ∧ i_Rel (k + 4) u v') v v1) u v1 := by
  obtain ⟨L, pl, pd, pa, pb, ia, ib, pt, l, h, M, T, K, R, hL, hM, hR, hag, rfl, rfl⟩ := I
  unfold wpX_stretches wpY_stretches
  dsimp only
  rcases sr_rng v1 with h1 | ⟨s, h1, rfl⟩
  · exact x_r0 h1 (br_t rfl (y_r0 h1 (br_t rfl ⟨rfl, sr_mk hL hM hR hag⟩)))
  have hf : ∀ v, v < 1000 → K (s * 1000 + v) = M (s * 1000 + v) := fun v hv => hag _ (by omega)
  exact x_r1 h1 (br_f (by decide) (x_st (f := fun v => M (s * 1000 + v)) (Nat.le_of_lt h1) (fun _ _ => rfl) (y_r1 h1 (br_f (by decide) (y_strL (f := fun v => M (s * 1000 + v)) h1 (fun v => hM _) hf ⟨rfl, sr_mk hL hM (sr_fill_B hR (fun v _ => hM _)) hag⟩)))))
theorem i_vc_within {k : Nat} {u : SX} {v : SY} (I : i_Rel k u v) (hk : k + 4 ≤ 2048) (v1 : Int32) (v2 : Int32) : wpX_within (fun r => wpY_within (fun r' => r' = r ∧ i_Rel (k + 4) u v) v v1 v2) u v1 v2 := by
  obtain ⟨L, pl, pd, pa, pb, ia, ib, pt, l, h, M, T, K, R, hL, hM, hR, hag, rfl, rfl⟩ := I
  have rel : i_Rel (k + 4) (nI L, pl, pd, pa, pb, ia, ib, M, T) (nI L, pt, l, h, T, K, R) := sr_mk hL hM hR hag
  unfold wpX_within wpY_within
  dsimp only
  rcases sr_rng v1 with h1 | ⟨s, h1, rfl⟩
  · exact x_r0 h1 (br_t rfl (y_r0 h1 (br_t rfl ⟨rfl, rel⟩)))
  rcases sr_rng v2 with h2 | ⟨a, h2, rfl⟩
  · exact x_r1 h1 (br_f (by decide) (x_r0 h2 (br_t rfl (y_r1 h1 (br_f (by decide) (y_r0 h2 (br_t rfl ⟨rfl, rel⟩)))))))
  have hf : ∀ v, v < 1000 → K (s * 1000 + v) = M (s * 1000 + v) := fun v hv => hag _ (by omega)
  have hg : ∀ v, v < 1000 → K (a * 1000 + v) = M (a * 1000 + v) := fun v hv => hag _ (by omega)
  exact x_r1 h1 (br_f (by decide) (x_r1 h2 (br_f (by decide) ⟨1001, x_wi (f := fun v => M (s * 1000 + v)) (g := fun v => M (a * 1000 + v)) h1 h2 (fun _ _ => rfl) (fun _ _ => rfl) 1000 0 rfl (y_r1 h1 (br_f (by decide) (y_r1 h2 (br_f (by decide) ⟨1001, y_wi (f := fun v => M (s * 1000 + v)) (g := fun v => M (a * 1000 + v)) h1 h2 hf hg 1000 0 rfl ⟨rfl, rel⟩⟩))))⟩)))
