/-! an item: X's takeMark, setMarkedItem, readItem; Y's readItem and what it calls -/
def sr_MK (T : Nat → Int32) (L p : Nat) (m : Int32) (q : Nat) : Prop :=
  ∀ (post : Int32 → SX → Prop) (pd pa pb ia ib : Int32) (M : Nat → Int32), post m (nI L, nI q, pd, pa, pb, ia, ib, M, T) → wpX_takeMark post (nI L, nI p, pd, pa, pb, ia, ib, M, T)
theorem x_mk2 {T : Nat → Int32} {L p : Nat} (hL : L ≤ 40) (e : sr_ch T L p = 60) (e1 : sr_ch T L (p + 1) = 61) : sr_MK T L p 2 (p + 2) := by
  intro post pd pa pb ia ib M h
  unfold wpX_takeMark
  dsimp only
  exact x_tk1 hL e (by decide) (br_f (by decide) (x_tk1 hL e1 (by decide) (br_f (by decide) h)))
theorem x_mk1 {T : Nat → Int32} {L p : Nat} (hL : L ≤ 40) (e : sr_ch T L p = 60) (e1 : ¬ sr_ch T L (p + 1) = 61) : sr_MK T L p 1 (p + 1) := by
  intro post pd pa pb ia ib M h
  have hp := sr_ch_lt e (by decide)
  unfold wpX_takeMark
  dsimp only
  exact x_tk1 hL e (by decide) (br_f (by decide) (x_tk0 hL (by omega) e1 (br_t rfl h)))
theorem x_mk4 {T : Nat → Int32} {L p : Nat} (hL : L ≤ 40) (e : sr_ch T L p = 62) (e1 : sr_ch T L (p + 1) = 61) : sr_MK T L p 4 (p + 2) := by
  intro post pd pa pb ia ib M h
  have hp := sr_ch_lt e (by decide)
  unfold wpX_takeMark
  dsimp only
  exact x_tk0 hL (by omega) (by rw [e]; decide) (br_t rfl (x_tk1 hL e (by decide) (br_f (by decide) (x_tk1 hL e1 (by decide) (br_f (by decide) h)))))
theorem x_mk3 {T : Nat → Int32} {L p : Nat} (hL : L ≤ 40) (e : sr_ch T L p = 62) (e1 : ¬ sr_ch T L (p + 1) = 61) : sr_MK T L p 3 (p + 1) := by
  intro post pd pa pb ia ib M h
  have hp := sr_ch_lt e (by decide)
  unfold wpX_takeMark
  dsimp only
  exact x_tk0 hL (by omega) (by rw [e]; decide) (br_t rfl (x_tk1 hL e (by decide) (br_f (by decide) (x_tk0 hL (by omega) e1 (br_t rfl h)))))
theorem x_mk5 {T : Nat → Int32} {L p : Nat} (hL : L ≤ 40) (e : sr_ch T L p = 94) : sr_MK T L p 5 (p + 1) := by
  intro post pd pa pb ia ib M h
  have hp := sr_ch_lt e (by decide)
  unfold wpX_takeMark
  dsimp only
  exact x_tk0 hL (by omega) (by rw [e]; decide) (br_t rfl (x_tk0 hL (by omega) (by rw [e]; decide) (br_t rfl (x_tk1 hL e (by decide) (br_f (by decide) h)))))
theorem x_mk6 {T : Nat → Int32} {L p : Nat} (hL : L ≤ 40) (e : sr_ch T L p = 126) : sr_MK T L p 6 (p + 1) := by
  intro post pd pa pb ia ib M h
  have hp := sr_ch_lt e (by decide)
  unfold wpX_takeMark
  dsimp only
  exact x_tk0 hL (by omega) (by rw [e]; decide) (br_t rfl (x_tk0 hL (by omega) (by rw [e]; decide) (br_t rfl (x_tk0 hL (by omega) (by rw [e]; decide) (br_t rfl (x_tk1 hL e (by decide) (br_f (by decide) h)))))))
theorem x_mk0 {T : Nat → Int32} {L p : Nat} (hL : L ≤ 40) (hp : p ≤ 90) (e1 : ¬ sr_ch T L p = 60) (e2 : ¬ sr_ch T L p = 62) (e3 : ¬ sr_ch T L p = 94) (e4 : ¬ sr_ch T L p = 126) : sr_MK T L p 0 p := by
  intro post pd pa pb ia ib M h
  unfold wpX_takeMark
  dsimp only
  exact x_tk0 hL (by omega) e1 (br_t rfl (x_tk0 hL (by omega) e2 (br_t rfl (x_tk0 hL (by omega) e3 (br_t rfl (x_tk0 hL (by omega) e4 (br_t rfl h)))))))
/-! what an item's high end is for "^" and "~" -/
def sr_car (lo n : Nat) : Nat := if 100 ≤ lo ∨ n = 1 then lo / 100 * 100 + 99 else if 10 ≤ lo ∨ n = 2 then lo / 10 * 10 + 9 else lo
def sr_til (lo n : Nat) : Nat := if n = 1 then lo / 100 * 100 + 99 else lo / 10 * 10 + 9
theorem sr_car_le {lo n : Nat} (h : lo ≤ 999) : sr_car lo n ≤ 999 := by
  unfold sr_car
  split
  · omega
  · split
    · omega
    · omega
theorem sr_til_le {lo n : Nat} (h : lo ≤ 999) : sr_til lo n ≤ 999 := by
  unfold sr_til
  split
  · omega
  · omega
theorem x_maj {post : Int32 → Prop} {v : Nat} (hv : v ≤ 999) (h : post (nI (v / 100 * 100 + 99))) : wpX_lastOfMajor post (nI v) := ⟨by decide, by rw [sr_maj (by omega)]; exact h⟩
theorem x_min {post : Int32 → Prop} {v : Nat} (hv : v ≤ 999) (h : post (nI (v / 10 * 10 + 9))) : wpX_lastOfMinor post (nI v) := ⟨by decide, by rw [sr_min (by omega)]; exact h⟩
theorem sr_n1 {n : Nat} (hn : n ≤ 3) (h : ¬ n = 1) : ¬ nI n = 1 := fun q => h ((nI_eq (a := n) (b := 1) (by omega) (by omega)).mp q)
theorem sr_n2 {n : Nat} (hn : n ≤ 3) (h : ¬ n = 2) : ¬ nI n = 2 := fun q => h ((nI_eq (a := n) (b := 2) (by omega) (by omega)).mp q)
theorem x_c27 {post : Int32 → Prop} {tl pl pd pb ia ib : Int32} {M T : Nat → Int32} {v : Nat} (hv : v ≤ 999) (h : post (nI (v / 100 * 100 + 99))) : wX_caretHigh_27 post tl pl pd (nI v) pb ia ib M T := by
  unfold wX_caretHigh_27
  exact x_maj hv h
theorem x_c62 {post : Int32 → Prop} {tl pl pd pb ia ib : Int32} {M T : Nat → Int32} {v : Nat} (hv : v ≤ 999) (h : post (nI (v / 10 * 10 + 9))) : wX_caretHigh_62 post tl pl pd (nI v) pb ia ib M T := by
  unfold wX_caretHigh_62
  exact x_min hv h
theorem x_car {post : Int32 → Prop} {tl pl pb ia ib : Int32} {M T : Nat → Int32} {v n : Nat} (hv : v ≤ 999) (hn : n ≤ 3) (h : post (nI (sr_car v n))) : wpX_caretHigh post (tl, pl, nI n, nI v, pb, ia, ib, M, T) := by
  unfold sr_car at h
  by_cases a : 100 ≤ v
  · rw [if_pos (Or.inl a)] at h
    exact br_t (nI_le (a := 100) a (by omega)) (br_t rfl (x_c27 hv h))
  · refine br_f (nI_ge (b := 100) (by omega) (by decide)) (br_f (by decide) ?_)
    by_cases b : n = 1
    · rw [if_pos (Or.inr b)] at h
      exact br_t (by rw [b]; rfl) (x_c27 hv h)
    · rw [if_neg (by omega)] at h
      refine br_f (sr_n1 hn b) ?_
      by_cases c : 10 ≤ v
      · rw [if_pos (Or.inl c)] at h
        exact br_t (nI_le (a := 10) c (by omega)) (br_t rfl (x_c62 hv h))
      · refine br_f (nI_ge (b := 10) (by omega) (by decide)) (br_f (by decide) ?_)
        by_cases d : n = 2
        · rw [if_pos (Or.inr d)] at h
          exact br_t (by rw [d]; rfl) (x_c62 hv h)
        · rw [if_neg (by omega)] at h
          exact br_f (sr_n2 hn d) h
/-! setMarkedItem, by its mark -/
theorem x_77_0 {post : Int32 → SX → Prop} {tl pl n lo hi ia ib : Int32} {M T : Nat → Int32} (h : post 1 (tl, pl, n, lo, hi, lo, hi, M, T)) : wX_readItem_77 post 0 tl pl n lo hi ia ib M T := by
  unfold wX_readItem_77 wpX_setMarkedItem
  dsimp only
  exact br_t (by decide) h
theorem x_77_1 {post : Int32 → SX → Prop} {tl pl n lo hi ia ib : Int32} {M T : Nat → Int32} (h : post 1 (tl, pl, n, lo, hi, 0, lo - 1, M, T)) : wX_readItem_77 post 1 tl pl n lo hi ia ib M T := by
  unfold wX_readItem_77 wpX_setMarkedItem
  dsimp only
  exact br_f (by decide) (br_f (by decide) (br_t rfl (nm_e h)))
theorem x_77_2 {post : Int32 → SX → Prop} {tl pl n lo hi ia ib : Int32} {M T : Nat → Int32} (h : post 1 (tl, pl, n, lo, hi, 0, hi, M, T)) : wX_readItem_77 post 2 tl pl n lo hi ia ib M T := by
  unfold wX_readItem_77 wpX_setMarkedItem
  dsimp only
  exact br_f (by decide) (br_f (by decide) (br_f (by decide) (br_t rfl h)))
theorem x_77_3 {post : Int32 → SX → Prop} {tl pl n lo hi ia ib : Int32} {M T : Nat → Int32} (h : post 1 (tl, pl, n, lo, hi, hi + 1, 999, M, T)) : wX_readItem_77 post 3 tl pl n lo hi ia ib M T := by
  unfold wX_readItem_77 wpX_setMarkedItem
  dsimp only
  exact br_f (by decide) (br_f (by decide) (br_f (by decide) (br_f (by decide) (br_t rfl (nm_e h)))))
theorem x_77_4 {post : Int32 → SX → Prop} {tl pl n lo hi ia ib : Int32} {M T : Nat → Int32} (h : post 1 (tl, pl, n, lo, hi, lo, 999, M, T)) : wX_readItem_77 post 4 tl pl n lo hi ia ib M T := by
  unfold wX_readItem_77 wpX_setMarkedItem
  dsimp only
  exact br_f (by decide) (br_f (by decide) (br_f (by decide) (br_f (by decide) (br_f (by decide) (br_t rfl h)))))
theorem x_77_5 {post : Int32 → SX → Prop} {tl pl hi ia ib : Int32} {M T : Nat → Int32} {n lo : Nat} (hv : lo ≤ 999) (hn : n ≤ 3) (h : post 1 (tl, pl, nI n, nI lo, hi, nI lo, nI (sr_car lo n), M, T)) : wX_readItem_77 post 5 tl pl (nI n) (nI lo) hi ia ib M T := by
  unfold wX_readItem_77 wpX_setMarkedItem
  dsimp only
  exact br_f (by decide) (br_f (by decide) (br_f (by decide) (br_f (by decide) (br_f (by decide) (br_f (by decide) (br_t rfl (x_car hv hn h)))))))
theorem x_77_6 {post : Int32 → SX → Prop} {tl pl hi ia ib : Int32} {M T : Nat → Int32} {n lo : Nat} (hv : lo ≤ 999) (hn : n ≤ 3) (h : post 1 (tl, pl, nI n, nI lo, hi, nI lo, nI (sr_til lo n), M, T)) : wX_readItem_77 post 6 tl pl (nI n) (nI lo) hi ia ib M T := by
  unfold wX_readItem_77 wpX_setMarkedItem
  dsimp only
  refine br_f (by decide) (br_f (by decide) (br_f (by decide) (br_f (by decide) (br_f (by decide) (br_f (by decide) (br_f (by decide) (br_t rfl ?_)))))))
  unfold sr_til at h
  by_cases b : n = 1
  · rw [if_pos b] at h
    exact br_t (by rw [b]; rfl) (x_maj hv h)
  · rw [if_neg b] at h
    exact br_f (sr_n1 hn b) (x_min hv h)
/-! X's readItem -/
theorem x_riF {post : Int32 → SX → Prop} {L p q : Nat} {m pd pa pb ia ib : Int32} {M T : Nat → Int32} (hL : L ≤ 40) (hp : p ≤ 90) (h42 : ¬ sr_ch T L p = 42) (mk : sr_MK T L p m q) (pf : sr_PF T L q)
    (h : ∀ pl' pd' pa' pb' : Int32, post 0 (nI L, pl', pd', pa', pb', ia, ib, M, T)) : wpX_readItem post (nI L, nI p, pd, pa, pb, ia, ib, M, T) := by
  unfold wpX_readItem
  dsimp only
  exact x_tk0 hL (by omega) h42 (br_t rfl (mk _ _ _ _ _ _ _ (pf.1 _ _ _ _ _ _ _ (fun a b c d => br_t rfl (h a b c d)))))
theorem x_riS {post : Int32 → SX → Prop} {L p q n lo hi : Nat} {m pd pa pb ia ib : Int32} {M T : Nat → Int32} (hL : L ≤ 40) (hp : p ≤ 90) (h42 : ¬ sr_ch T L p = 42) (mk : sr_MK T L p m q) (hm : ¬ m = 0) (ps : sr_PS T L q n lo hi)
    (h : wX_readItem_77 post m (nI L) (nI (q + 2 * n - 1)) (nI n) (nI lo) (nI hi) ia ib M T) : wpX_readItem post (nI L, nI p, pd, pa, pb, ia, ib, M, T) := by
  obtain ⟨-, -, -, -, -, -, pX, -⟩ := ps
  unfold wpX_readItem
  dsimp only
  exact x_tk0 hL (by omega) h42 (br_t rfl (mk _ _ _ _ _ _ _ (pX _ _ _ _ _ _ _ (br_f (by decide) (br_f hm h)))))
theorem x_ri0 {post : Int32 → SX → Prop} {L p q n lo hi : Nat} {pd pa pb ia ib : Int32} {M T : Nat → Int32} (hL : L ≤ 40) (hp : p ≤ 90) (h42 : ¬ sr_ch T L p = 42) (mk : sr_MK T L p 0 q) (ps : sr_PS T L q n lo hi) (e : ¬ sr_ch T L (q + 2 * n - 1) = 45)
    (h : wX_readItem_77 post 0 (nI L) (nI (q + 2 * n - 1)) (nI n) (nI lo) (nI hi) ia ib M T) : wpX_readItem post (nI L, nI p, pd, pa, pb, ia, ib, M, T) := by
  obtain ⟨-, -, w, -, -, -, pX, -⟩ := ps
  unfold wpX_readItem
  dsimp only
  exact x_tk0 hL (by omega) h42 (br_t rfl (mk _ _ _ _ _ _ _ (pX _ _ _ _ _ _ _ (br_f (by decide) (br_t rfl (x_tk0 hL (by omega) e (br_t rfl h)))))))
theorem x_riDF {post : Int32 → SX → Prop} {L p q n lo hi : Nat} {pd pa pb ia ib : Int32} {M T : Nat → Int32} (hL : L ≤ 40) (hp : p ≤ 90) (h42 : ¬ sr_ch T L p = 42) (mk : sr_MK T L p 0 q) (ps : sr_PS T L q n lo hi) (e : sr_ch T L (q + 2 * n - 1) = 45) (pf : sr_PF T L (q + 2 * n - 1 + 1))
    (h : ∀ pl' pd' pa' pb' ia' : Int32, post 0 (nI L, pl', pd', pa', pb', ia', ib, M, T)) : wpX_readItem post (nI L, nI p, pd, pa, pb, ia, ib, M, T) := by
  obtain ⟨-, -, w, -, -, -, pX, -⟩ := ps
  unfold wpX_readItem
  dsimp only
  exact x_tk0 hL (by omega) h42 (br_t rfl (mk _ _ _ _ _ _ _ (pX _ _ _ _ _ _ _ (br_f (by decide) (br_t rfl (x_tk1 hL e (by decide) (br_f (by decide) (pf.1 _ _ _ _ _ _ _ (fun a b c d => br_t rfl (h a b c d _))))))))))
theorem x_riDS {post : Int32 → SX → Prop} {L p q n lo hi n2 lo2 hi2 : Nat} {pd pa pb ia ib : Int32} {M T : Nat → Int32} (hL : L ≤ 40) (hp : p ≤ 90) (h42 : ¬ sr_ch T L p = 42) (mk : sr_MK T L p 0 q) (ps : sr_PS T L q n lo hi) (e : sr_ch T L (q + 2 * n - 1) = 45) (ps2 : sr_PS T L (q + 2 * n - 1 + 1) n2 lo2 hi2)
    (h : post 1 (nI L, nI (q + 2 * n - 1 + 1 + 2 * n2 - 1), nI n2, nI lo2, nI hi2, nI lo, nI hi2, M, T)) : wpX_readItem post (nI L, nI p, pd, pa, pb, ia, ib, M, T) := by
  obtain ⟨-, -, w, -, -, -, pX, -⟩ := ps
  obtain ⟨-, -, -, -, -, -, pX2, -⟩ := ps2
  unfold wpX_readItem
  dsimp only
  exact x_tk0 hL (by omega) h42 (br_t rfl (mk _ _ _ _ _ _ _ (pX _ _ _ _ _ _ _ (br_f (by decide) (br_t rfl (x_tk1 hL e (by decide) (br_f (by decide) (pX2 _ _ _ _ _ _ _ (br_f (by decide) h)))))))))
theorem x_riA {post : Int32 → SX → Prop} {L p : Nat} {pd pa pb ia ib : Int32} {M T : Nat → Int32} (hL : L ≤ 40) (e : sr_ch T L p = 42)
    (h : post 1 (nI L, nI (p + 1), pd, pa, pb, 0, 999, M, T)) : wpX_readItem post (nI L, nI p, pd, pa, pb, ia, ib, M, T) := by
  unfold wpX_readItem
  dsimp only
  exact x_tk1 hL e (by decide) (br_f (by decide) h)
