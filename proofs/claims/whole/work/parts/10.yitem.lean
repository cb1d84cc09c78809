/-! Y's readItem, and an item on both sides -/
theorem sr_n0 {n : Nat} (h1 : 1 ≤ n) (hn : n ≤ 3) : ¬ nI n = 0 := nI_ne0 (by omega) (by omega)
theorem sr_nx {q n : Nat} (h1 : 1 ≤ n) : nI q + 2 * nI n - 1 = nI (q + 2 * n - 1) := by
  have e : 2 * nI n = nI (2 * n) := pk_mul 2 n
  rw [e, nI_add]
  exact pk_sub (a := q + 2 * n) (b := 1) (by omega)
theorem y_car {post : SY → Prop} {L q n lo hi : Nat} {pt l h : Int32} {T K R : Nat → Int32} (ps : sr_PS T L q n lo hi)
    (w : post (nI L, pt, nI lo, nI (sr_car lo n), T, K, R)) : wpY_readCaret post (nI L, pt, l, h, T, K, R) (nI q) (nI n) := by
  obtain ⟨h1, hn, -, h2, h3, -, -, -, pL, -⟩ := ps
  have hv : lo < 1000 := by omega
  unfold wpY_readCaret
  dsimp only
  refine pL _ _ _ _ _ _ ?_
  unfold sr_car at w
  by_cases a : 100 ≤ lo
  · rw [if_pos (Or.inl a)] at w
    exact br_t (nI_le (a := 100) a (by omega)) ⟨by decide, nm_r (sr_majY hv) w⟩
  · refine br_f (nI_ge (b := 100) (by omega) (by decide)) ?_
    by_cases b : n = 1
    · rw [if_pos (Or.inr b)] at w
      exact br_t (by rw [b]; rfl) ⟨by decide, nm_r (sr_majY hv) w⟩
    · rw [if_neg (by omega)] at w
      refine br_f (sr_n1 hn b) ?_
      by_cases c : 10 ≤ lo
      · rw [if_pos (Or.inl c)] at w
        exact br_t (nI_le (a := 10) c (by omega)) ⟨by decide, nm_r (sr_minY hv) w⟩
      · refine br_f (nI_ge (b := 10) (by omega) (by decide)) ?_
        by_cases d : n = 2
        · rw [if_pos (Or.inr d)] at w
          exact br_t (by rw [d]; rfl) ⟨by decide, nm_r (sr_minY hv) w⟩
        · rw [if_neg (by omega)] at w
          exact br_f (sr_n2 hn d) w
theorem y_til {post : SY → Prop} {L q n lo hi : Nat} {pt l h : Int32} {T K R : Nat → Int32} (ps : sr_PS T L q n lo hi)
    (w : post (nI L, pt, nI lo, nI (sr_til lo n), T, K, R)) : wpY_readTilde post (nI L, pt, l, h, T, K, R) (nI q) (nI n) := by
  obtain ⟨h1, hn, -, h2, h3, h4, -, -, pL, -⟩ := ps
  have hv : lo < 1000 := by omega
  unfold wpY_readTilde
  dsimp only
  refine pL _ _ _ _ _ _ ?_
  unfold sr_til at w
  by_cases b : n = 1
  · rw [if_pos b] at w
    have e : nI lo + 99 = nI (lo / 100 * 100 + 99) := by
      have e1 : nI lo + 99 = nI (lo + 99) := nI_add _ 99
      have e2 := (h4 b).1
      rw [e1]
      exact congrArg nI (by omega)
    exact br_t (by rw [b]; rfl) (nm_r e w)
  · rw [if_neg b] at w
    exact br_f (sr_n1 hn b) ⟨by decide, nm_r (sr_minY hv) w⟩
theorem y_cm1 {post : SY → Prop} {L q n lo hi : Nat} {pt l h : Int32} {T K R : Nat → Int32} (ps : sr_PS T L q n lo hi)
    (w : post (nI L, pt, 0, nI lo - 1, T, K, R)) : wpY_readCompare post (nI L, pt, l, h, T, K, R) 60 0 (nI q) (nI n) := by
  obtain ⟨-, -, -, -, -, -, -, -, pL, pH⟩ := ps
  unfold wpY_readCompare
  dsimp only
  exact br_t rfl (br_t rfl (pL _ _ _ _ _ _ (nm_e w)))
theorem y_cm2 {post : SY → Prop} {L q n lo hi : Nat} {pt l h : Int32} {T K R : Nat → Int32} (ps : sr_PS T L q n lo hi)
    (w : post (nI L, pt, 0, nI hi, T, K, R)) : wpY_readCompare post (nI L, pt, l, h, T, K, R) 60 1 (nI q) (nI n) := by
  obtain ⟨-, -, -, -, -, -, -, -, pL, pH⟩ := ps
  unfold wpY_readCompare
  dsimp only
  exact br_t rfl (br_f (by decide) (pH _ _ _ _ _ _ w))
theorem y_cm3 {post : SY → Prop} {L q n lo hi : Nat} {pt l h : Int32} {T K R : Nat → Int32} (ps : sr_PS T L q n lo hi)
    (w : post (nI L, pt, nI hi + 1, 999, T, K, R)) : wpY_readCompare post (nI L, pt, l, h, T, K, R) 62 0 (nI q) (nI n) := by
  obtain ⟨-, -, -, -, -, -, -, -, pL, pH⟩ := ps
  unfold wpY_readCompare
  dsimp only
  exact br_f (by decide) (br_t rfl (pH _ _ _ _ _ _ (nm_e w)))
theorem y_cm4 {post : SY → Prop} {L q n lo hi : Nat} {pt l h : Int32} {T K R : Nat → Int32} (ps : sr_PS T L q n lo hi)
    (w : post (nI L, pt, nI lo, 999, T, K, R)) : wpY_readCompare post (nI L, pt, l, h, T, K, R) 62 1 (nI q) (nI n) := by
  obtain ⟨-, -, -, -, -, -, -, -, pL, pH⟩ := ps
  unfold wpY_readCompare
  dsimp only
  exact br_f (by decide) (br_f (by decide) (pL _ _ _ _ _ _ w))
theorem y_pl0 {post : SY → Prop} {L q n lo hi : Nat} {l h : Int32} {T K R : Nat → Int32} (hL : L ≤ 40) (ps : sr_PS T L q n lo hi) (e : ¬ sr_ch T L (q + 2 * n - 1) = 45)
    (w : post (nI L, nI (q + 2 * n - 1), nI lo, nI hi, T, K, R)) : wpY_readPlain post (nI L, nI (q + 2 * n - 1), l, h, T, K, R) (nI q) (nI n) := by
  obtain ⟨-, -, hq, -, -, -, -, -, pL, pH⟩ := ps
  unfold wpY_readPlain
  dsimp only
  exact pL _ _ _ _ _ _ (pH _ _ _ _ _ _ (y_ch (q + 2 * n - 1) hL (by omega) rfl (br_f e w)))
theorem y_plF {post : SY → Prop} {L q n lo hi : Nat} {l h : Int32} {T K R : Nat → Int32} (hL : L ≤ 40) (ps : sr_PS T L q n lo hi) (e : sr_ch T L (q + 2 * n - 1) = 45) (pf : sr_PF T L (q + 2 * n - 1 + 1))
    (w : ∀ l' h' : Int32, post (nI L, -1, l', h', T, K, R)) : wpY_readPlain post (nI L, nI (q + 2 * n - 1), l, h, T, K, R) (nI q) (nI n) := by
  obtain ⟨-, -, hq, -, -, -, -, -, pL, pH⟩ := ps
  unfold wpY_readPlain
  dsimp only
  exact pL _ _ _ _ _ _ (pH _ _ _ _ _ _ (y_ch (q + 2 * n - 1) hL (by omega) rfl (br_t e (nm_r (nI_1 _) (pf.2 _ _ _ _ _ _ (y_hw0 hL (by omega) (fun r => br_t rfl (w _ _))))))))
theorem y_plS {post : SY → Prop} {L q n lo hi n2 lo2 hi2 : Nat} {l h : Int32} {T K R : Nat → Int32} (hL : L ≤ 40) (ps : sr_PS T L q n lo hi) (e : sr_ch T L (q + 2 * n - 1) = 45) (ps2 : sr_PS T L (q + 2 * n - 1 + 1) n2 lo2 hi2)
    (w : post (nI L, nI (q + 2 * n - 1 + 1 + 2 * n2 - 1), nI lo, nI hi2, T, K, R)) : wpY_readPlain post (nI L, nI (q + 2 * n - 1), l, h, T, K, R) (nI q) (nI n) := by
  obtain ⟨-, -, hq, -, -, -, -, -, pL, pH⟩ := ps
  obtain ⟨h1, hn, -, -, -, -, -, pD2, -, pH2⟩ := ps2
  unfold wpY_readPlain
  dsimp only
  exact pL _ _ _ _ _ _ (pH _ _ _ _ _ _ (y_ch (q + 2 * n - 1) hL (by omega) rfl (br_t e (nm_r (nI_1 _) (pD2 _ _ _ _ _ _ (pH2 _ _ _ _ _ _ (br_f (sr_n0 h1 hn) (nm_r (sr_nx h1) w))))))))
theorem y_107F {post : SY → Prop} {L q : Nat} {x2 x3 x4 x pt l h : Int32} {T K R : Nat → Int32} (hx : x = nI q) (pf : sr_PF T L q) (w : ∀ l' h' : Int32, post (nI L, -1, l', h', T, K, R)) : wY_readItem_107 post x2 x3 x4 x (nI L) pt l h T K R := by
  subst hx
  unfold wY_readItem_107
  exact pf.2 _ _ _ _ _ _ (br_t rfl (br_t rfl (w _ _)))
theorem y_107S {post : SY → Prop} {L q n lo hi : Nat} {x2 x3 x4 x pt l h : Int32} {T K R : Nat → Int32} (hx : x = nI q) (ps : sr_PS T L q n lo hi) (w : wY_readItem_136 post x2 x3 x4 (nI q) (nI n) (nI (q + 2 * n - 1)) (nI L) pt l h T K R) : wY_readItem_107 post x2 x3 x4 x (nI L) pt l h T K R := by
  subst hx
  obtain ⟨h1, hn, -, -, -, -, -, pD, -⟩ := ps
  unfold wY_readItem_107
  refine pD _ _ _ _ _ _ (br_f (sr_n0 h1 hn) ?_)
  rw [sr_nx h1]
  exact w
def sr_YK (T : Nat → Int32) (L p : Nat) (c cmp eq : Int32) (q : Nat) : Prop :=
  ∀ (post : SY → Prop) (pt l h : Int32) (K R : Nat → Int32), wY_readItem_107 post c cmp eq (nI q) (nI L) (nI (p + 1)) 0 999 T K R → wpY_readItem post (nI L, pt, l, h, T, K, R) (nI p)
theorem sr_p2 (p : Nat) : nI p + 2 = nI (p + 2) := nI_add p 2
theorem y_k2 {T : Nat → Int32} {L p : Nat} (hL : L ≤ 40) (hp : p ≤ 90) (e : sr_ch T L p = 60) (e1 : sr_ch T L (p + 1) = 61) : sr_YK T L p 60 1 1 (p + 2) := by
  intro post pt l h K R w
  rw [← sr_p2 p] at w
  unfold wpY_readItem
  dsimp only
  refine y_ch p hL (by omega) rfl ?_
  rw [e]
  exact nm_r (nI_1 p) (br_f (by decide) (br_t rfl (br_f (by decide) (y_ch (p + 1) hL (by omega) (nI_1 p) (br_t e1 (br_f (by decide) w))))))
theorem y_k1 {T : Nat → Int32} {L p : Nat} (hL : L ≤ 40) (hp : p ≤ 90) (e : sr_ch T L p = 60) (e1 : ¬ sr_ch T L (p + 1) = 61) : sr_YK T L p 60 1 0 (p + 1) := by
  intro post pt l h K R w
  rw [← nI_1 p] at w
  unfold wpY_readItem
  dsimp only
  refine y_ch p hL (by omega) rfl ?_
  rw [e]
  exact nm_e (br_f (by decide) (br_t rfl (br_f (by decide) (y_ch (p + 1) hL (by omega) (nI_1 p) (br_f e1 (br_t rfl (br_f (by decide) w)))))))
theorem y_k4 {T : Nat → Int32} {L p : Nat} (hL : L ≤ 40) (hp : p ≤ 90) (e : sr_ch T L p = 62) (e1 : sr_ch T L (p + 1) = 61) : sr_YK T L p 62 1 1 (p + 2) := by
  intro post pt l h K R w
  rw [← sr_p2 p] at w
  unfold wpY_readItem
  dsimp only
  refine y_ch p hL (by omega) rfl ?_
  rw [e]
  exact nm_r (nI_1 p) (br_f (by decide) (br_f (by decide) (br_t rfl (br_f (by decide) (y_ch (p + 1) hL (by omega) (nI_1 p) (br_t e1 (br_f (by decide) w)))))))
theorem y_k3 {T : Nat → Int32} {L p : Nat} (hL : L ≤ 40) (hp : p ≤ 90) (e : sr_ch T L p = 62) (e1 : ¬ sr_ch T L (p + 1) = 61) : sr_YK T L p 62 1 0 (p + 1) := by
  intro post pt l h K R w
  rw [← nI_1 p] at w
  unfold wpY_readItem
  dsimp only
  refine y_ch p hL (by omega) rfl ?_
  rw [e]
  exact nm_e (br_f (by decide) (br_f (by decide) (br_t rfl (br_f (by decide) (y_ch (p + 1) hL (by omega) (nI_1 p) (br_f e1 (br_t rfl (br_f (by decide) w))))))))
theorem y_k5 {T : Nat → Int32} {L p : Nat} (hL : L ≤ 40) (hp : p ≤ 90) (e : sr_ch T L p = 94) : sr_YK T L p 94 0 0 (p + 1) := by
  intro post pt l h K R w
  rw [← nI_1 p] at w
  unfold wpY_readItem
  dsimp only
  refine y_ch p hL (by omega) rfl ?_
  rw [e]
  exact nm_e (br_f (by decide) (br_f (by decide) (br_f (by decide) (br_t rfl (br_t rfl (br_t rfl (br_t rfl w)))))))
theorem y_k6 {T : Nat → Int32} {L p : Nat} (hL : L ≤ 40) (hp : p ≤ 90) (e : sr_ch T L p = 126) : sr_YK T L p 126 0 0 (p + 1) := by
  intro post pt l h K R w
  rw [← nI_1 p] at w
  unfold wpY_readItem
  dsimp only
  refine y_ch p hL (by omega) rfl ?_
  rw [e]
  exact nm_e (br_f (by decide) (br_f (by decide) (br_f (by decide) (br_t rfl (br_t rfl (br_t rfl (br_f (by decide) (br_t rfl w))))))))
theorem y_k0 {T : Nat → Int32} {L p : Nat} (hL : L ≤ 40) (hp : p ≤ 90) (e0 : ¬ sr_ch T L p = 42) (e1 : ¬ sr_ch T L p = 60) (e2 : ¬ sr_ch T L p = 62) (e3 : ¬ sr_ch T L p = 94) (e4 : ¬ sr_ch T L p = 126) : sr_YK T L p (sr_ch T L p) 0 0 p := by
  intro post pt l h K R w
  unfold wpY_readItem
  dsimp only
  exact y_ch p hL (by omega) rfl (nm_r (nI_1 p) (br_f e0 (br_f e1 (br_f e2 (br_t rfl (br_t rfl (br_t rfl (br_f e3 (br_f e4 w)))))))))
theorem y_kA {post : SY → Prop} {L p : Nat} {pt l h : Int32} {T K R : Nat → Int32} (hL : L ≤ 40) (hp : p ≤ 90) (e : sr_ch T L p = 42) (w : post (nI L, nI (p + 1), 0, 999, T, K, R)) : wpY_readItem post (nI L, pt, l, h, T, K, R) (nI p) := by
  unfold wpY_readItem
  dsimp only
  refine y_ch p hL (by omega) rfl ?_
  rw [e]
  exact nm_r (nI_1 p) (br_t rfl w)
/-- no item stands at p -/
def sr_IF (T : Nat → Int32) (L p : Nat) : Prop :=
  (∀ (post : Int32 → SX → Prop) (pd pa pb ia ib : Int32) (M : Nat → Int32), (∀ pl' pd' pa' pb' ia' ib' : Int32, post 0 (nI L, pl', pd', pa', pb', ia', ib', M, T)) → wpX_readItem post (nI L, nI p, pd, pa, pb, ia, ib, M, T))
  ∧ (∀ (post : SY → Prop) (pt l h : Int32) (K R : Nat → Int32), (∀ l' h' : Int32, post (nI L, -1, l', h', T, K, R)) → wpY_readItem post (nI L, pt, l, h, T, K, R) (nI p))
/-- an item stands from p to q: the versions from a to b - 1 -/
def sr_IS (T : Nat → Int32) (L p q a b : Nat) : Prop := p < q ∧ q ≤ L ∧ a ≤ 1000 ∧ b ≤ 1000
  ∧ (∀ (post : Int32 → SX → Prop) (pd pa pb ia ib : Int32) (M : Nat → Int32), (∀ pd' pa' pb' : Int32, post 1 (nI L, nI q, pd', pa', pb', nI a, nI b - 1, M, T)) → wpX_readItem post (nI L, nI p, pd, pa, pb, ia, ib, M, T))
  ∧ (∀ (post : SY → Prop) (pt l h : Int32) (K R : Nat → Int32), post (nI L, nI q, nI a, nI b - 1, T, K, R) → wpY_readItem post (nI L, pt, l, h, T, K, R) (nI p))
theorem sr_marked {T : Nat → Int32} {L p q : Nat} {m c cmp eq : Int32} (hL : L ≤ 40) (hp : p ≤ 80) (hpq : p < q) (hq : q ≤ p + 2) (h42 : ¬ sr_ch T L p = 42) (hm : ¬ m = 0) (mk : sr_MK T L p m q) (yk : sr_YK T L p c cmp eq q)
    (a b : Nat → Nat → Nat → Nat) (hab : ∀ n lo hi, lo ≤ hi → hi ≤ 999 → a n lo hi ≤ 1000 ∧ b n lo hi ≤ 1000)
    (hX : ∀ n lo hi, sr_PS T L q n lo hi → ∀ (post : Int32 → SX → Prop) (ia ib : Int32) (M : Nat → Int32), post 1 (nI L, nI (q + 2 * n - 1), nI n, nI lo, nI hi, nI (a n lo hi), nI (b n lo hi) - 1, M, T) → wX_readItem_77 post m (nI L) (nI (q + 2 * n - 1)) (nI n) (nI lo) (nI hi) ia ib M T)
    (hY : ∀ n lo hi, sr_PS T L q n lo hi → ∀ (post : SY → Prop) (K R : Nat → Int32), post (nI L, nI (q + 2 * n - 1), nI (a n lo hi), nI (b n lo hi) - 1, T, K, R) → wY_readItem_136 post c cmp eq (nI q) (nI n) (nI (q + 2 * n - 1)) (nI L) (nI (p + 1)) 0 999 T K R) :
    sr_IF T L p ∨ ∃ q a b, sr_IS T L p q a b := by
  rcases sr_part T hL (p := q) (by omega) with pf | ⟨n, lo, hi, ps⟩
  · exact Or.inl ⟨fun post pd pa pb ia ib M w => x_riF hL (by omega) h42 mk pf (fun x y z t => w x y z t _ _), fun post pt l h K R w => yk _ _ _ _ _ _ (y_107F rfl pf w)⟩
  · have ps' := ps
    obtain ⟨h1, hn, h2, h3, h4, -⟩ := ps'
    obtain ⟨ha, hb⟩ := hab n lo hi h3 h4
    refine Or.inr ⟨q + 2 * n - 1, a n lo hi, b n lo hi, by omega, h2, ha, hb, fun post pd pa pb ia ib M w => x_riS hL (by omega) h42 mk hm ps (hX n lo hi ps _ _ _ _ (w _ _ _)), fun post pt l h K R w => yk _ _ _ _ _ _ (y_107S rfl ps (hY n lo hi ps _ _ _ w))⟩
theorem sr_pr (n : Nat) : nI n = nI (n + 1) - 1 := (nI_pred n).symm
theorem sr_item (T : Nat → Int32) {L p : Nat} (hL : L ≤ 40) (hp : p ≤ 60) : sr_IF T L p ∨ ∃ q a b, sr_IS T L p q a b := by
  by_cases c0 : sr_ch T L p = 42
  · have hp0 := sr_ch_lt c0 (by decide)
    exact Or.inr ⟨p + 1, 0, 1000, by omega, by omega, by omega, by omega, fun post pd pa pb ia ib M w => x_riA hL c0 (w _ _ _), fun post pt l h K R w => y_kA hL (by omega) c0 w⟩
  by_cases c1 : sr_ch T L p = 60
  · by_cases d : sr_ch T L (p + 1) = 61
    · refine sr_marked hL (by omega) (by omega) (by omega) c0 (by decide) (x_mk2 hL c1 d) (y_k2 hL (by omega) c1 d) (fun _ _ _ => 0) (fun _ _ hi => hi + 1) (fun _ _ _ _ _ => ⟨by omega, by omega⟩) ?_ ?_
      · intro n lo hi ps post ia ib M w
        rw [← sr_pr] at w
        exact x_77_2 w
      · intro n lo hi ps post K R w
        rw [← sr_pr] at w
        exact br_f (sr_n0 ps.1 ps.2.1) (br_f (by decide) (br_f (by decide) (br_f (by decide) (y_cm2 ps w))))
    · refine sr_marked hL (by omega) (by omega) (by omega) c0 (by decide) (x_mk1 hL c1 d) (y_k1 hL (by omega) c1 d) (fun _ _ _ => 0) (fun _ lo _ => lo) (fun _ _ _ _ _ => ⟨by omega, by omega⟩) ?_ ?_
      · intro n lo hi ps post ia ib M w
        exact x_77_1 w
      · intro n lo hi ps post K R w
        exact br_f (sr_n0 ps.1 ps.2.1) (br_f (by decide) (br_f (by decide) (br_f (by decide) (y_cm1 ps w))))
  by_cases c2 : sr_ch T L p = 62
  · by_cases d : sr_ch T L (p + 1) = 61
    · refine sr_marked hL (by omega) (by omega) (by omega) c0 (by decide) (x_mk4 hL c2 d) (y_k4 hL (by omega) c2 d) (fun _ lo _ => lo) (fun _ _ _ => 1000) (fun _ _ _ _ _ => ⟨by omega, by omega⟩) ?_ ?_
      · intro n lo hi ps post ia ib M w
        rw [← sr_999] at w
        exact x_77_4 w
      · intro n lo hi ps post K R w
        rw [← sr_999] at w
        exact br_f (sr_n0 ps.1 ps.2.1) (br_f (by decide) (br_f (by decide) (br_f (by decide) (y_cm4 ps w))))
    · refine sr_marked hL (by omega) (by omega) (by omega) c0 (by decide) (x_mk3 hL c2 d) (y_k3 hL (by omega) c2 d) (fun _ _ hi => hi + 1) (fun _ _ _ => 1000) (fun _ _ _ _ _ => ⟨by omega, by omega⟩) ?_ ?_
      · intro n lo hi ps post ia ib M w
        rw [← sr_999, ← nI_1] at w
        exact x_77_3 w
      · intro n lo hi ps post K R w
        rw [← sr_999, ← nI_1] at w
        exact br_f (sr_n0 ps.1 ps.2.1) (br_f (by decide) (br_f (by decide) (br_f (by decide) (y_cm3 ps w))))
  by_cases c3 : sr_ch T L p = 94
  · refine sr_marked hL (by omega) (by omega) (by omega) c0 (by decide) (x_mk5 hL c3) (y_k5 hL (by omega) c3) (fun _ lo _ => lo) (fun n lo _ => sr_car lo n + 1) (fun n lo hi h1 h2 => ⟨by omega, by have q := sr_car_le (n := n) (Nat.le_trans h1 h2); omega⟩) ?_ ?_
    · intro n lo hi ps post ia ib M w
      rw [← sr_pr] at w
      obtain ⟨h1, hn, -, h3, h4, -⟩ := ps
      exact x_77_5 (by omega) hn w
    · intro n lo hi ps post K R w
      rw [← sr_pr] at w
      exact br_f (sr_n0 ps.1 ps.2.1) (br_t rfl (y_car ps w))
  by_cases c4 : sr_ch T L p = 126
  · refine sr_marked hL (by omega) (by omega) (by omega) c0 (by decide) (x_mk6 hL c4) (y_k6 hL (by omega) c4) (fun _ lo _ => lo) (fun n lo _ => sr_til lo n + 1) (fun n lo hi h1 h2 => ⟨by omega, by have q := sr_til_le (n := n) (Nat.le_trans h1 h2); omega⟩) ?_ ?_
    · intro n lo hi ps post ia ib M w
      rw [← sr_pr] at w
      obtain ⟨h1, hn, -, h3, h4, -⟩ := ps
      exact x_77_6 (by omega) hn w
    · intro n lo hi ps post K R w
      rw [← sr_pr] at w
      exact br_f (sr_n0 ps.1 ps.2.1) (br_f (by decide) (br_t rfl (y_til ps w)))
  have mk : sr_MK T L p 0 p := x_mk0 hL (by omega) c1 c2 c3 c4
  have yk := y_k0 hL (by omega) c0 c1 c2 c3 c4
  rcases sr_part T hL (p := p) (by omega) with pf | ⟨n, lo, hi, ps⟩
  · exact Or.inl ⟨fun post pd pa pb ia ib M w => x_riF hL (by omega) c0 mk pf (fun x y z t => w x y z t _ _), fun post pt l h K R w => yk _ _ _ _ _ _ (y_107F rfl pf w)⟩
  · have ps' := ps
    obtain ⟨h1, hn, h2, h3, h4, -⟩ := ps'
    by_cases d : sr_ch T L (p + 2 * n - 1) = 45
    · have hd := sr_ch_lt d (by decide)
      rcases sr_part T hL (p := p + 2 * n - 1 + 1) (by omega) with pf2 | ⟨n2, lo2, hi2, ps2⟩
      · exact Or.inl ⟨fun post pd pa pb ia ib M w => x_riDF hL (by omega) c0 mk ps d pf2 (fun x y z t s => w x y z t s _), fun post pt l h K R w => yk _ _ _ _ _ _ (y_107S rfl ps (br_f (sr_n0 h1 hn) (br_f c3 (br_f c4 (br_t rfl (y_plF hL ps d pf2 w))))))⟩
      · have ps2' := ps2
        obtain ⟨k1, kn, k2, k3, k4, -⟩ := ps2'
        refine Or.inr ⟨p + 2 * n - 1 + 1 + 2 * n2 - 1, lo, hi2 + 1, by omega, by omega, by omega, by omega, fun post pd pa pb ia ib M w => x_riDS hL (by omega) c0 mk ps d ps2 ?_, fun post pt l h K R w => yk _ _ _ _ _ _ (y_107S rfl ps (br_f (sr_n0 h1 hn) (br_f c3 (br_f c4 (br_t rfl (y_plS hL ps d ps2 ?_))))))⟩
        · rw [sr_pr hi2]
          exact w _ _ _
        · rw [sr_pr hi2]
          exact w
    · refine Or.inr ⟨p + 2 * n - 1, lo, hi + 1, by omega, by omega, by omega, by omega, fun post pd pa pb ia ib M w => x_ri0 hL (by omega) c0 mk ps d (x_77_0 ?_), fun post pt l h K R w => yk _ _ _ _ _ _ (y_107S rfl ps (br_f (sr_n0 h1 hn) (br_f c3 (br_f c4 (br_t rfl (y_pl0 hL ps d ?_))))))⟩
      · have w' := w (nI n) (nI lo) (nI hi)
        rw [← sr_pr] at w'
        exact w'
      · rw [← sr_pr] at w
        exact w
