/-! indices, isRange, take, takeDigit, charAt, digits -/
theorem sr_ixX (s v : Nat) : nI s * 1000 + nI v = nI (s * 1000 + v) := by
  have e : nI s * 1000 = nI (s * 1000) := pk_mul s 1000
  rw [e, nI_add]
theorem sr_ixY (s v : Nat) : 1000 * nI s + nI v = nI (s * 1000 + v) := by
  have e : 1000 * nI s = nI (1000 * s) := pk_mul 1000 s
  rw [e, nI_add, Nat.mul_comm]
theorem sr_ixR (v : Nat) : 4000 + nI v = nI (4000 + v) := nI_add 4000 v
theorem x_r1 {post : Int32 → Prop} {s : Nat} (hs : s < 4) (h : post 1) : wpX_isRange post (nI s) :=
  br_f (nI_pos (by omega)) (br_f (nI_ge (b := 4) hs (by decide)) h)
theorem x_r0 {post : Int32 → Prop} {x : Int32} (hx : x < 0 ∨ nI 4 ≤ x) (h : post 0) : wpX_isRange post x :=
  br_c (fun _ => h) (fun z => br_t (hx.elim (fun y => absurd y z) id) h)
theorem y_r1 {post : Int32 → Prop} {s : Nat} {a b c d : Int32} {e f g : Nat → Int32} (hs : s < 4) (h : post 1) : wpY_isRange post (a, b, c, d, e, f, g) (nI s) :=
  br_f (nI_pos (by omega)) (br_f (nI_nlt (a := 3) (b := s) (by omega) (by decide)) h)
theorem sr_3lt {x : Int32} (h : nI 4 ≤ x) : 3 < x := by
  rw [Int32.le_iff_toInt_le] at h
  rw [Int32.lt_iff_toInt_lt]
  have e1 : (nI 4).toInt = 4 := by decide
  have e2 : (3 : Int32).toInt = 3 := by decide
  omega
theorem y_r0 {post : Int32 → Prop} {x : Int32} {a b c d : Int32} {e f g : Nat → Int32} (hx : x < 0 ∨ nI 4 ≤ x) (h : post 0) : wpY_isRange post (a, b, c, d, e, f, g) x :=
  br_c (fun _ => h) (fun z => br_t (hx.elim (fun y => absurd y z) sr_3lt) h)
theorem sr_rng (x : Int32) : (x < 0 ∨ nI 4 ≤ x) ∨ ∃ s : Nat, s < 4 ∧ x = nI s := by
  rcases pk_ix x (n := 4) (by decide) with h | h | h
  · exact Or.inl (Or.inl h)
  · exact Or.inl (Or.inr h)
  · exact Or.inr h
theorem x_tk1 {post : Int32 → SX → Prop} {L p : Nat} {pd plo phi il ih c : Int32} {M T : Nat → Int32} (hL : L ≤ 40) (e : sr_ch T L p = c) (hc : c ≠ 0)
    (h : post 1 (nI L, nI (p + 1), pd, plo, phi, il, ih, M, T)) : wpX_take post (nI L, nI p, pd, plo, phi, il, ih, M, T) c := by
  have hp : p < L := sr_ch_lt e hc
  rw [sr_ch_in hp] at e
  exact br_f (nI_ge hp (by omega)) ⟨pk_in p 40 (by omega), br_t (by rw [pk_cl p]; exact e) (nm_r (nI_1 p) h)⟩
theorem x_tk0 {post : Int32 → SX → Prop} {L p : Nat} {pd plo phi il ih c : Int32} {M T : Nat → Int32} (hL : L ≤ 40) (hp : p ≤ 100) (e : ¬ sr_ch T L p = c)
    (h : post 0 (nI L, nI p, pd, plo, phi, il, ih, M, T)) : wpX_take post (nI L, nI p, pd, plo, phi, il, ih, M, T) c := by
  by_cases z : p < L
  · rw [sr_ch_in z] at e
    exact br_f (nI_ge z (by omega)) ⟨pk_in p 40 (by omega), br_f (by rw [pk_cl p]; exact e) h⟩
  · exact br_t (nI_le (by omega) (by omega)) h
theorem sr_nlt {a b : Int32} (h : a ≤ b) : ¬ b < a := Int32.not_lt.mpr h
theorem sr_dn0 {g : Nat} (h : g ≤ 9) : nI (48 + g) ≠ 0 := fun z => sr_dig_0 (z ▸ sr_dig_n h)
theorem x_td1 {post : Int32 → SX → Prop} {L p g : Nat} {pd plo phi il ih : Int32} {M T : Nat → Int32} (hL : L ≤ 40) (e : sr_ch T L p = nI (48 + g)) (hg : g ≤ 9)
    (h : post (nI g) (nI L, nI (p + 1), pd, plo, phi, il, ih, M, T)) : wpX_takeDigit post (nI L, nI p, pd, plo, phi, il, ih, M, T) := by
  have hp : p < L := sr_ch_lt e (sr_dn0 hg)
  rw [sr_ch_in hp] at e
  have et : T (nI p).toNatClampNeg = nI (48 + g) := by rw [pk_cl p]; exact e
  have hi : vp_in (nI p) 40 := pk_in p 40 (by omega)
  exact br_f (nI_ge hp (by omega)) ⟨hi, br_f (by rw [et]; exact sr_nlt (sr_dig_n hg).1) ⟨hi, br_t (by rw [et]; exact (sr_dig_n hg).2) ⟨hi, nm_r (by rw [et]; exact sr_m48 g) (nm_r (nI_1 p) h)⟩⟩⟩
theorem x_td0 {post : Int32 → SX → Prop} {L p : Nat} {pd plo phi il ih : Int32} {M T : Nat → Int32} (hL : L ≤ 40) (hp : p ≤ 100) (e : ¬ sr_dig (sr_ch T L p))
    (h : post (-3) (nI L, nI p, pd, plo, phi, il, ih, M, T)) : wpX_takeDigit post (nI L, nI p, pd, plo, phi, il, ih, M, T) := by
  by_cases z : p < L
  · rw [sr_ch_in z] at e
    have et : T (nI p).toNatClampNeg = T p := by rw [pk_cl p]
    have hi : vp_in (nI p) 40 := pk_in p 40 (by omega)
    refine br_f (nI_ge z (by omega)) ⟨hi, ?_⟩
    rw [et]
    exact br_c (fun _ => h) (fun a => ⟨hi, br_f (fun b => e ⟨Int32.not_lt.mp a, b⟩) h⟩)
  · exact br_t (nI_le (by omega) (by omega)) h
theorem y_ch {post : Int32 → Prop} {L : Nat} (p : Nat) {x pt lo hi : Int32} {T K R : Nat → Int32} (hL : L ≤ 40) (hp : p ≤ 100) (hx : x = nI p) (h : post (sr_ch T L p)) : wpY_charAt post (nI L, pt, lo, hi, T, K, R) x := by
  subst hx
  refine br_f (nI_pos (by omega)) ?_
  by_cases z : p < L
  · rw [sr_ch_in z] at h
    refine br_f (nI_ge z (by omega)) ⟨pk_in p 40 (by omega), ?_⟩
    rw [pk_cl p]
    exact h
  · rw [sr_ch_out (by omega)] at h
    exact br_t (nI_le (by omega) (by omega)) h
theorem y_da {post : Int32 → Prop} {L : Nat} (p : Nat) {x pt lo hi : Int32} {T K R : Nat → Int32} (hL : L ≤ 40) (hp : p ≤ 100) (hx : x = nI p) (h : post (sr_ch T L p - 48)) : wpY_digitAt post (nI L, pt, lo, hi, T, K, R) x := by
  unfold wpY_digitAt
  dsimp only
  exact y_ch p hL hp hx h
theorem y_i1 {post : Int32 → Prop} {c : Int32} {a b d e : Int32} {f g k : Nat → Int32} (hc : sr_dig c) (h : post 1) : wpY_isDigit post (a, b, d, e, f, g, k) c :=
  br_f (sr_nlt hc.1) (br_f (sr_nlt hc.2) h)
theorem y_i0 {post : Int32 → Prop} {c : Int32} {a b d e : Int32} {f g k : Nat → Int32} (hc : ¬ sr_dig c) (h : post 0) : wpY_isDigit post (a, b, d, e, f, g, k) c :=
  br_c (fun _ => h) (fun z => br_c (fun _ => h) (fun y => absurd ⟨Int32.not_lt.mp z, Int32.not_lt.mp y⟩ hc))
