section
/-! rows pasted from the kit: stores, arithmetic, branches by naturals -/
theorem pk_us {f : Nat → Int32} {k : Nat} {x : Int32} : upd f k x k = x := if_pos rfl
theorem pk_un {f : Nat → Int32} {k j : Nat} {x : Int32} (h : j ≠ k) : upd f k x j = f j := if_neg h
theorem pk_sub {a b : Nat} (h : b ≤ a) : nI a - nI b = nI (a - b) := by
  obtain ⟨c, rfl⟩ : ∃ c, a = c + b := ⟨a - b, by omega⟩
  rw [← nI_add, Int32.add_sub_cancel, Nat.add_sub_cancel]
theorem pk_m1 (n : Nat) : nI (n + 1) + (-1) = nI n := by
  rw [← nI_1, Int32.add_assoc, show (1 : Int32) + (-1) = 0 from rfl, Int32.add_zero]
theorem pk_mul (a b : Nat) : nI a * nI b = nI (a * b) := (Int32.ofNat_mul a b).symm
theorem pk_div {a d : Nat} (ha : a < 2 ^ 31) (h0 : 0 < d) (hd : d < 2 ^ 31) : nI a / nI d = nI (a / d) := by
  apply Int32.toInt_inj.mp
  rw [lg_idiv_nonneg (by rw [nI_toInt ha]; omega) (by rw [nI_toInt hd]; omega), nI_toInt ha, nI_toInt hd, nI_toInt (Nat.lt_of_le_of_lt (Nat.div_le_self a d) ha)]
  first | rfl | exact (Int.natCast_ediv _ _).symm
theorem pk_rem {a d : Nat} (ha : a < 2 ^ 31) (h0 : 0 < d) (hd : d < 2 ^ 31) : nI a - nI a / nI d * nI d = nI (a % d) := by
  rw [pk_div ha h0 hd, pk_mul, pk_sub (Nat.div_mul_le_self a d)]
  exact congrArg nI (by have := Nat.div_add_mod' a d; omega)
theorem pk_sub_toInt {a b : Nat} (ha : a < 2 ^ 30) (hb : b < 2 ^ 30) : (nI a - nI b).toInt = (a : Int) - b := by
  rw [Int32.toInt_sub, nI_toInt (by omega), nI_toInt (by omega)]
  exact Int.bmod_eq_of_le (by omega) (by omega)
theorem pk_sneg {a b : Nat} (hb : b < 2 ^ 30) (h : a < b) : nI a - nI b < 0 := by
  rw [Int32.lt_iff_toInt_lt, pk_sub_toInt (by omega) hb, show (0 : Int32).toInt = 0 from by decide]
  omega
theorem pk_ix (x : Int32) {n : Nat} (hn : n < 2 ^ 31) : x < 0 ∨ nI n ≤ x ∨ ∃ j : Nat, j < n ∧ x = nI j := by
  by_cases h : x < 0
  · exact Or.inl h
  · obtain ⟨j, hj, rfl⟩ := nI_of h
    by_cases h2 : j < n
    · exact Or.inr (Or.inr ⟨j, h2, rfl⟩)
    · exact Or.inr (Or.inl (nI_le (by omega) hj))
theorem pk_le {x y : Int32} {A B : Prop} (a b : Nat) (f : a ≤ b → A) (g : b < a → B) (hx : x = nI a := by rfl) (hy : y = nI b := by rfl) (ha : a < 2 ^ 31 := by omega) (hb : b < 2 ^ 31 := by omega) : (x ≤ y → A) ∧ (¬ x ≤ y → B) := by
  subst hx hy
  rw [nI_leI ha hb]
  exact ⟨f, fun z => g (by omega)⟩
theorem pk_lt {x y : Int32} {A B : Prop} (a b : Nat) (f : a < b → A) (g : b ≤ a → B) (hx : x = nI a := by rfl) (hy : y = nI b := by rfl) (ha : a < 2 ^ 31 := by omega) (hb : b < 2 ^ 31 := by omega) : (x < y → A) ∧ (¬ x < y → B) := by
  subst hx hy
  rw [nI_ltI ha hb]
  exact ⟨f, fun z => g (by omega)⟩
theorem pk_eq {x y : Int32} {A B : Prop} (a b : Nat) (f : a = b → A) (g : a ≠ b → B) (hx : x = nI a := by rfl) (hy : y = nI b := by rfl) (ha : a < 2 ^ 31 := by omega) (hb : b < 2 ^ 31 := by omega) : (x = y → A) ∧ (¬ x = y → B) := by
  subst hx hy
  rw [nI_eq ha hb]
  exact ⟨f, g⟩
theorem pk_in {x : Int32} (n N : Nat) (h : n < N) (hx : x = nI n := by rfl) (hN : N < 2 ^ 31 := by omega) : vp_in x N := by
  subst hx
  exact vp_in_nI h hN
theorem pk_cl {x : Int32} (n : Nat) (hx : x = nI n := by rfl) (h : n < 2 ^ 31 := by omega) : x.toNatClampNeg = n := by
  subst hx
  exact nI_clamp h
theorem pk_tn {n : Nat} (h : n < 2 ^ 32) : (nI n).toBitVec.toNat = n := Nat.mod_eq_of_lt h
theorem pk_charN {q : Nat} (hq : q < 65536) : narrow .char (.int (nI q)) = .int (nI q) ∧ fits .char (.int (nI q)) = true := by
  constructor
  · have e : (nI q).toUInt32.toUInt16.toUInt32.toInt32 = nI q := by
      apply Int32.toBitVec_inj.mp
      apply BitVec.eq_of_toNat_eq
      show (nI q).toUInt32.toUInt16.toUInt32.toNat = q % 2 ^ 32
      rw [UInt16.toNat_toUInt32, UInt32.toNat_toUInt16, show (nI q).toUInt32.toNat = q % 2 ^ 32 from rfl]
      omega
    exact congrArg Value.int e
  · have a : (0 : Int32) ≤ nI q := nI_pos' (by omega)
    have b : nI q ≤ 65535 := nI_le (b := 65535) (by omega) (by decide)
    show (decide ((0 : Int32) ≤ nI q) && decide (nI q ≤ 65535)) = true
    rw [decide_eq_true a, decide_eq_true b]
    rfl
theorem pk_char (x : Int32) : (x.toUInt32 % 65536).toInt32 = nI (x.toBitVec.toNat % 65536) := by
  apply Int32.toBitVec_inj.mp
  apply BitVec.eq_of_toNat_eq
  rw [pk_tn (by omega)]
  show (x.toUInt32 % 65536).toNat = _
  rw [UInt32.toNat_mod]
  rfl
theorem pk_nc (x : Int32) : narrow .char (.int (x.toUInt32 % 65536).toInt32) = .int (x.toUInt32 % 65536).toInt32 := by
  rw [pk_char]
  exact (pk_charN (Nat.mod_lt _ (by decide))).1
theorem pk_vc (z : Int32) : vp_nar .char (z.toUInt32 % 65536).toInt32 = (z.toUInt32 % 65536).toInt32 := Value.int.inj (pk_nc z)
theorem pk_loop {σ : Type} (W : Nat → Nat → σ → Prop) (I : Nat → σ → Prop) (e i0 : Nat) (s : σ) (hi : i0 ≤ e) (h0 : I i0 s) (hx : ∀ n s, I e s → W (n + 1) e s)
    (hs : ∀ n i s, i < e → I i s → (∀ s', I (i + 1) s' → W n (i + 1) s') → W (n + 1) i s) : ∃ n, W n i0 s :=
  ⟨e + 1, loop_i W I e hx hs (e + 1) i0 s hi (by omega) h0⟩
end
section
/-! pure rows: filled stretches of an array, the number of stretches of a set, what an interval adds to it -/
def sr_B (f : Nat → Int32) : Prop := ∀ j, f j = 0 ∨ f j = 1
theorem sr_vb {x : Int32} (h : x = 0 ∨ x = 1) : vp_nar .boolean x = x := by rcases h with rfl | rfl <;> rfl
theorem sr_nb {x : Int32} (h : x = 0 ∨ x = 1) : narrow .boolean (.int x) = .int x := by rcases h with rfl | rfl <;> rfl
/-- cells b .. b + i - 1 hold g 0 .. g (i - 1), the others as f has them -/
def sr_fill (f : Nat → Int32) (b : Nat) (g : Nat → Int32) (i : Nat) : Nat → Int32 := fun j => if b ≤ j ∧ j < b + i then g (j - b) else f j
theorem sr_fill_0 (f : Nat → Int32) (b : Nat) (g : Nat → Int32) : sr_fill f b g 0 = f := by
  funext j
  exact if_neg (by omega)
theorem sr_fill_out {f : Nat → Int32} {b : Nat} {g : Nat → Int32} {i j : Nat} (h : j < b ∨ b + i ≤ j) : sr_fill f b g i j = f j := if_neg (by omega)
theorem sr_fill_in {f : Nat → Int32} {b : Nat} {g : Nat → Int32} {i v : Nat} (h : v < i) : sr_fill f b g i (b + v) = g v := by
  have e : b + v - b = v := by omega
  unfold sr_fill
  rw [if_pos ⟨by omega, by omega⟩, e]
theorem sr_fill_s (f : Nat → Int32) (b : Nat) (g : Nat → Int32) (i : Nat) : upd (sr_fill f b g i) (b + i) (g i) = sr_fill f b g (i + 1) := by
  funext j
  by_cases h : j = b + i
  · subst h
    rw [pk_us, sr_fill_in (by omega)]
  · rw [pk_un h]
    by_cases h2 : b ≤ j ∧ j < b + i
    · obtain ⟨v, rfl⟩ : ∃ v, j = b + v := ⟨j - b, by omega⟩
      rw [sr_fill_in (by omega), sr_fill_in (by omega)]
    · rw [sr_fill_out (by omega), sr_fill_out (by omega)]
theorem sr_fill_B {f : Nat → Int32} {b : Nat} {g : Nat → Int32} {i : Nat} (hf : sr_B f) (hg : ∀ v, v < i → g v = 0 ∨ g v = 1) : sr_B (sr_fill f b g i) := by
  intro j
  by_cases h2 : b ≤ j ∧ j < b + i
  · obtain ⟨v, rfl⟩ : ∃ v, j = b + v := ⟨j - b, by omega⟩
    rw [sr_fill_in (by omega)]
    exact hg v (by omega)
  · rw [sr_fill_out (by omega)]
    exact hf j
/-- 1 where a stretch begins -/
def sr_e (f : Nat → Int32) (n : Nat) : Nat := if ¬ f n = 0 ∧ (n = 0 ∨ f (n - 1) = 0) then 1 else 0
theorem sr_e_le (f : Nat → Int32) (n : Nat) : sr_e f n ≤ 1 := by
  unfold sr_e
  split
  · exact Nat.le_refl _
  · exact Nat.zero_le _
theorem sr_e_c {f g : Nat → Int32} {n : Nat} (h : f n = g n) (h' : f (n - 1) = g (n - 1)) : sr_e f n = sr_e g n := by
  unfold sr_e
  rw [h, h']
theorem sr_e_0 {f : Nat → Int32} {n : Nat} (hn : n ≠ 0) (h : ¬ f (n - 1) = 0) : sr_e f n = 0 := if_neg (fun z => z.2.elim hn h)
theorem sr_e_z {f : Nat → Int32} {n : Nat} (h : f n = 0) : sr_e f n = 0 := if_neg (fun z => z.1 h)
theorem sr_e_1 {f : Nat → Int32} {n : Nat} (h : ¬ f n = 0) (h' : n = 0 ∨ f (n - 1) = 0) : sr_e f n = 1 := if_pos ⟨h, h'⟩
/-- the number of stretches among the first n cells -/
def sr_st (f : Nat → Int32) : Nat → Nat
  | 0 => 0
  | n + 1 => sr_st f n + sr_e f n
theorem sr_st_s (f : Nat → Int32) (n : Nat) : sr_st f (n + 1) = sr_st f n + sr_e f n := rfl
theorem sr_st_le (f : Nat → Int32) (n : Nat) : sr_st f n ≤ n := by
  induction n with
  | zero => exact Nat.le_refl _
  | succ n ih =>
    have h := sr_e_le f n
    rw [sr_st_s]
    omega
theorem sr_st_c {f g : Nat → Int32} {n : Nat} (h : ∀ v, v < n → f v = g v) : sr_st f n = sr_st g n := by
  induction n with
  | zero => rfl
  | succ n ih => rw [sr_st_s, sr_st_s, ih (fun v hv => h v (by omega)), sr_e_c (h n (by omega)) (h (n - 1) (by omega))]
/-- the set with the versions from a to b - 1 beside its own -/
def sr_ad (f : Nat → Int32) (a b : Nat) : Nat → Int32 := fun j => if a ≤ j ∧ j < b then 1 else f j
theorem sr_ad_in {f : Nat → Int32} {a b j : Nat} (h : a ≤ j ∧ j < b) : sr_ad f a b j = 1 := if_pos h
theorem sr_ad_out {f : Nat → Int32} {a b j : Nat} (h : ¬ (a ≤ j ∧ j < b)) : sr_ad f a b j = f j := if_neg h
theorem sr_ad_B {f : Nat → Int32} {a b : Nat} (h : sr_B f) : sr_B (sr_ad f a b) := by
  intro j
  by_cases h2 : a ≤ j ∧ j < b
  · exact Or.inr (sr_ad_in h2)
  · rw [sr_ad_out h2]
    exact h j
theorem sr_st_ad (f : Nat → Int32) (a b n : Nat) : ((n ≤ a ∨ b ≤ a) → sr_st (sr_ad f a b) n ≤ sr_st f n) ∧ sr_st (sr_ad f a b) n ≤ sr_st f n + 1 := by
  induction n with
  | zero => exact ⟨fun _ => Nat.le_refl _, Nat.zero_le _⟩
  | succ n ih =>
    obtain ⟨i1, i2⟩ := ih
    rw [sr_st_s, sr_st_s]
    by_cases h1 : n < a ∨ b ≤ a
    · have e : sr_e (sr_ad f a b) n = sr_e f n := sr_e_c (sr_ad_out (by omega)) (sr_ad_out (by omega))
      rw [e]
      have i3 := i1 (by omega)
      exact ⟨fun _ => by omega, by omega⟩
    · refine ⟨fun z => absurd z (by omega), ?_⟩
      by_cases h2 : n = a
      · have i3 := i1 (by omega)
        have e := sr_e_le (sr_ad f a b) n
        omega
      · have e : sr_e (sr_ad f a b) n ≤ sr_e f n := by
          by_cases h3 : n ≤ b
          · have e1 : sr_ad f a b (n - 1) = 1 := sr_ad_in (by omega)
            rw [sr_e_0 (by omega) (by rw [e1]; decide)]
            exact Nat.zero_le _
          · exact Nat.le_of_eq (sr_e_c (sr_ad_out (by omega)) (sr_ad_out (by omega)))
        omega
theorem sr_st_0 (n : Nat) : sr_st (fun _ => 0) n = 0 := by
  induction n with
  | zero => rfl
  | succ n ih => rw [sr_st_s, ih, sr_e_z rfl]
end
section
/-! pure rows: characters of the text, digits, the high end of an item held as nI b - 1 -/
theorem sr_hi_T {b : Nat} (h : b ≤ 1000) : (nI b - 1).toInt = (b : Int) - 1 := pk_sub_toInt (a := b) (b := 1) (by omega) (by omega)
theorem sr_hi_lt {a b : Nat} (ha : a ≤ 1000) (hb : b ≤ 1000) : nI a - 1 < nI b - 1 ↔ a < b := by
  rw [Int32.lt_iff_toInt_lt, sr_hi_T ha, sr_hi_T hb]
  omega
theorem sr_hi_le {a b : Nat} (ha : a ≤ 1000) (hb : b ≤ 1000) : nI a - 1 ≤ nI b - 1 ↔ a ≤ b := by
  rw [Int32.le_iff_toInt_le, sr_hi_T ha, sr_hi_T hb]
  omega
theorem sr_v_le {v b : Nat} (hv : v ≤ 1000) (hb : b ≤ 1000) : nI v ≤ nI b - 1 ↔ v < b := by
  rw [Int32.le_iff_toInt_le, nI_toInt (by omega), sr_hi_T hb]
  omega
theorem sr_v_lt {v b : Nat} (hv : v ≤ 1000) (hb : b ≤ 1000) : nI b - 1 < nI v ↔ b ≤ v := by
  rw [Int32.lt_iff_toInt_lt, nI_toInt (by omega), sr_hi_T hb]
  omega
theorem sr_999 : (999 : Int32) = nI 1000 - 1 := by decide
theorem sr_maj {v : Nat} (h : v < 1000) : nI v - (nI v - nI v / 100 * 100) + 99 = nI (v / 100 * 100 + 99) := by
  have e : nI v - nI v / 100 * 100 = nI (v % 100) := pk_rem (d := 100) (by omega) (by omega) (by omega)
  have e2 : nI (v - v % 100) + 99 = nI (v - v % 100 + 99) := nI_add _ 99
  rw [e, pk_sub (Nat.mod_le _ _), e2]
  exact congrArg nI (by omega)
theorem sr_min {v : Nat} (h : v < 1000) : nI v - (nI v - nI v / 10 * 10) + 9 = nI (v / 10 * 10 + 9) := by
  have e : nI v - nI v / 10 * 10 = nI (v % 10) := pk_rem (d := 10) (by omega) (by omega) (by omega)
  have e2 : nI (v - v % 10) + 9 = nI (v - v % 10 + 9) := nI_add _ 9
  rw [e, pk_sub (Nat.mod_le _ _), e2]
  exact congrArg nI (by omega)
theorem sr_majY {v : Nat} (h : v < 1000) : nI v / 100 * 100 + 99 = nI (v / 100 * 100 + 99) := by
  have e : nI v / 100 = nI (v / 100) := pk_div (d := 100) (by omega) (by omega) (by omega)
  have e1 : nI (v / 100) * 100 = nI (v / 100 * 100) := pk_mul _ 100
  rw [e, e1]
  exact nI_add _ 99
theorem sr_minY {v : Nat} (h : v < 1000) : nI v / 10 * 10 + 9 = nI (v / 10 * 10 + 9) := by
  have e : nI v / 10 = nI (v / 10) := pk_div (d := 10) (by omega) (by omega) (by omega)
  have e1 : nI (v / 10) * 10 = nI (v / 10 * 10) := pk_mul _ 10
  rw [e, e1]
  exact nI_add _ 9
/-- the character at i, 0 beyond the text's end -/
def sr_ch (T : Nat → Int32) (L i : Nat) : Int32 := if i < L then T i else 0
theorem sr_ch_in {T : Nat → Int32} {L i : Nat} (h : i < L) : sr_ch T L i = T i := if_pos h
theorem sr_ch_out {T : Nat → Int32} {L i : Nat} (h : L ≤ i) : sr_ch T L i = 0 := if_neg (by omega)
theorem sr_ch_lt {T : Nat → Int32} {L i : Nat} {c : Int32} (h : sr_ch T L i = c) (hc : c ≠ 0) : i < L := by
  by_cases z : i < L
  · exact z
  · exact absurd (h.symm.trans (sr_ch_out (by omega))) hc
def sr_dig (c : Int32) : Prop := 48 ≤ c ∧ c ≤ 57
theorem sr_dig_of {c : Int32} (h : sr_dig c) : ∃ g : Nat, g ≤ 9 ∧ c = nI (48 + g) := by
  have h0 : ¬ c < 0 := by
    have a := h.1
    rw [Int32.le_iff_toInt_le] at a
    rw [Int32.lt_iff_toInt_lt]
    have e1 : (48 : Int32).toInt = 48 := by decide
    have e2 : (0 : Int32).toInt = 0 := by decide
    omega
  obtain ⟨j, hj, rfl⟩ := nI_of h0
  have a : (48 : Nat) ≤ j := (nI_leI (a := 48) (b := j) (by omega) hj).mp h.1
  have b : j ≤ 57 := (nI_leI (a := j) (b := 57) hj (by omega)).mp h.2
  exact ⟨j - 48, by omega, congrArg nI (by omega)⟩
theorem sr_dig_n {g : Nat} (h : g ≤ 9) : sr_dig (nI (48 + g)) := ⟨nI_le (a := 48) (by omega) (by omega), nI_le (b := 57) (by omega) (by omega)⟩
theorem sr_dig_0 : ¬ sr_dig 0 := by unfold sr_dig; decide
theorem sr_dig_ne {g : Nat} (h : g ≤ 9) {c : Int32} (hc : ¬ sr_dig c) : ¬ nI (48 + g) = c := fun z => hc (z ▸ sr_dig_n h)
theorem sr_m48 (g : Nat) : nI (48 + g) - 48 = nI g := by
  have e : nI (48 + g) - nI 48 = nI (48 + g - 48) := pk_sub (by omega)
  have e2 : 48 + g - 48 = g := by omega
  rw [e2] at e
  exact e
end
section
/-! indices, isRange, take, takeDigit, charAt, digits -/
theorem sr_ixX (s v : Nat) : nI s * 1000 + nI v = nI (s * 1000 + v) := by
  have e : nI s * 1000 = nI (s * 1000) := pk_mul s 1000
  rw [e, nI_add]
theorem sr_ixY (s v : Nat) : 1000 * nI s + nI v = nI (s * 1000 + v) := by
  have e : 1000 * nI s = nI (1000 * s) := pk_mul 1000 s
  rw [e, nI_add, Nat.mul_comm]
theorem sr_ixR (v : Nat) : 4000 + nI v = nI (4000 + v) := nI_add 4000 v
theorem x_r1 {post : Int32 → Prop} {s : Nat} (hs : s < 4) (h : post 1) : wpX_isRange post (nI s) :=
  br_f (nI_pos (by omega)) (br_f (nI_ge (b := 4) hs (by decide)) h)
theorem x_r0 {post : Int32 → Prop} {x : Int32} (hx : x < 0 ∨ nI 4 ≤ x) (h : post 0) : wpX_isRange post x :=
  br_c (fun _ => h) (fun z => br_t (hx.elim (fun y => absurd y z) id) h)
theorem y_r1 {post : Int32 → Prop} {s : Nat} {a b c d : Int32} {e f g : Nat → Int32} (hs : s < 4) (h : post 1) : wpY_isRange post (a, b, c, d, e, f, g) (nI s) :=
  br_f (nI_pos (by omega)) (br_f (nI_nlt (a := 3) (b := s) (by omega) (by decide)) h)
theorem sr_3lt {x : Int32} (h : nI 4 ≤ x) : 3 < x := by
  rw [Int32.le_iff_toInt_le] at h
  rw [Int32.lt_iff_toInt_lt]
  have e1 : (nI 4).toInt = 4 := by decide
  have e2 : (3 : Int32).toInt = 3 := by decide
  omega
theorem y_r0 {post : Int32 → Prop} {x : Int32} {a b c d : Int32} {e f g : Nat → Int32} (hx : x < 0 ∨ nI 4 ≤ x) (h : post 0) : wpY_isRange post (a, b, c, d, e, f, g) x :=
  br_c (fun _ => h) (fun z => br_t (hx.elim (fun y => absurd y z) sr_3lt) h)
theorem sr_rng (x : Int32) : (x < 0 ∨ nI 4 ≤ x) ∨ ∃ s : Nat, s < 4 ∧ x = nI s := by
  rcases pk_ix x (n := 4) (by decide) with h | h | h
  · exact Or.inl (Or.inl h)
  · exact Or.inl (Or.inr h)
  · exact Or.inr h
theorem x_tk1 {post : Int32 → SX → Prop} {L p : Nat} {pd plo phi il ih c : Int32} {M T : Nat → Int32} (hL : L ≤ 40) (e : sr_ch T L p = c) (hc : c ≠ 0)
    (h : post 1 (nI L, nI (p + 1), pd, plo, phi, il, ih, M, T)) : wpX_take post (nI L, nI p, pd, plo, phi, il, ih, M, T) c := by
  have hp : p < L := sr_ch_lt e hc
  rw [sr_ch_in hp] at e
  exact br_f (nI_ge hp (by omega)) ⟨pk_in p 40 (by omega), br_t (by rw [pk_cl p]; exact e) (nm_r (nI_1 p) h)⟩
theorem x_tk0 {post : Int32 → SX → Prop} {L p : Nat} {pd plo phi il ih c : Int32} {M T : Nat → Int32} (hL : L ≤ 40) (hp : p ≤ 100) (e : ¬ sr_ch T L p = c)
    (h : post 0 (nI L, nI p, pd, plo, phi, il, ih, M, T)) : wpX_take post (nI L, nI p, pd, plo, phi, il, ih, M, T) c := by
  by_cases z : p < L
  · rw [sr_ch_in z] at e
    exact br_f (nI_ge z (by omega)) ⟨pk_in p 40 (by omega), br_f (by rw [pk_cl p]; exact e) h⟩
  · exact br_t (nI_le (by omega) (by omega)) h
theorem sr_nlt {a b : Int32} (h : a ≤ b) : ¬ b < a := Int32.not_lt.mpr h
theorem sr_dn0 {g : Nat} (h : g ≤ 9) : nI (48 + g) ≠ 0 := fun z => sr_dig_0 (z ▸ sr_dig_n h)
theorem x_td1 {post : Int32 → SX → Prop} {L p g : Nat} {pd plo phi il ih : Int32} {M T : Nat → Int32} (hL : L ≤ 40) (e : sr_ch T L p = nI (48 + g)) (hg : g ≤ 9)
    (h : post (nI g) (nI L, nI (p + 1), pd, plo, phi, il, ih, M, T)) : wpX_takeDigit post (nI L, nI p, pd, plo, phi, il, ih, M, T) := by
  have hp : p < L := sr_ch_lt e (sr_dn0 hg)
  rw [sr_ch_in hp] at e
  have et : T (nI p).toNatClampNeg = nI (48 + g) := by rw [pk_cl p]; exact e
  have hi : vp_in (nI p) 40 := pk_in p 40 (by omega)
  exact br_f (nI_ge hp (by omega)) ⟨hi, br_f (by rw [et]; exact sr_nlt (sr_dig_n hg).1) ⟨hi, br_t (by rw [et]; exact (sr_dig_n hg).2) ⟨hi, nm_r (by rw [et]; exact sr_m48 g) (nm_r (nI_1 p) h)⟩⟩⟩
theorem x_td0 {post : Int32 → SX → Prop} {L p : Nat} {pd plo phi il ih : Int32} {M T : Nat → Int32} (hL : L ≤ 40) (hp : p ≤ 100) (e : ¬ sr_dig (sr_ch T L p))
    (h : post (-3) (nI L, nI p, pd, plo, phi, il, ih, M, T)) : wpX_takeDigit post (nI L, nI p, pd, plo, phi, il, ih, M, T) := by
  by_cases z : p < L
  · rw [sr_ch_in z] at e
    have et : T (nI p).toNatClampNeg = T p := by rw [pk_cl p]
    have hi : vp_in (nI p) 40 := pk_in p 40 (by omega)
    refine br_f (nI_ge z (by omega)) ⟨hi, ?_⟩
    rw [et]
    exact br_c (fun _ => h) (fun a => ⟨hi, br_f (fun b => e ⟨Int32.not_lt.mp a, b⟩) h⟩)
  · exact br_t (nI_le (by omega) (by omega)) h
theorem y_ch {post : Int32 → Prop} {L : Nat} (p : Nat) {x pt lo hi : Int32} {T K R : Nat → Int32} (hL : L ≤ 40) (hp : p ≤ 100) (hx : x = nI p) (h : post (sr_ch T L p)) : wpY_charAt post (nI L, pt, lo, hi, T, K, R) x := by
  subst hx
  refine br_f (nI_pos (by omega)) ?_
  by_cases z : p < L
  · rw [sr_ch_in z] at h
    refine br_f (nI_ge z (by omega)) ⟨pk_in p 40 (by omega), ?_⟩
    rw [pk_cl p]
    exact h
  · rw [sr_ch_out (by omega)] at h
    exact br_t (nI_le (by omega) (by omega)) h
theorem y_da {post : Int32 → Prop} {L : Nat} (p : Nat) {x pt lo hi : Int32} {T K R : Nat → Int32} (hL : L ≤ 40) (hp : p ≤ 100) (hx : x = nI p) (h : post (sr_ch T L p - 48)) : wpY_digitAt post (nI L, pt, lo, hi, T, K, R) x := by
  unfold wpY_digitAt
  dsimp only
  exact y_ch p hL hp hx h
theorem y_i1 {post : Int32 → Prop} {c : Int32} {a b d e : Int32} {f g k : Nat → Int32} (hc : sr_dig c) (h : post 1) : wpY_isDigit post (a, b, d, e, f, g, k) c :=
  br_f (sr_nlt hc.1) (br_f (sr_nlt hc.2) h)
theorem y_i0 {post : Int32 → Prop} {c : Int32} {a b d e : Int32} {f g k : Nat → Int32} (hc : ¬ sr_dig c) (h : post 0) : wpY_isDigit post (a, b, d, e, f, g, k) c :=
  br_c (fun _ => h) (fun z => br_c (fun _ => h) (fun y => absurd ⟨Int32.not_lt.mp z, Int32.not_lt.mp y⟩ hc))
end
section
/-! the loops over 1000 cells: each side against a pure picture -/
theorem sr_1000 {i : Nat} (h : i < 1000) : ¬ (1000 : Int32) ≤ nI i := nI_ge (b := 1000) h (by decide)
theorem sr_1000e : (1000 : Int32) ≤ nI 1000 := by decide
/-- the number of members among the first n -/
def sr_cn (f : Nat → Int32) : Nat → Nat
  | 0 => 0
  | n + 1 => sr_cn f n + (if f n = 0 then 0 else 1)
theorem sr_cn_0 {f : Nat → Int32} {n : Nat} (h : f n = 0) : sr_cn f (n + 1) = sr_cn f n := by
  show sr_cn f n + _ = _
  rw [if_pos h, Nat.add_zero]
theorem sr_cn_1 {f : Nat → Int32} {n : Nat} (h : ¬ f n = 0) : sr_cn f (n + 1) = sr_cn f n + 1 := by
  show sr_cn f n + _ = _
  rw [if_neg h]
theorem x_cn {post : Int32 → Prop} {s : Nat} {tl pl pd pa pb ia ib : Int32} {M T f : Nat → Int32} (hs : s ≤ 4) (hf : ∀ v, v < 1000 → M (s * 1000 + v) = f v) (h : post (nI (sr_cn f 1000))) :
    ∀ d i : Nat, i + d = 1000 → wX_countMembers_4 post (nI s) tl pl pd pa pb ia ib M T (d + 1) (nI (sr_cn f i)) (nI i) := by
  intro d
  induction d with
  | zero =>
    intro i hi
    obtain rfl : i = 1000 := by omega
    exact br_t sr_1000e h
  | succ d IH =>
    intro i hi
    have ck : (nI s * 1000 + nI i).toNatClampNeg = s * 1000 + i := pk_cl _ (sr_ixX s i)
    have IH' := IH (i + 1) (by omega)
    refine br_f (sr_1000 (by omega)) ⟨pk_in (s * 1000 + i) 5000 (by omega) (sr_ixX s i), ?_⟩
    rw [ck, hf i (by omega)]
    by_cases z : f i = 0
    · rw [sr_cn_0 z] at IH'
      exact br_t z (nm_r (nI_1 i) IH')
    · rw [sr_cn_1 z] at IH'
      exact br_f z (nm_r (nI_1 _) (nm_r (nI_1 i) IH'))
theorem x_count {post : Int32 → Prop} {s : Nat} {tl pl pd pa pb ia ib : Int32} {M T f : Nat → Int32} (hs : s ≤ 4) (hf : ∀ v, v < 1000 → M (s * 1000 + v) = f v) (h : post (nI (sr_cn f 1000))) :
    wpX_countMembers post (tl, pl, pd, pa, pb, ia, ib, M, T) (nI s) := ⟨1001, x_cn hs hf h 1000 0 rfl⟩
theorem y_cn {post : Int32 → Prop} {s : Nat} {tl pt lo hi : Int32} {K T R f : Nat → Int32} (hs : s < 4) (hf : ∀ v, v < 1000 → K (s * 1000 + v) = f v) (h : post (nI (sr_cn f 1000))) :
    ∀ d i : Nat, i + d = 1000 → wY_count_14 post (nI s) tl pt lo hi T K R (d + 1) (nI (sr_cn f i)) (nI i) := by
  intro d
  induction d with
  | zero =>
    intro i hi
    obtain rfl : i = 1000 := by omega
    exact br_t sr_1000e h
  | succ d IH =>
    intro i hi
    have ck : (1000 * nI s + nI i).toNatClampNeg = s * 1000 + i := pk_cl _ (sr_ixY s i)
    have IH' := IH (i + 1) (by omega)
    refine br_f (sr_1000 (by omega)) ⟨pk_in (s * 1000 + i) 4000 (by omega) (sr_ixY s i), ?_⟩
    rw [ck, hf i (by omega)]
    by_cases z : f i = 0
    · rw [sr_cn_0 z] at IH'
      exact br_t z (nm_r (nI_1 i) IH')
    · rw [sr_cn_1 z] at IH'
      exact br_f z (nm_r (nI_1 _) (nm_r (nI_1 i) IH'))
theorem y_count {post : Int32 → Prop} {s : Nat} {tl pt lo hi : Int32} {K T R f : Nat → Int32} (hs : s < 4) (hf : ∀ v, v < 1000 → K (s * 1000 + v) = f v) (h : post (nI (sr_cn f 1000))) :
    wpY_count post (tl, pt, lo, hi, T, K, R) (nI s) := by
  unfold wpY_count
  dsimp only
  exact y_r1 hs (br_f (by decide) ⟨1001, y_cn hs hf h 1000 0 rfl⟩)
/-! stretches -/
theorem x_sl {post : Int32 → Prop} {s : Nat} {tl pl pd pa pb ia ib : Int32} {M T f : Nat → Int32} (hs : s ≤ 4) (hf : ∀ v, v < 1000 → M (s * 1000 + v) = f v) (h : post (nI (sr_st f 1000))) :
    ∀ (d i : Nat) (x : Int32), i + d = 1000 → (x = 0 ↔ (i = 0 ∨ f (i - 1) = 0)) → wX_countStretches_7 post (nI s) tl pl pd pa pb ia ib M T (d + 1) (nI (sr_st f i)) x (nI i) := by
  intro d
  induction d with
  | zero =>
    intro i x hi hx
    obtain rfl : i = 1000 := by omega
    exact br_t sr_1000e h
  | succ d IH =>
    intro i x hi hx
    have ck : (nI s * 1000 + nI i).toNatClampNeg = s * 1000 + i := pk_cl _ (sr_ixX s i)
    have IH' := IH (i + 1) (f i) (by omega) ⟨fun z => Or.inr z, fun z => z.elim (fun y => absurd y (by omega)) id⟩
    rw [sr_st_s] at IH'
    refine br_f (sr_1000 (by omega)) ⟨pk_in (s * 1000 + i) 5000 (by omega) (sr_ixX s i), nm_r (e' := f i) (by rw [ck, hf i (by omega)]) ?_⟩
    by_cases z : f i = 0
    · rw [sr_e_z z] at IH'
      exact br_t z (nm_r (nI_1 i) IH')
    · by_cases y : x = 0
      · rw [sr_e_1 z (hx.mp y)] at IH'
        exact br_f z (br_t y (nm_r (nI_1 _) (nm_r (nI_1 i) IH')))
      · have w : ¬ (i = 0 ∨ f (i - 1) = 0) := fun q => y (hx.mpr q)
        rw [sr_e_0 (fun q => w (Or.inl q)) (fun q => w (Or.inr q))] at IH'
        exact br_f z (br_f y (nm_r (nI_1 i) IH'))
theorem x_st {post : Int32 → Prop} {s : Nat} {tl pl pd pa pb ia ib : Int32} {M T f : Nat → Int32} (hs : s ≤ 4) (hf : ∀ v, v < 1000 → M (s * 1000 + v) = f v) (h : post (nI (sr_st f 1000))) :
    wpX_countStretches post (tl, pl, pd, pa, pb, ia, ib, M, T) (nI s) := ⟨1001, x_sl hs hf h 1000 0 0 rfl ⟨fun _ => Or.inl rfl, fun _ => rfl⟩⟩
theorem y_sl {post : Int32 → Prop} {tl pt lo hi : Int32} {K T R f : Nat → Int32} (hf : ∀ v, v < 1000 → R v = f v) (h : post (nI (sr_st f 1000))) :
    ∀ d i : Nat, i + d = 1000 → wY_stretchesOfResult_4 post tl pt lo hi T K R (d + 1) (nI (sr_st f i)) (nI i) := by
  intro d
  induction d with
  | zero =>
    intro i hi
    obtain rfl : i = 1000 := by omega
    exact br_t sr_1000e h
  | succ d IH =>
    intro i hi
    have ck : (nI i).toNatClampNeg = i := pk_cl i
    have IH' := IH (i + 1) (by omega)
    rw [sr_st_s] at IH'
    refine br_f (sr_1000 (by omega)) ⟨pk_in i 1000 (by omega), ?_⟩
    rw [ck, hf i (by omega)]
    by_cases z : f i = 0
    · rw [sr_e_z z] at IH'
      exact br_t z (nm_r (nI_1 i) IH')
    · refine br_f z ?_
      by_cases y : i = 0
      · rw [sr_e_1 z (Or.inl y)] at IH'
        exact br_t (by rw [y]; rfl) (nm_r (nI_1 _) (nm_r (nI_1 i) IH'))
      · have e1 : nI i - 1 = nI (i - 1) := pk_sub (a := i) (b := 1) (by omega)
        have ck1 : (nI i - 1).toNatClampNeg = i - 1 := pk_cl _ e1
        refine br_f (nI_ne0 (by omega) (by omega)) ⟨pk_in (i - 1) 1000 (by omega) e1, ?_⟩
        rw [ck1, hf (i - 1) (by omega)]
        by_cases w : f (i - 1) = 0
        · rw [sr_e_1 z (Or.inr w)] at IH'
          exact br_t w (nm_r (nI_1 _) (nm_r (nI_1 i) IH'))
        · rw [sr_e_0 y w] at IH'
          exact br_f w (nm_r (nI_1 i) IH')
theorem y_st {post : Int32 → Prop} {tl pt lo hi : Int32} {K T R f : Nat → Int32} (hf : ∀ v, v < 1000 → R v = f v) (h : post (nI (sr_st f 1000))) :
    wpY_stretchesOfResult post (tl, pt, lo, hi, T, K, R) := ⟨1001, y_sl hf h 1000 0 rfl⟩
/-! keeping a result -/
theorem x_kl {post : Int32 → SX → Prop} {s : Nat} {tl pl pd pa pb ia ib : Int32} {M T : Nat → Int32} (hs : s < 4) (hB : sr_B M)
    (h : post 1 (tl, pl, pd, pa, pb, ia, ib, sr_fill M (s * 1000) (fun v => M (4000 + v)) 1000, T)) :
    ∀ d i : Nat, i + d = 1000 → wX_keepResult_14 post (nI s) tl pl pd pa pb ia ib (d + 1) (nI i) (sr_fill M (s * 1000) (fun v => M (4000 + v)) i) T := by
  intro d
  induction d with
  | zero =>
    intro i hi
    obtain rfl : i = 1000 := by omega
    exact br_t sr_1000e h
  | succ d IH =>
    intro i hi
    have ck : (nI s * 1000 + nI i).toNatClampNeg = s * 1000 + i := pk_cl _ (sr_ixX s i)
    have ck2 : (4000 + nI i).toNatClampNeg = 4000 + i := pk_cl _ (sr_ixR i)
    refine br_f (sr_1000 (by omega)) ⟨pk_in (4000 + i) 5000 (by omega) (sr_ixR i), pk_in (s * 1000 + i) 5000 (by omega) (sr_ixX s i), nm_r ?_ (nm_r (nI_1 i) (IH (i + 1) (by omega)))⟩
    rw [ck, ck2, sr_fill_out (j := 4000 + i) (by omega), sr_vb (hB _)]
    exact sr_fill_s M (s * 1000) (fun v => M (4000 + v)) i
theorem x_keep {post : Int32 → SX → Prop} {s : Nat} {tl pl pd pa pb ia ib : Int32} {M T f : Nat → Int32} (hs : s < 4) (hB : sr_B M) (hf : ∀ v, v < 1000 → M (4000 + v) = f v)
    (h1 : sr_st f 1000 ≤ 24 → post 1 (tl, pl, pd, pa, pb, ia, ib, sr_fill M (s * 1000) (fun v => M (4000 + v)) 1000, T))
    (h0 : ¬ sr_st f 1000 ≤ 24 → post 0 (tl, pl, pd, pa, pb, ia, ib, M, T)) : wpX_keepResult post (tl, pl, pd, pa, pb, ia, ib, M, T) (nI s) := by
  have b := sr_st_le f 1000
  refine x_st (s := 4) (f := f) (by omega) hf ?_
  by_cases z : sr_st f 1000 ≤ 24
  · refine br_t (nI_le (b := 24) z (by decide)) ⟨1001, ?_⟩
    have q := x_kl hs hB (h1 z) 1000 0 rfl
    rw [sr_fill_0] at q
    exact q
  · exact br_f (nI_ge (a := 24) (by omega) (by omega)) (h0 z)
theorem y_kl {post : SY → Prop} {s : Nat} {tl pt lo hi : Int32} {K T R : Nat → Int32} (hs : s < 4) (hB : sr_B R)
    (h : post (tl, pt, lo, hi, T, sr_fill K (s * 1000) R 1000, R)) :
    ∀ d i : Nat, i + d = 1000 → wY_keep_2 post (nI s) tl pt lo hi (d + 1) (nI i) T (sr_fill K (s * 1000) R i) R := by
  intro d
  induction d with
  | zero =>
    intro i hi
    obtain rfl : i = 1000 := by omega
    exact br_t sr_1000e h
  | succ d IH =>
    intro i hi
    have ck : (1000 * nI s + nI i).toNatClampNeg = s * 1000 + i := pk_cl _ (sr_ixY s i)
    have ck2 : (nI i).toNatClampNeg = i := pk_cl i
    refine br_f (sr_1000 (by omega)) ⟨pk_in i 1000 (by omega), pk_in (s * 1000 + i) 4000 (by omega) (sr_ixY s i), nm_r ?_ (nm_r (nI_1 i) (IH (i + 1) (by omega)))⟩
    rw [ck, ck2, sr_vb (hB _)]
    exact sr_fill_s K (s * 1000) R i
theorem y_keep {post : SY → Prop} {s : Nat} {tl pt lo hi : Int32} {K T R : Nat → Int32} (hs : s < 4) (hB : sr_B R)
    (h : post (tl, pt, lo, hi, T, sr_fill K (s * 1000) R 1000, R)) : wpY_keep post (tl, pt, lo, hi, T, K, R) (nI s) := by
  refine ⟨1001, ?_⟩
  have q := y_kl hs hB h 1000 0 rfl
  rw [sr_fill_0] at q
  exact q
theorem y_kif {post : Int32 → SY → Prop} {s : Nat} {tl pt lo hi : Int32} {K T R f : Nat → Int32} (hs : s < 4) (hB : sr_B R) (hf : ∀ v, v < 1000 → R v = f v)
    (h1 : sr_st f 1000 ≤ 24 → post 1 (tl, pt, lo, hi, T, sr_fill K (s * 1000) R 1000, R))
    (h0 : ¬ sr_st f 1000 ≤ 24 → post 0 (tl, pt, lo, hi, T, K, R)) : wpY_keepIfFew post (tl, pt, lo, hi, T, K, R) (nI s) := by
  have b := sr_st_le f 1000
  refine y_st (f := f) hf ?_
  by_cases z : sr_st f 1000 ≤ 24
  · exact br_t (nI_le (b := 24) z (by decide)) (y_keep hs hB (h1 z))
  · exact br_f (nI_ge (a := 24) (by omega) (by omega)) (h0 z)
/-! clearing -/
theorem x_cl {post : SX → Prop} {tl pl pd pa pb ia ib : Int32} {M T : Nat → Int32} (h : post (tl, pl, pd, pa, pb, ia, ib, sr_fill M 4000 (fun _ => 0) 1000, T)) :
    ∀ d i : Nat, i + d = 1000 → wX_clearResult_2 post tl pl pd pa pb ia ib (d + 1) (nI i) (sr_fill M 4000 (fun _ => 0) i) T := by
  intro d
  induction d with
  | zero =>
    intro i hi
    obtain rfl : i = 1000 := by omega
    exact br_t sr_1000e h
  | succ d IH =>
    intro i hi
    have ck2 : (4000 + nI i).toNatClampNeg = 4000 + i := pk_cl _ (sr_ixR i)
    refine br_f (sr_1000 (by omega)) ⟨pk_in (4000 + i) 5000 (by omega) (sr_ixR i), nm_r ?_ (nm_r (nI_1 i) (IH (i + 1) (by omega)))⟩
    rw [ck2, sr_vb (Or.inl rfl)]
    exact sr_fill_s M 4000 (fun _ => 0) i
theorem x_clear {post : SX → Prop} {tl pl pd pa pb ia ib : Int32} {M T : Nat → Int32} (h : post (tl, pl, pd, pa, pb, ia, ib, sr_fill M 4000 (fun _ => 0) 1000, T)) :
    wpX_clearResult post (tl, pl, pd, pa, pb, ia, ib, M, T) := by
  refine ⟨1001, ?_⟩
  have q := x_cl h 1000 0 rfl
  rw [sr_fill_0] at q
  exact q
theorem sr_fill_z (f g : Nat → Int32) (i : Nat) : upd (sr_fill f 0 g i) i (g i) = sr_fill f 0 g (i + 1) := by
  have q := sr_fill_s f 0 g i
  rw [Nat.zero_add] at q
  exact q
/-! adding an interval -/
theorem x_al {post : SX → Prop} {tl pl pd pa pb ia ib : Int32} {M T : Nat → Int32} {a b : Nat} (ha : a ≤ 1000) (hb : b ≤ 1000) (h : post (tl, pl, pd, pa, pb, ia, ib, sr_ad M (4000 + a) (4000 + b), T)) :
    ∀ d i : Nat, i + d = 1000 → ∀ N : Nat → Int32, (∀ j, N j = if 4000 + a ≤ j ∧ j < 4000 + b ∧ j < 4000 + i then 1 else M j) → wX_addToResult_2 post (nI a) (nI b - 1) tl pl pd pa pb ia ib (d + 1) (nI i) N T := by
  intro d
  induction d with
  | zero =>
    intro i hi N hN
    obtain rfl : i = 1000 := by omega
    have e : N = sr_ad M (4000 + a) (4000 + b) := by
      funext j
      rw [hN j]
      by_cases z : 4000 + a ≤ j ∧ j < 4000 + b
      · rw [if_pos (by omega), sr_ad_in z]
      · rw [if_neg (by omega), sr_ad_out z]
    rw [e]
    exact br_t sr_1000e h
  | succ d IH =>
    intro i hi N hN
    have ck2 : (4000 + nI i).toNatClampNeg = 4000 + i := pk_cl _ (sr_ixR i)
    refine br_f (sr_1000 (by omega)) ?_
    by_cases z : i < a
    · refine br_t (nI_lt z (by omega)) (nm_r (nI_1 i) (IH (i + 1) (by omega) N (fun j => ?_)))
      rw [hN j]
      by_cases w : 4000 + a ≤ j ∧ j < 4000 + b ∧ j < 4000 + i
      · rw [if_pos w, if_pos (by omega)]
      · rw [if_neg w, if_neg (by omega)]
    · refine br_f (nI_nlt (by omega) (by omega)) ?_
      by_cases y : b ≤ i
      · refine br_t ((sr_v_lt (by omega) hb).mpr y) (nm_r (nI_1 i) (IH (i + 1) (by omega) N (fun j => ?_)))
        rw [hN j]
        by_cases w : 4000 + a ≤ j ∧ j < 4000 + b ∧ j < 4000 + i
        · rw [if_pos w, if_pos (by omega)]
        · rw [if_neg w, if_neg (by omega)]
      · refine br_f (fun q => y ((sr_v_lt (by omega) hb).mp q)) ⟨pk_in (4000 + i) 5000 (by omega) (sr_ixR i), nm_r (e' := upd N (4000 + i) 1) (by rw [ck2, sr_vb (Or.inr rfl)]) (nm_r (nI_1 i) (IH (i + 1) (by omega) _ (fun j => ?_)))⟩
        by_cases w : j = 4000 + i
        · rw [w, pk_us, if_pos (by omega)]
        · rw [pk_un w, hN j]
          by_cases w2 : 4000 + a ≤ j ∧ j < 4000 + b ∧ j < 4000 + i
          · rw [if_pos w2, if_pos (by omega)]
          · rw [if_neg w2, if_neg (by omega)]
theorem x_add {post : SX → Prop} {tl pl pd pa pb ia ib : Int32} {M T : Nat → Int32} {a b : Nat} (ha : a ≤ 1000) (hb : b ≤ 1000) (h : post (tl, pl, pd, pa, pb, ia, ib, sr_ad M (4000 + a) (4000 + b), T)) :
    wpX_addToResult post (tl, pl, pd, pa, pb, ia, ib, M, T) (nI a) (nI b - 1) :=
  ⟨1001, x_al ha hb h 1000 0 rfl M (fun j => (if_neg (by omega)).symm)⟩
theorem y_al {post : Int32 → SY → Prop} {J : Int32 → Int32 → Int32 → Int32 → Int32 → Int32 → Int32 → Int32 → (Nat → Int32) → (Nat → Int32) → (Nat → Int32) → Prop} {x4 tl pt lo hi : Int32} {K T R : Nat → Int32} {a b : Nat} (hb : b ≤ 1000)
    (h : wY_parse_164 post J 0 999 x4 tl pt lo hi T K (sr_ad R a b)) :
    ∀ d i : Nat, i + d = b → a ≤ i → wY_parse_138 post J (nI b - 1) x4 tl pt lo hi (d + 1) (nI i) T K (sr_ad R a i) := by
  intro d
  induction d with
  | zero =>
    intro i hi hai
    obtain rfl : i = b := by omega
    exact br_t ((sr_v_lt (by omega) hb).mpr (Nat.le_refl _)) h
  | succ d IH =>
    intro i hi hai
    have ck : (nI i).toNatClampNeg = i := pk_cl i
    refine br_f (fun q => absurd ((sr_v_lt (by omega) hb).mp q) (by omega)) ⟨pk_in i 1000 (by omega), nm_r ?_ (nm_r (nI_1 i) (IH (i + 1) (by omega) (by omega)))⟩
    rw [ck, sr_vb (Or.inr rfl)]
    funext j
    by_cases w : j = i
    · rw [w, pk_us, sr_ad_in (by omega)]
    · rw [pk_un w]
      by_cases w2 : a ≤ j ∧ j < i
      · rw [sr_ad_in w2, sr_ad_in (by omega)]
      · rw [sr_ad_out w2, sr_ad_out (by omega)]
theorem sr_ad_e {R : Nat → Int32} {a b : Nat} (h : b ≤ a) : sr_ad R a b = R := by
  funext j
  exact sr_ad_out (by omega)
theorem y_add {post : Int32 → SY → Prop} {J : Int32 → Int32 → Int32 → Int32 → Int32 → Int32 → Int32 → Int32 → (Nat → Int32) → (Nat → Int32) → (Nat → Int32) → Prop} {x4 tl pt lo hi : Int32} {K T R : Nat → Int32} {a b : Nat} (ha : a ≤ 1000) (hb : b ≤ 1000)
    (h : wY_parse_164 post J 0 999 x4 tl pt lo hi T K (sr_ad R a b)) : ∃ n : Nat, wY_parse_138 post J (nI b - 1) x4 tl pt lo hi n (nI a) T K R := by
  by_cases z : b ≤ a
  · rw [sr_ad_e z] at h
    exact ⟨1, br_t ((sr_v_lt (by omega) hb).mpr z) h⟩
  · refine ⟨b - a + 1, ?_⟩
    have q := y_al hb h (b - a) a (by omega) (Nat.le_refl _)
    rw [sr_ad_e (Nat.le_refl a)] at q
    exact q
end
section
/-! meet, join, invert: the result's cells; the scans of atLeast, atMost, within -/
def sr_and (f g : Nat → Int32) : Nat → Int32 := fun v => if f v = 0 then 0 else if g v = 0 then 0 else 1
def sr_or (f g : Nat → Int32) : Nat → Int32 := fun v => if f v = 0 then (if g v = 0 then 0 else 1) else 1
def sr_not (f : Nat → Int32) : Nat → Int32 := fun v => if f v = 0 then 1 else 0
theorem sr_and_B (f g : Nat → Int32) : sr_B (sr_and f g) := by
  intro v
  unfold sr_and
  split
  · exact Or.inl rfl
  · split
    · exact Or.inl rfl
    · exact Or.inr rfl
theorem sr_or_B (f g : Nat → Int32) : sr_B (sr_or f g) := by
  intro v
  unfold sr_or
  split
  · split
    · exact Or.inl rfl
    · exact Or.inr rfl
  · exact Or.inr rfl
theorem sr_not_B (f : Nat → Int32) : sr_B (sr_not f) := by
  intro v
  unfold sr_not
  split
  · exact Or.inr rfl
  · exact Or.inl rfl
/-- what X's members are after a result g was kept as range s -/
def sr_new (M : Nat → Int32) (s : Nat) (g : Nat → Int32) : Nat → Int32 := sr_fill (sr_fill M 4000 g 1000) (s * 1000) (fun v => sr_fill M 4000 g 1000 (4000 + v)) 1000
theorem x_end {post : Int32 → SX → Prop} {s : Nat} {tl pl pd pa pb ia ib : Int32} {M T g : Nat → Int32} (hs : s < 4) (hB : sr_B M) (hg : sr_B g)
    (h1 : sr_st g 1000 ≤ 24 → post 1 (tl, pl, pd, pa, pb, ia, ib, sr_new M s g, T))
    (h0 : ¬ sr_st g 1000 ≤ 24 → post 0 (tl, pl, pd, pa, pb, ia, ib, sr_fill M 4000 g 1000, T)) : wpX_keepResult post (tl, pl, pd, pa, pb, ia, ib, sr_fill M 4000 g 1000, T) (nI s) :=
  x_keep hs (sr_fill_B hB (fun v _ => hg v)) (fun _ hv => sr_fill_in hv) h1 h0
theorem x_ml {post : Int32 → SX → Prop} {s a b : Nat} {tl pl pd pa pb ia ib : Int32} {M T f g : Nat → Int32} (hs : s < 4) (ha : a < 4) (hb : b < 4) (hB : sr_B M)
    (hf : ∀ v, v < 1000 → M (a * 1000 + v) = f v) (hg : ∀ v, v < 1000 → M (b * 1000 + v) = g v)
    (h1 : sr_st (sr_and f g) 1000 ≤ 24 → post 1 (tl, pl, pd, pa, pb, ia, ib, sr_new M s (sr_and f g), T))
    (h0 : ¬ sr_st (sr_and f g) 1000 ≤ 24 → post 0 (tl, pl, pd, pa, pb, ia, ib, sr_fill M 4000 (sr_and f g) 1000, T)) :
    ∀ d i : Nat, i + d = 1000 → wX_meet_26 post (nI s) (nI a) (nI b) tl pl pd pa pb ia ib (d + 1) (nI i) (sr_fill M 4000 (sr_and f g) i) T := by
  intro d
  induction d with
  | zero =>
    intro i hi
    obtain rfl : i = 1000 := by omega
    exact br_t sr_1000e (x_end hs hB (sr_and_B f g) (fun z => ⟨rfl, h1 z⟩) (fun z => ⟨rfl, h0 z⟩))
  | succ d IH =>
    intro i hi
    have cka : (nI a * 1000 + nI i).toNatClampNeg = a * 1000 + i := pk_cl _ (sr_ixX a i)
    have ckb : (nI b * 1000 + nI i).toNatClampNeg = b * 1000 + i := pk_cl _ (sr_ixX b i)
    have ck2 : (4000 + nI i).toNatClampNeg = 4000 + i := pk_cl _ (sr_ixR i)
    have hR : vp_in (4000 + nI i) 5000 := pk_in (4000 + i) 5000 (by omega) (sr_ixR i)
    have st := sr_fill_s M 4000 (sr_and f g) i
    have IH' := IH (i + 1) (by omega)
    refine br_f (sr_1000 (by omega)) ⟨pk_in (a * 1000 + i) 5000 (by omega) (sr_ixX a i), ?_⟩
    rw [cka, ckb, ck2, sr_fill_out (j := a * 1000 + i) (by omega), sr_fill_out (j := b * 1000 + i) (by omega), hf i (by omega), hg i (by omega)]
    by_cases z : f i = 0
    · have e : sr_and f g i = 0 := if_pos z
      rw [e] at st
      exact br_t z ⟨hR, nm_r (by rw [sr_vb (Or.inl rfl)]; exact st) (nm_r (nI_1 i) IH')⟩
    · refine br_f z ⟨pk_in (b * 1000 + i) 5000 (by omega) (sr_ixX b i), ?_⟩
      by_cases y : g i = 0
      · have e : sr_and f g i = 0 := (if_neg z).trans (if_pos y)
        rw [e] at st
        exact br_t y ⟨hR, nm_r (by rw [sr_vb (Or.inl rfl)]; exact st) (nm_r (nI_1 i) IH')⟩
      · have e : sr_and f g i = 1 := (if_neg z).trans (if_neg y)
        rw [e] at st
        exact br_f y ⟨hR, nm_r (by rw [sr_vb (Or.inr rfl)]; exact st) (nm_r (nI_1 i) IH')⟩
theorem x_jl {post : Int32 → SX → Prop} {s a b : Nat} {tl pl pd pa pb ia ib : Int32} {M T f g : Nat → Int32} (hs : s < 4) (ha : a < 4) (hb : b < 4) (hB : sr_B M)
    (hf : ∀ v, v < 1000 → M (a * 1000 + v) = f v) (hg : ∀ v, v < 1000 → M (b * 1000 + v) = g v)
    (h1 : sr_st (sr_or f g) 1000 ≤ 24 → post 1 (tl, pl, pd, pa, pb, ia, ib, sr_new M s (sr_or f g), T))
    (h0 : ¬ sr_st (sr_or f g) 1000 ≤ 24 → post 0 (tl, pl, pd, pa, pb, ia, ib, sr_fill M 4000 (sr_or f g) 1000, T)) :
    ∀ d i : Nat, i + d = 1000 → wX_join_26 post (nI s) (nI a) (nI b) tl pl pd pa pb ia ib (d + 1) (nI i) (sr_fill M 4000 (sr_or f g) i) T := by
  intro d
  induction d with
  | zero =>
    intro i hi
    obtain rfl : i = 1000 := by omega
    exact br_t sr_1000e (x_end hs hB (sr_or_B f g) (fun z => ⟨rfl, h1 z⟩) (fun z => ⟨rfl, h0 z⟩))
  | succ d IH =>
    intro i hi
    have cka : (nI a * 1000 + nI i).toNatClampNeg = a * 1000 + i := pk_cl _ (sr_ixX a i)
    have ckb : (nI b * 1000 + nI i).toNatClampNeg = b * 1000 + i := pk_cl _ (sr_ixX b i)
    have ck2 : (4000 + nI i).toNatClampNeg = 4000 + i := pk_cl _ (sr_ixR i)
    have hR : vp_in (4000 + nI i) 5000 := pk_in (4000 + i) 5000 (by omega) (sr_ixR i)
    have st := sr_fill_s M 4000 (sr_or f g) i
    have IH' := IH (i + 1) (by omega)
    refine br_f (sr_1000 (by omega)) ⟨pk_in (a * 1000 + i) 5000 (by omega) (sr_ixX a i), ?_⟩
    rw [cka, ckb, ck2, sr_fill_out (j := a * 1000 + i) (by omega), sr_fill_out (j := b * 1000 + i) (by omega), hf i (by omega), hg i (by omega)]
    by_cases z : f i = 0
    · refine br_t z ⟨pk_in (b * 1000 + i) 5000 (by omega) (sr_ixX b i), ?_⟩
      by_cases y : g i = 0
      · have e : sr_or f g i = 0 := (if_pos z).trans (if_pos y)
        rw [e] at st
        exact br_t y ⟨hR, nm_r (by rw [sr_vb (Or.inl rfl)]; exact st) (nm_r (nI_1 i) IH')⟩
      · have e : sr_or f g i = 1 := (if_pos z).trans (if_neg y)
        rw [e] at st
        exact br_f y ⟨hR, nm_r (by rw [sr_vb (Or.inr rfl)]; exact st) (nm_r (nI_1 i) IH')⟩
    · have e : sr_or f g i = 1 := if_neg z
      rw [e] at st
      exact br_f z ⟨hR, nm_r (by rw [sr_vb (Or.inr rfl)]; exact st) (nm_r (nI_1 i) IH')⟩
theorem x_il {post : Int32 → SX → Prop} {s a : Nat} {tl pl pd pa pb ia ib : Int32} {M T f : Nat → Int32} (hs : s < 4) (ha : a < 4) (hB : sr_B M)
    (hf : ∀ v, v < 1000 → M (a * 1000 + v) = f v)
    (h1 : sr_st (sr_not f) 1000 ≤ 24 → post 1 (tl, pl, pd, pa, pb, ia, ib, sr_new M s (sr_not f), T))
    (h0 : ¬ sr_st (sr_not f) 1000 ≤ 24 → post 0 (tl, pl, pd, pa, pb, ia, ib, sr_fill M 4000 (sr_not f) 1000, T)) :
    ∀ d i : Nat, i + d = 1000 → wX_invert_18 post (nI s) (nI a) tl pl pd pa pb ia ib (d + 1) (nI i) (sr_fill M 4000 (sr_not f) i) T := by
  intro d
  induction d with
  | zero =>
    intro i hi
    obtain rfl : i = 1000 := by omega
    exact br_t sr_1000e (x_end hs hB (sr_not_B f) (fun z => ⟨rfl, h1 z⟩) (fun z => ⟨rfl, h0 z⟩))
  | succ d IH =>
    intro i hi
    have cka : (nI a * 1000 + nI i).toNatClampNeg = a * 1000 + i := pk_cl _ (sr_ixX a i)
    have ck2 : (4000 + nI i).toNatClampNeg = 4000 + i := pk_cl _ (sr_ixR i)
    have hR : vp_in (4000 + nI i) 5000 := pk_in (4000 + i) 5000 (by omega) (sr_ixR i)
    have st := sr_fill_s M 4000 (sr_not f) i
    have IH' := IH (i + 1) (by omega)
    refine br_f (sr_1000 (by omega)) ⟨pk_in (a * 1000 + i) 5000 (by omega) (sr_ixX a i), ?_⟩
    rw [cka, ck2, sr_fill_out (j := a * 1000 + i) (by omega), hf i (by omega)]
    by_cases z : f i = 0
    · have e : sr_not f i = 1 := if_pos z
      rw [e] at st
      exact br_t z ⟨hR, nm_r (by rw [sr_vb (Or.inr rfl)]; exact st) (nm_r (nI_1 i) IH')⟩
    · have e : sr_not f i = 0 := if_neg z
      rw [e] at st
      exact br_f z ⟨hR, nm_r (by rw [sr_vb (Or.inl rfl)]; exact st) (nm_r (nI_1 i) IH')⟩
/-! the reference's -/
theorem y_end {post : Int32 → SY → Prop} {s : Nat} {tl pt lo hi : Int32} {K T R g : Nat → Int32} (hs : s < 4) (hB : sr_B R) (hg : sr_B g)
    (h1 : sr_st g 1000 ≤ 24 → post 1 (tl, pt, lo, hi, T, sr_fill K (s * 1000) (sr_fill R 0 g 1000) 1000, sr_fill R 0 g 1000))
    (h0 : ¬ sr_st g 1000 ≤ 24 → post 0 (tl, pt, lo, hi, T, K, sr_fill R 0 g 1000)) : wpY_keepIfFew post (tl, pt, lo, hi, T, K, sr_fill R 0 g 1000) (nI s) :=
  y_kif hs (sr_fill_B hB (fun v _ => hg v)) (fun v hv => by have q := sr_fill_in (f := R) (b := 0) (g := g) hv; rw [Nat.zero_add] at q; exact q) h1 h0
theorem y_ml {post : Int32 → SY → Prop} {s a b : Nat} {tl pt lo hi : Int32} {K T R f g : Nat → Int32} (hs : s < 4) (ha : a < 4) (hb : b < 4) (hB : sr_B R)
    (hf : ∀ v, v < 1000 → K (a * 1000 + v) = f v) (hg : ∀ v, v < 1000 → K (b * 1000 + v) = g v)
    (h1 : sr_st (sr_and f g) 1000 ≤ 24 → post 1 (tl, pt, lo, hi, T, sr_fill K (s * 1000) (sr_fill R 0 (sr_and f g) 1000) 1000, sr_fill R 0 (sr_and f g) 1000))
    (h0 : ¬ sr_st (sr_and f g) 1000 ≤ 24 → post 0 (tl, pt, lo, hi, T, K, sr_fill R 0 (sr_and f g) 1000)) :
    ∀ d i : Nat, i + d = 1000 → wY_meet_29 post (nI s) (nI a) (nI b) tl pt lo hi (d + 1) (nI i) T K (sr_fill R 0 (sr_and f g) i) := by
  intro d
  induction d with
  | zero =>
    intro i hi
    obtain rfl : i = 1000 := by omega
    exact br_t sr_1000e (y_end hs hB (sr_and_B f g) (fun z => ⟨rfl, h1 z⟩) (fun z => ⟨rfl, h0 z⟩))
  | succ d IH =>
    intro i hi
    have cka : (1000 * nI a + nI i).toNatClampNeg = a * 1000 + i := pk_cl _ (sr_ixY a i)
    have ckb : (1000 * nI b + nI i).toNatClampNeg = b * 1000 + i := pk_cl _ (sr_ixY b i)
    have ck2 : (nI i).toNatClampNeg = i := pk_cl i
    have hR : vp_in (nI i) 1000 := pk_in i 1000 (by omega)
    have st := sr_fill_z R (sr_and f g) i
    have IH' := IH (i + 1) (by omega)
    refine br_f (sr_1000 (by omega)) ⟨pk_in (a * 1000 + i) 4000 (by omega) (sr_ixY a i), ?_⟩
    rw [cka, ckb, ck2, hf i (by omega), hg i (by omega)]
    by_cases z : f i = 0
    · have e : sr_and f g i = 0 := if_pos z
      rw [e] at st
      exact br_t z ⟨hR, nm_r (by rw [sr_vb (Or.inl rfl)]; exact st) (nm_r (nI_1 i) IH')⟩
    · refine br_f z ⟨pk_in (b * 1000 + i) 4000 (by omega) (sr_ixY b i), ?_⟩
      by_cases y : g i = 0
      · have e : sr_and f g i = 0 := (if_neg z).trans (if_pos y)
        rw [e] at st
        exact br_t y ⟨hR, nm_r (by rw [sr_vb (Or.inl rfl)]; exact st) (nm_r (nI_1 i) IH')⟩
      · have e : sr_and f g i = 1 := (if_neg z).trans (if_neg y)
        rw [e] at st
        exact br_f y ⟨hR, nm_r (by rw [sr_vb (Or.inr rfl)]; exact st) (nm_r (nI_1 i) IH')⟩
theorem y_jl {post : Int32 → SY → Prop} {s a b : Nat} {tl pt lo hi : Int32} {K T R f g : Nat → Int32} (hs : s < 4) (ha : a < 4) (hb : b < 4) (hB : sr_B R)
    (hf : ∀ v, v < 1000 → K (a * 1000 + v) = f v) (hg : ∀ v, v < 1000 → K (b * 1000 + v) = g v)
    (h1 : sr_st (sr_or f g) 1000 ≤ 24 → post 1 (tl, pt, lo, hi, T, sr_fill K (s * 1000) (sr_fill R 0 (sr_or f g) 1000) 1000, sr_fill R 0 (sr_or f g) 1000))
    (h0 : ¬ sr_st (sr_or f g) 1000 ≤ 24 → post 0 (tl, pt, lo, hi, T, K, sr_fill R 0 (sr_or f g) 1000)) :
    ∀ d i : Nat, i + d = 1000 → wY_join_29 post (nI s) (nI a) (nI b) tl pt lo hi (d + 1) (nI i) T K (sr_fill R 0 (sr_or f g) i) := by
  intro d
  induction d with
  | zero =>
    intro i hi
    obtain rfl : i = 1000 := by omega
    exact br_t sr_1000e (y_end hs hB (sr_or_B f g) (fun z => ⟨rfl, h1 z⟩) (fun z => ⟨rfl, h0 z⟩))
  | succ d IH =>
    intro i hi
    have cka : (1000 * nI a + nI i).toNatClampNeg = a * 1000 + i := pk_cl _ (sr_ixY a i)
    have ckb : (1000 * nI b + nI i).toNatClampNeg = b * 1000 + i := pk_cl _ (sr_ixY b i)
    have ck2 : (nI i).toNatClampNeg = i := pk_cl i
    have hR : vp_in (nI i) 1000 := pk_in i 1000 (by omega)
    have st := sr_fill_z R (sr_or f g) i
    have IH' := IH (i + 1) (by omega)
    refine br_f (sr_1000 (by omega)) ⟨pk_in (a * 1000 + i) 4000 (by omega) (sr_ixY a i), ?_⟩
    rw [cka, ckb, ck2, hf i (by omega), hg i (by omega)]
    by_cases z : f i = 0
    · refine br_t z ⟨pk_in (b * 1000 + i) 4000 (by omega) (sr_ixY b i), ?_⟩
      by_cases y : g i = 0
      · have e : sr_or f g i = 0 := (if_pos z).trans (if_pos y)
        rw [e] at st
        exact br_t y ⟨hR, nm_r (by rw [sr_vb (Or.inl rfl)]; exact st) (nm_r (nI_1 i) IH')⟩
      · have e : sr_or f g i = 1 := (if_pos z).trans (if_neg y)
        rw [e] at st
        exact br_f y ⟨hR, nm_r (by rw [sr_vb (Or.inr rfl)]; exact st) (nm_r (nI_1 i) IH')⟩
    · have e : sr_or f g i = 1 := if_neg z
      rw [e] at st
      exact br_f z ⟨hR, nm_r (by rw [sr_vb (Or.inr rfl)]; exact st) (nm_r (nI_1 i) IH')⟩
theorem y_il {post : Int32 → SY → Prop} {s a : Nat} {tl pt lo hi : Int32} {K T R f : Nat → Int32} (hs : s < 4) (ha : a < 4) (hB : sr_B R)
    (hf : ∀ v, v < 1000 → K (a * 1000 + v) = f v)
    (h1 : sr_st (sr_not f) 1000 ≤ 24 → post 1 (tl, pt, lo, hi, T, sr_fill K (s * 1000) (sr_fill R 0 (sr_not f) 1000) 1000, sr_fill R 0 (sr_not f) 1000))
    (h0 : ¬ sr_st (sr_not f) 1000 ≤ 24 → post 0 (tl, pt, lo, hi, T, K, sr_fill R 0 (sr_not f) 1000)) :
    ∀ d i : Nat, i + d = 1000 → wY_invert_20 post (nI s) (nI a) tl pt lo hi (d + 1) (nI i) T K (sr_fill R 0 (sr_not f) i) := by
  intro d
  induction d with
  | zero =>
    intro i hi
    obtain rfl : i = 1000 := by omega
    exact br_t sr_1000e (y_end hs hB (sr_not_B f) (fun z => ⟨rfl, h1 z⟩) (fun z => ⟨rfl, h0 z⟩))
  | succ d IH =>
    intro i hi
    have cka : (1000 * nI a + nI i).toNatClampNeg = a * 1000 + i := pk_cl _ (sr_ixY a i)
    have ck2 : (nI i).toNatClampNeg = i := pk_cl i
    have hR : vp_in (nI i) 1000 := pk_in i 1000 (by omega)
    have st := sr_fill_z R (sr_not f) i
    have IH' := IH (i + 1) (by omega)
    refine br_f (sr_1000 (by omega)) ⟨pk_in (a * 1000 + i) 4000 (by omega) (sr_ixY a i), ?_⟩
    rw [cka, ck2, hf i (by omega)]
    by_cases z : f i = 0
    · have e : sr_not f i = 1 := if_pos z
      rw [e] at st
      exact br_t z ⟨hR, nm_r (by rw [sr_vb (Or.inr rfl)]; exact st) (nm_r (nI_1 i) IH')⟩
    · have e : sr_not f i = 0 := if_neg z
      rw [e] at st
      exact br_f z ⟨hR, nm_r (by rw [sr_vb (Or.inl rfl)]; exact st) (nm_r (nI_1 i) IH')⟩
/-! agreement after a kept result -/
def sr_ag (K M : Nat → Int32) : Prop := ∀ j, j < 4000 → K j = M j
theorem sr_ag_fill {K M N g : Nat → Int32} {s : Nat} (h : sr_ag K M) (hs : s < 4) (hN : ∀ v, v < 1000 → N v = g v) : sr_ag (sr_fill K (s * 1000) N 1000) (sr_fill M (s * 1000) g 1000) := by
  intro j hj
  by_cases z : s * 1000 ≤ j ∧ j < s * 1000 + 1000
  · obtain ⟨v, rfl⟩ : ∃ v, j = s * 1000 + v := ⟨j - s * 1000, by omega⟩
    rw [sr_fill_in (by omega), sr_fill_in (by omega)]
    exact hN v (by omega)
  · rw [sr_fill_out (by omega), sr_fill_out (by omega)]
    exact h j hj
theorem sr_ag_R {K M g : Nat → Int32} (h : sr_ag K M) : sr_ag K (sr_fill M 4000 g 1000) := by
  intro j hj
  rw [sr_fill_out (by omega)]
  exact h j hj
theorem sr_ag_new {K M R g : Nat → Int32} {s : Nat} (h : sr_ag K M) (hs : s < 4) : sr_ag (sr_fill K (s * 1000) (sr_fill R 0 g 1000) 1000) (sr_new M s g) :=
  sr_ag_fill (sr_ag_R h) hs (fun v hv => by
    have q := sr_fill_in (f := R) (b := 0) (g := g) hv
    rw [Nat.zero_add] at q
    rw [q, sr_fill_in hv])
theorem sr_new_B {M g : Nat → Int32} {s : Nat} (hM : sr_B M) (hg : sr_B g) : sr_B (sr_new M s g) :=
  sr_fill_B (sr_fill_B hM (fun v _ => hg v)) (fun v _ => sr_fill_B hM (fun v _ => hg v) (4000 + v))
end
section
/-! atLeast, atMost, within -/
def sr_al (f : Nat → Int32) : Nat → Nat → Int32
  | _, 0 => -3
  | i, d + 1 => if f i = 0 then sr_al f (i + 1) d else nI i
theorem sr_al_t {f : Nat → Int32} {i d : Nat} (h : f i = 0) : sr_al f i (d + 1) = sr_al f (i + 1) d := if_pos h
theorem sr_al_f {f : Nat → Int32} {i d : Nat} (h : ¬ f i = 0) : sr_al f i (d + 1) = nI i := if_neg h
theorem x_atl {post : Int32 → Prop} {s : Nat} {tl pl pd pa pb ia ib : Int32} {M T f : Nat → Int32} (hs : s < 4) (hf : ∀ v, v < 1000 → M (s * 1000 + v) = f v) :
    ∀ d i : Nat, i + d = 1000 → post (sr_al f i d) → wX_atLeast_22 post (nI s) tl pl pd pa pb ia ib M T (d + 1) (nI i) := by
  intro d
  induction d with
  | zero =>
    intro i hi h
    obtain rfl : i = 1000 := by omega
    exact br_t sr_1000e h
  | succ d IH =>
    intro i hi h
    have ck : (nI s * 1000 + nI i).toNatClampNeg = s * 1000 + i := pk_cl _ (sr_ixX s i)
    refine br_f (sr_1000 (by omega)) ⟨pk_in (s * 1000 + i) 5000 (by omega) (sr_ixX s i), ?_⟩
    rw [ck, hf i (by omega)]
    by_cases z : f i = 0
    · rw [sr_al_t z] at h
      exact br_t z (nm_r (nI_1 i) (IH (i + 1) (by omega) h))
    · rw [sr_al_f z] at h
      exact br_f z h
theorem y_atl {post : Int32 → Prop} {s : Nat} {tl pt lo hi x : Int32} {K T R f : Nat → Int32} (hs : s < 4) (hf : ∀ v, v < 1000 → K (s * 1000 + v) = f v) :
    ∀ d i : Nat, i + d = 1000 → (∀ v, i ≤ v → v < 1000 → ¬ nI v < x) → post (sr_al f i d) → wY_atLeast_12 post (nI s) x tl pt lo hi T K R (d + 1) (nI i) := by
  intro d
  induction d with
  | zero =>
    intro i hi hx h
    obtain rfl : i = 1000 := by omega
    exact br_t sr_1000e h
  | succ d IH =>
    intro i hi hx h
    have ck : (1000 * nI s + nI i).toNatClampNeg = s * 1000 + i := pk_cl _ (sr_ixY s i)
    refine br_f (sr_1000 (by omega)) ⟨pk_in (s * 1000 + i) 4000 (by omega) (sr_ixY s i), ?_⟩
    rw [ck, hf i (by omega)]
    by_cases z : f i = 0
    · rw [sr_al_t z] at h
      exact br_t z (nm_r (nI_1 i) (IH (i + 1) (by omega) (fun v h1 h2 => hx v (by omega) h2) h))
    · rw [sr_al_f z] at h
      exact br_f z (br_f (hx i (Nat.le_refl _) (by omega)) h)
theorem y_atl_s {post : Int32 → Prop} {s : Nat} {tl pt lo hi x : Int32} {K T R : Nat → Int32} {n j : Nat} (hs : s < 4) (hj : j ≤ 1000) (hx : ∀ v, v < j → nI v < x)
    (h : wY_atLeast_12 post (nI s) x tl pt lo hi T K R n (nI j)) :
    ∀ e i : Nat, i + e = j → wY_atLeast_12 post (nI s) x tl pt lo hi T K R (n + e) (nI i) := by
  intro e
  induction e with
  | zero =>
    intro i hi
    obtain rfl : i = j := by omega
    exact h
  | succ e IH =>
    intro i hi
    have IH' := IH (i + 1) (by omega)
    exact br_f (sr_1000 (by omega)) ⟨pk_in (s * 1000 + i) 4000 (by omega) (sr_ixY s i), br_c (fun _ => nm_r (nI_1 i) IH') (fun _ => br_t (hx i (by omega)) (nm_r (nI_1 i) IH'))⟩
def sr_am (f : Nat → Int32) : Nat → Int32
  | 0 => -3
  | i + 1 => if f i = 0 then sr_am f i else nI i
theorem sr_am_t {f : Nat → Int32} {i : Nat} (h : f i = 0) : sr_am f (i + 1) = sr_am f i := if_pos h
theorem sr_am_f {f : Nat → Int32} {i : Nat} (h : ¬ f i = 0) : sr_am f (i + 1) = nI i := if_neg h
theorem sr_dn (i : Nat) : nI i + (-1) = nI i - 1 := (Int32.sub_eq_add_neg _ _).symm
theorem x_atm {post : Int32 → Prop} {s : Nat} {tl pl pd pa pb ia ib : Int32} {M T f : Nat → Int32} (hs : s < 4) (hf : ∀ v, v < 1000 → M (s * 1000 + v) = f v) :
    ∀ i : Nat, i ≤ 1000 → post (sr_am f i) → wX_atMost_27 post (nI s) tl pl pd pa pb ia ib M T (i + 1) (nI i - 1) := by
  intro i
  induction i with
  | zero =>
    intro hi h
    exact br_t (by decide) h
  | succ i IH =>
    intro hi h
    rw [nI_pred]
    have ck : (nI s * 1000 + nI i).toNatClampNeg = s * 1000 + i := pk_cl _ (sr_ixX s i)
    refine br_f (nI_pos (by omega)) ⟨pk_in (s * 1000 + i) 5000 (by omega) (sr_ixX s i), ?_⟩
    rw [ck, hf i (by omega)]
    by_cases z : f i = 0
    · rw [sr_am_t z] at h
      exact br_t z (nm_r (sr_dn i) (IH (by omega) h))
    · rw [sr_am_f z] at h
      exact br_f z h
theorem y_atm {post : Int32 → Prop} {s : Nat} {tl pt lo hi x : Int32} {K T R f : Nat → Int32} (hs : s < 4) (hf : ∀ v, v < 1000 → K (s * 1000 + v) = f v) :
    ∀ i : Nat, i ≤ 1000 → (∀ v, v < i → ¬ x < nI v) → post (sr_am f i) → wY_atMost_14 post (nI s) x tl pt lo hi T K R (i + 1) (nI i - 1) := by
  intro i
  induction i with
  | zero =>
    intro hi hx h
    exact br_t (by decide) h
  | succ i IH =>
    intro hi hx h
    rw [nI_pred]
    have ck : (1000 * nI s + nI i).toNatClampNeg = s * 1000 + i := pk_cl _ (sr_ixY s i)
    refine br_f (nI_pos (by omega)) ⟨pk_in (s * 1000 + i) 4000 (by omega) (sr_ixY s i), ?_⟩
    rw [ck, hf i (by omega)]
    by_cases z : f i = 0
    · rw [sr_am_t z] at h
      exact br_t z (nm_r (sr_dn i) (IH (by omega) (fun v hv => hx v (by omega)) h))
    · rw [sr_am_f z] at h
      exact br_f z (br_f (hx i (by omega)) h)
theorem y_atm_s {post : Int32 → Prop} {s : Nat} {tl pt lo hi x : Int32} {K T R : Nat → Int32} {n j : Nat} (hs : s < 4) (hx : ∀ v, j ≤ v → v < 1000 → x < nI v)
    (h : wY_atMost_14 post (nI s) x tl pt lo hi T K R n (nI j - 1)) :
    ∀ e : Nat, j + e ≤ 1000 → wY_atMost_14 post (nI s) x tl pt lo hi T K R (n + e) (nI (j + e) - 1) := by
  intro e
  induction e with
  | zero => exact fun _ => h
  | succ e IH =>
    intro hi
    have IH' := IH (by omega)
    rw [show nI (j + (e + 1)) - 1 = nI (j + e) from nI_pred (j + e)]
    exact br_f (nI_pos (by omega)) ⟨pk_in (s * 1000 + (j + e)) 4000 (by omega) (sr_ixY s (j + e)), br_c (fun _ => nm_r (sr_dn _) IH') (fun _ => br_t (hx (j + e) (by omega) (by omega)) (nm_r (sr_dn _) IH'))⟩
def sr_wi (f g : Nat → Int32) : Nat → Nat → Int32
  | _, 0 => 1
  | i, d + 1 => if f i = 0 then sr_wi f g (i + 1) d else if g i = 0 then 0 else sr_wi f g (i + 1) d
theorem sr_wi_0 {f g : Nat → Int32} {i d : Nat} (h : f i = 0) : sr_wi f g i (d + 1) = sr_wi f g (i + 1) d := if_pos h
theorem sr_wi_1 {f g : Nat → Int32} {i d : Nat} (h : ¬ f i = 0) (h' : g i = 0) : sr_wi f g i (d + 1) = 0 := (if_neg h).trans (if_pos h')
theorem sr_wi_2 {f g : Nat → Int32} {i d : Nat} (h : ¬ f i = 0) (h' : ¬ g i = 0) : sr_wi f g i (d + 1) = sr_wi f g (i + 1) d := (if_neg h).trans (if_neg h')
theorem x_wi {post : Int32 → Prop} {a b : Nat} {tl pl pd pa pb ia ib : Int32} {M T f g : Nat → Int32} (ha : a < 4) (hb : b < 4) (hf : ∀ v, v < 1000 → M (a * 1000 + v) = f v) (hg : ∀ v, v < 1000 → M (b * 1000 + v) = g v) :
    ∀ d i : Nat, i + d = 1000 → post (sr_wi f g i d) → wX_within_18 post (nI a) (nI b) tl pl pd pa pb ia ib M T (d + 1) (nI i) := by
  intro d
  induction d with
  | zero =>
    intro i hi h
    obtain rfl : i = 1000 := by omega
    exact br_t sr_1000e h
  | succ d IH =>
    intro i hi h
    have cka : (nI a * 1000 + nI i).toNatClampNeg = a * 1000 + i := pk_cl _ (sr_ixX a i)
    have ckb : (nI b * 1000 + nI i).toNatClampNeg = b * 1000 + i := pk_cl _ (sr_ixX b i)
    refine br_f (sr_1000 (by omega)) ⟨pk_in (a * 1000 + i) 5000 (by omega) (sr_ixX a i), ?_⟩
    rw [cka, ckb, hf i (by omega), hg i (by omega)]
    by_cases z : f i = 0
    · rw [sr_wi_0 z] at h
      exact br_t z (nm_r (nI_1 i) (IH (i + 1) (by omega) h))
    · refine br_f z ⟨pk_in (b * 1000 + i) 5000 (by omega) (sr_ixX b i), ?_⟩
      by_cases y : g i = 0
      · rw [sr_wi_1 z y] at h
        exact br_t y h
      · rw [sr_wi_2 z y] at h
        exact br_f y (nm_r (nI_1 i) (IH (i + 1) (by omega) h))
theorem y_wi {post : Int32 → Prop} {a b : Nat} {tl pt lo hi : Int32} {K T R f g : Nat → Int32} (ha : a < 4) (hb : b < 4) (hf : ∀ v, v < 1000 → K (a * 1000 + v) = f v) (hg : ∀ v, v < 1000 → K (b * 1000 + v) = g v) :
    ∀ d i : Nat, i + d = 1000 → post (sr_wi f g i d) → wY_within_20 post (nI a) (nI b) tl pt lo hi T K R (d + 1) (nI i) := by
  intro d
  induction d with
  | zero =>
    intro i hi h
    obtain rfl : i = 1000 := by omega
    exact br_t sr_1000e h
  | succ d IH =>
    intro i hi h
    have cka : (1000 * nI a + nI i).toNatClampNeg = a * 1000 + i := pk_cl _ (sr_ixY a i)
    have ckb : (1000 * nI b + nI i).toNatClampNeg = b * 1000 + i := pk_cl _ (sr_ixY b i)
    refine br_f (sr_1000 (by omega)) ⟨pk_in (a * 1000 + i) 4000 (by omega) (sr_ixY a i), ?_⟩
    rw [cka, ckb, hf i (by omega), hg i (by omega)]
    by_cases z : f i = 0
    · rw [sr_wi_0 z] at h
      exact br_t z (nm_r (nI_1 i) (IH (i + 1) (by omega) h))
    · refine br_f z ⟨pk_in (b * 1000 + i) 4000 (by omega) (sr_ixY b i), ?_⟩
      by_cases y : g i = 0
      · rw [sr_wi_1 z y] at h
        exact br_t y h
      · rw [sr_wi_2 z y] at h
        exact br_f y (nm_r (nI_1 i) (IH (i + 1) (by omega) h))
/-! the reference's stretches copies the range into its result first -/
theorem y_sc {post : Int32 → SY → Prop} {s : Nat} {tl pt lo hi : Int32} {K T R f : Nat → Int32} (hs : s < 4) (hB : sr_B f) (hf : ∀ v, v < 1000 → K (s * 1000 + v) = f v)
    (h : post (nI (sr_st f 1000)) (tl, pt, lo, hi, T, K, sr_fill R 0 f 1000)) :
    ∀ d i : Nat, i + d = 1000 → wY_stretches_12 post (nI s) tl pt lo hi (d + 1) (nI i) T K (sr_fill R 0 f i) := by
  intro d
  induction d with
  | zero =>
    intro i hi
    obtain rfl : i = 1000 := by omega
    refine br_t sr_1000e (y_st (f := f) (fun v hv => ?_) h)
    have q := sr_fill_in (f := R) (b := 0) (g := f) hv
    rw [Nat.zero_add] at q
    exact q
  | succ d IH =>
    intro i hi
    have ck : (1000 * nI s + nI i).toNatClampNeg = s * 1000 + i := pk_cl _ (sr_ixY s i)
    have ck2 : (nI i).toNatClampNeg = i := pk_cl i
    refine br_f (sr_1000 (by omega)) ⟨pk_in (s * 1000 + i) 4000 (by omega) (sr_ixY s i), pk_in i 1000 (by omega), nm_r ?_ (nm_r (nI_1 i) (IH (i + 1) (by omega)))⟩
    rw [ck, ck2, hf i (by omega), sr_vb (hB i)]
    exact sr_fill_z R f i
end
section
/-! one, two or three digits: X's readPartial, Y's digitsAt, lowOf, highOf -/
theorem x_rpF {post : Int32 → SX → Prop} {n L p k : Nat} {x1 pd pa pb ia ib : Int32} {M T : Nat → Int32} (hL : L ≤ 40) (hp : p ≤ 100) (hk : k ≤ 3) (e : ¬ sr_dig (sr_ch T L p))
    (h : post 0 (nI L, nI p, pd, pa, pb, ia, ib, M, T)) : wX_readPartial_11 post (n + 1) x1 (nI k) (nI L) (nI p) pd pa pb ia ib M T :=
  br_f (nI_nlt (a := 3) hk (by decide)) (x_td0 hL hp e (br_f (by decide) h))
theorem sr_d10 {z : Nat} (hz : z ≤ 100) : nI (10 * z) / 10 = nI z := by
  have e : nI (10 * z) / 10 = nI (10 * z / 10) := pk_div (d := 10) (by omega) (by omega) (by omega)
  rw [e]
  exact congrArg nI (by omega)
theorem sr_lo (lo g z : Nat) : nI lo + nI g * nI z = nI (lo + g * z) := by rw [pk_mul, nI_add]
theorem sr_hi {w z : Nat} (hz : 1 ≤ z) : nI w + nI z - 1 = nI (w + z - 1) := by
  rw [nI_add]
  exact pk_sub (a := w + z) (b := 1) (by omega)
theorem x_rp3 {post : Int32 → SX → Prop} {n L p g lo : Nat} {pd pb ia ib : Int32} {M T : Nat → Int32} (hL : L ≤ 40) (hg : g ≤ 9) (e : sr_ch T L p = nI (48 + g))
    (h : post 1 (nI L, nI (p + 1), nI 3, nI (lo + g * 1), nI (lo + g * 1 + 1 - 1), ia, ib, M, T)) : wX_readPartial_11 post (n + 1) (nI (10 * 1)) (nI 3) (nI L) (nI p) pd (nI lo) pb ia ib M T :=
  br_f (nI_nlt (a := 3) (Nat.le_refl _) (by decide)) (x_td1 hL e hg (br_t (nI_pos' (by omega)) ⟨by decide, nm_r (sr_d10 (by omega)) (nm_r (sr_lo lo g 1) (nm_r (sr_hi (Nat.le_refl _)) (br_t rfl h)))⟩))
theorem x_rpE {post : Int32 → SX → Prop} {n L p g lo k z : Nat} {pd pb ia ib : Int32} {M T : Nat → Int32} (hL : L ≤ 40) (hk : k < 3) (hz : 1 ≤ z) (hz' : z ≤ 100) (hg : g ≤ 9) (e : sr_ch T L p = nI (48 + g)) (e' : ¬ sr_ch T L (p + 1) = 46)
    (h : post 1 (nI L, nI (p + 1), nI k, nI (lo + g * z), nI (lo + g * z + z - 1), ia, ib, M, T)) : wX_readPartial_11 post (n + 1) (nI (10 * z)) (nI k) (nI L) (nI p) pd (nI lo) pb ia ib M T := by
  have hp := sr_ch_lt e (sr_dn0 hg)
  exact br_f (nI_nlt (a := 3) (by omega) (by decide)) (x_td1 hL e hg (br_t (nI_pos' (by omega)) ⟨by decide, nm_r (sr_d10 hz') (nm_r (sr_lo lo g z) (nm_r (sr_hi hz) (br_f (fun q => absurd ((nI_eq (a := k) (b := 3) (by omega) (by omega)).mp q) (by omega)) (x_tk0 hL (by omega) e' (br_t rfl h)))))⟩))
theorem x_rpN {post : Int32 → SX → Prop} {n L p g lo k z : Nat} {pd pb ia ib : Int32} {M T : Nat → Int32} (hL : L ≤ 40) (hk : k < 3) (hz : 1 ≤ z) (hz' : z ≤ 100) (hg : g ≤ 9) (e : sr_ch T L p = nI (48 + g)) (e' : sr_ch T L (p + 1) = 46)
    (h : wX_readPartial_11 post n (nI z) (nI (k + 1)) (nI L) (nI (p + 2)) (nI k) (nI (lo + g * z)) (nI (lo + g * z + z - 1)) ia ib M T) : wX_readPartial_11 post (n + 1) (nI (10 * z)) (nI k) (nI L) (nI p) pd (nI lo) pb ia ib M T :=
  br_f (nI_nlt (a := 3) (by omega) (by decide)) (x_td1 hL e hg (br_t (nI_pos' (by omega)) ⟨by decide, nm_r (sr_d10 hz') (nm_r (sr_lo lo g z) (nm_r (sr_hi hz) (br_f (fun q => absurd ((nI_eq (a := k) (b := 3) (by omega) (by omega)).mp q) (by omega)) (x_tk1 hL e' (by decide) (br_f (by decide) (nm_r (nI_1 k) h))))))⟩))
theorem sr_46 : ¬ sr_dig 46 := by unfold sr_dig; decide
theorem y_dg0 {post : Int32 → Prop} {L p : Nat} {pt lo hi : Int32} {T K R : Nat → Int32} (hL : L ≤ 40) (hp : p ≤ 90) (e0 : ¬ sr_dig (sr_ch T L p)) (h : post 0) : wpY_digitsAt post (nI L, pt, lo, hi, T, K, R) (nI p) := by
  unfold wpY_digitsAt
  dsimp only
  exact y_ch p hL (by omega) rfl (y_ch (p + 2) hL (by omega) (nI_add p 2) (y_ch (p + 4) hL (by omega) (nI_add p 4) (y_i0 e0 (br_t rfl h))))
theorem y_dg1 {post : Int32 → Prop} {L p : Nat} {pt lo hi : Int32} {T K R : Nat → Int32} (hL : L ≤ 40) (hp : p ≤ 90) (e0 : sr_dig (sr_ch T L p)) (e1 : ¬ sr_ch T L (p + 1) = 46) (h : post 1) : wpY_digitsAt post (nI L, pt, lo, hi, T, K, R) (nI p) := by
  unfold wpY_digitsAt
  dsimp only
  exact y_ch p hL (by omega) rfl (y_ch (p + 2) hL (by omega) (nI_add p 2) (y_ch (p + 4) hL (by omega) (nI_add p 4) (y_i1 e0 (br_f (by decide) (y_ch (p + 1) hL (by omega) (nI_add p 1) (br_f e1 h))))))
theorem y_dg10 {post : Int32 → Prop} {L p : Nat} {pt lo hi : Int32} {T K R : Nat → Int32} (hL : L ≤ 40) (hp : p ≤ 90) (e0 : sr_dig (sr_ch T L p)) (e1 : sr_ch T L (p + 1) = 46) (e2 : ¬ sr_dig (sr_ch T L (p + 2))) (h : post 0) : wpY_digitsAt post (nI L, pt, lo, hi, T, K, R) (nI p) := by
  unfold wpY_digitsAt
  dsimp only
  exact y_ch p hL (by omega) rfl (y_ch (p + 2) hL (by omega) (nI_add p 2) (y_ch (p + 4) hL (by omega) (nI_add p 4) (y_i1 e0 (br_f (by decide) (y_ch (p + 1) hL (by omega) (nI_add p 1) (br_t e1 (y_i0 e2 (br_t rfl h))))))))
theorem y_dg2 {post : Int32 → Prop} {L p : Nat} {pt lo hi : Int32} {T K R : Nat → Int32} (hL : L ≤ 40) (hp : p ≤ 90) (e0 : sr_dig (sr_ch T L p)) (e1 : sr_ch T L (p + 1) = 46) (e2 : sr_dig (sr_ch T L (p + 2))) (e3 : ¬ sr_ch T L (p + 3) = 46) (h : post 2) : wpY_digitsAt post (nI L, pt, lo, hi, T, K, R) (nI p) := by
  unfold wpY_digitsAt
  dsimp only
  exact y_ch p hL (by omega) rfl (y_ch (p + 2) hL (by omega) (nI_add p 2) (y_ch (p + 4) hL (by omega) (nI_add p 4) (y_i1 e0 (br_f (by decide) (y_ch (p + 1) hL (by omega) (nI_add p 1) (br_t e1 (y_i1 e2 (br_f (by decide) (y_ch (p + 3) hL (by omega) (nI_add p 3) (br_f e3 h))))))))))
theorem y_dg20 {post : Int32 → Prop} {L p : Nat} {pt lo hi : Int32} {T K R : Nat → Int32} (hL : L ≤ 40) (hp : p ≤ 90) (e0 : sr_dig (sr_ch T L p)) (e1 : sr_ch T L (p + 1) = 46) (e2 : sr_dig (sr_ch T L (p + 2))) (e3 : sr_ch T L (p + 3) = 46) (e4 : ¬ sr_dig (sr_ch T L (p + 4))) (h : post 0) : wpY_digitsAt post (nI L, pt, lo, hi, T, K, R) (nI p) := by
  unfold wpY_digitsAt
  dsimp only
  exact y_ch p hL (by omega) rfl (y_ch (p + 2) hL (by omega) (nI_add p 2) (y_ch (p + 4) hL (by omega) (nI_add p 4) (y_i1 e0 (br_f (by decide) (y_ch (p + 1) hL (by omega) (nI_add p 1) (br_t e1 (y_i1 e2 (br_f (by decide) (y_ch (p + 3) hL (by omega) (nI_add p 3) (br_t e3 (y_i0 e4 (br_t rfl h))))))))))))
theorem y_dg3 {post : Int32 → Prop} {L p : Nat} {pt lo hi : Int32} {T K R : Nat → Int32} (hL : L ≤ 40) (hp : p ≤ 90) (e0 : sr_dig (sr_ch T L p)) (e1 : sr_ch T L (p + 1) = 46) (e2 : sr_dig (sr_ch T L (p + 2))) (e3 : sr_ch T L (p + 3) = 46) (e4 : sr_dig (sr_ch T L (p + 4))) (h : post 3) : wpY_digitsAt post (nI L, pt, lo, hi, T, K, R) (nI p) := by
  unfold wpY_digitsAt
  dsimp only
  exact y_ch p hL (by omega) rfl (y_ch (p + 2) hL (by omega) (nI_add p 2) (y_ch (p + 4) hL (by omega) (nI_add p 4) (y_i1 e0 (br_f (by decide) (y_ch (p + 1) hL (by omega) (nI_add p 1) (br_t e1 (y_i1 e2 (br_f (by decide) (y_ch (p + 3) hL (by omega) (nI_add p 3) (br_t e3 (y_i1 e4 (br_f (by decide) h))))))))))))
theorem sr_m100 (g : Nat) : 100 * nI g = nI (100 * g) := pk_mul 100 g
theorem sr_m10 (a g : Nat) : nI a + 10 * nI g = nI (a + 10 * g) := by
  have e : 10 * nI g = nI (10 * g) := pk_mul 10 g
  rw [e, nI_add]
theorem y_lw1 {post : Int32 → Prop} {L p g : Nat} {pt lo hi : Int32} {T K R : Nat → Int32} (hL : L ≤ 40) (hp : p ≤ 90) (e0 : sr_ch T L p = nI (48 + g)) (h : post (nI (100 * g))) : wpY_lowOf post (nI L, pt, lo, hi, T, K, R) (nI p) 1 := by
  unfold wpY_lowOf
  dsimp only
  refine y_da p hL (by omega) rfl ?_
  rw [e0, sr_m48]
  exact nm_r (sr_m100 g) (br_t (by decide) (br_t (by decide) h))
theorem y_lw2 {post : Int32 → Prop} {L p g g2 : Nat} {pt lo hi : Int32} {T K R : Nat → Int32} (hL : L ≤ 40) (hp : p ≤ 90) (e0 : sr_ch T L p = nI (48 + g)) (e2 : sr_ch T L (p + 2) = nI (48 + g2)) (h : post (nI (100 * g + 10 * g2))) : wpY_lowOf post (nI L, pt, lo, hi, T, K, R) (nI p) 2 := by
  unfold wpY_lowOf
  dsimp only
  refine y_da p hL (by omega) rfl ?_
  rw [e0, sr_m48]
  refine nm_r (sr_m100 g) (br_f (by decide) (y_da (p + 2) hL (by omega) (nI_add p 2) ?_))
  rw [e2, sr_m48]
  exact nm_r (sr_m10 _ g2) (br_t (by decide) h)
theorem y_lw3 {post : Int32 → Prop} {L p g g2 g3 : Nat} {pt lo hi : Int32} {T K R : Nat → Int32} (hL : L ≤ 40) (hp : p ≤ 90) (e0 : sr_ch T L p = nI (48 + g)) (e2 : sr_ch T L (p + 2) = nI (48 + g2)) (e4 : sr_ch T L (p + 4) = nI (48 + g3)) (h : post (nI (100 * g + 10 * g2 + g3))) : wpY_lowOf post (nI L, pt, lo, hi, T, K, R) (nI p) 3 := by
  unfold wpY_lowOf
  dsimp only
  refine y_da p hL (by omega) rfl ?_
  rw [e0, sr_m48]
  refine nm_r (sr_m100 g) (br_f (by decide) (y_da (p + 2) hL (by omega) (nI_add p 2) ?_))
  rw [e2, sr_m48]
  refine nm_r (sr_m10 _ g2) (br_f (by decide) (y_da (p + 4) hL (by omega) (nI_add p 4) ?_))
  rw [e4, sr_m48, nI_add]
  exact h
theorem y_hw0 {post : Int32 → Prop} {L p : Nat} {pt lo hi : Int32} {T K R : Nat → Int32} (hL : L ≤ 40) (hp : p ≤ 90) (h : ∀ r, post r) : wpY_highOf post (nI L, pt, lo, hi, T, K, R) (nI p) 0 := by
  unfold wpY_highOf wpY_lowOf
  dsimp only
  exact y_da p hL (by omega) rfl (nm_e (br_t (by decide) (br_t (by decide) (br_f (by decide) (br_f (by decide) (h _))))))
theorem y_hw1 {post : Int32 → Prop} {L p g : Nat} {pt lo hi : Int32} {T K R : Nat → Int32} (hL : L ≤ 40) (hp : p ≤ 90) (e0 : sr_ch T L p = nI (48 + g)) (h : post (nI (100 * g + 99))) : wpY_highOf post (nI L, pt, lo, hi, T, K, R) (nI p) 1 := by
  unfold wpY_highOf
  dsimp only
  refine y_lw1 hL hp e0 (br_t rfl ?_)
  have q : nI (100 * g) + 99 = nI (100 * g + 99) := nI_add _ 99
  rw [q]
  exact h
theorem y_hw2 {post : Int32 → Prop} {L p g g2 : Nat} {pt lo hi : Int32} {T K R : Nat → Int32} (hL : L ≤ 40) (hp : p ≤ 90) (e0 : sr_ch T L p = nI (48 + g)) (e2 : sr_ch T L (p + 2) = nI (48 + g2)) (h : post (nI (100 * g + 10 * g2 + 9))) : wpY_highOf post (nI L, pt, lo, hi, T, K, R) (nI p) 2 := by
  unfold wpY_highOf
  dsimp only
  refine y_lw2 hL hp e0 e2 (br_f (by decide) (br_t rfl ?_))
  have q : nI (100 * g + 10 * g2) + 9 = nI (100 * g + 10 * g2 + 9) := nI_add _ 9
  rw [q]
  exact h
theorem y_hw3 {post : Int32 → Prop} {L p g g2 g3 : Nat} {pt lo hi : Int32} {T K R : Nat → Int32} (hL : L ≤ 40) (hp : p ≤ 90) (e0 : sr_ch T L p = nI (48 + g)) (e2 : sr_ch T L (p + 2) = nI (48 + g2)) (e4 : sr_ch T L (p + 4) = nI (48 + g3)) (h : post (nI (100 * g + 10 * g2 + g3))) : wpY_highOf post (nI L, pt, lo, hi, T, K, R) (nI p) 3 := by
  unfold wpY_highOf
  dsimp only
  exact y_lw3 hL hp e0 e2 e4 (br_f (by decide) (br_f (by decide) h))
/-- n digits stand at p, for the versions from lo to hi -/
def sr_PS (T : Nat → Int32) (L p n lo hi : Nat) : Prop := 1 ≤ n ∧ n ≤ 3 ∧ p + 2 * n - 1 ≤ L ∧ lo ≤ hi ∧ hi ≤ 999 ∧ (n = 1 → lo % 100 = 0 ∧ hi = lo + 99)
  ∧ (∀ (post : Int32 → SX → Prop) (pd pa pb ia ib : Int32) (M : Nat → Int32), post 1 (nI L, nI (p + 2 * n - 1), nI n, nI lo, nI hi, ia, ib, M, T) → wpX_readPartial post (nI L, nI p, pd, pa, pb, ia, ib, M, T))
  ∧ (∀ (post : Int32 → Prop) (pt l h : Int32) (K R : Nat → Int32), post (nI n) → wpY_digitsAt post (nI L, pt, l, h, T, K, R) (nI p))
  ∧ (∀ (post : Int32 → Prop) (pt l h : Int32) (K R : Nat → Int32), post (nI lo) → wpY_lowOf post (nI L, pt, l, h, T, K, R) (nI p) (nI n))
  ∧ (∀ (post : Int32 → Prop) (pt l h : Int32) (K R : Nat → Int32), post (nI hi) → wpY_highOf post (nI L, pt, l, h, T, K, R) (nI p) (nI n))
/-- no such digits stand at p -/
def sr_PF (T : Nat → Int32) (L p : Nat) : Prop :=
  (∀ (post : Int32 → SX → Prop) (pd pa pb ia ib : Int32) (M : Nat → Int32), (∀ pl' pd' pa' pb' : Int32, post 0 (nI L, pl', pd', pa', pb', ia, ib, M, T)) → wpX_readPartial post (nI L, nI p, pd, pa, pb, ia, ib, M, T))
  ∧ (∀ (post : Int32 → Prop) (pt l h : Int32) (K R : Nat → Int32), post 0 → wpY_digitsAt post (nI L, pt, l, h, T, K, R) (nI p))
theorem sr_part (T : Nat → Int32) {L p : Nat} (hL : L ≤ 40) (hp : p ≤ 90) : sr_PF T L p ∨ ∃ n lo hi, sr_PS T L p n lo hi := by
  by_cases d0 : sr_dig (sr_ch T L p)
  · obtain ⟨g, hg, e0⟩ := sr_dig_of d0
    have hp0 := sr_ch_lt e0 (sr_dn0 hg)
    by_cases e1 : sr_ch T L (p + 1) = 46
    · by_cases d2 : sr_dig (sr_ch T L (p + 2))
      · obtain ⟨g2, hg2, e2⟩ := sr_dig_of d2
        have hp2 := sr_ch_lt e2 (sr_dn0 hg2)
        by_cases e3 : sr_ch T L (p + 3) = 46
        · by_cases d4 : sr_dig (sr_ch T L (p + 4))
          · obtain ⟨g3, hg3, e4⟩ := sr_dig_of d4
            have hp4 := sr_ch_lt e4 (sr_dn0 hg3)
            refine Or.inr ⟨3, 100 * g + 10 * g2 + g3, 100 * g + 10 * g2 + g3, by omega, by omega, by omega, by omega, by omega, by omega, ?_, fun post pt l h K R q => y_dg3 hL hp d0 e1 d2 e3 d4 q, fun post pt l h K R q => y_lw3 hL hp e0 e2 e4 q, fun post pt l h K R q => y_hw3 hL hp e0 e2 e4 q⟩
            intro post pd pa pb ia ib M q
            refine ⟨4, x_rpN (n := 3) (k := 1) (z := 100) (lo := 0) hL (by omega) (by omega) (by omega) hg e0 e1 (x_rpN (n := 2) (k := 2) (z := 10) (p := p + 2) hL (by omega) (by omega) (by omega) hg2 e2 e3 (x_rp3 (n := 1) (p := p + 4) hL hg3 e4 ?_))⟩
            have w1 : p + 4 + 1 = p + 2 * 3 - 1 := by omega
            have w2 : 0 + g * 100 + g2 * 10 + g3 * 1 = 100 * g + 10 * g2 + g3 := by omega
            have w3 : 100 * g + 10 * g2 + g3 + 1 - 1 = 100 * g + 10 * g2 + g3 := by omega
            rw [w1, w2, w3]
            exact q
          · refine Or.inl ⟨?_, fun post pt l h K R q => y_dg20 hL hp d0 e1 d2 e3 d4 q⟩
            intro post pd pa pb ia ib M q
            exact ⟨4, x_rpN (n := 3) (k := 1) (z := 100) (lo := 0) hL (by omega) (by omega) (by omega) hg e0 e1 (x_rpN (n := 2) (k := 2) (z := 10) (p := p + 2) hL (by omega) (by omega) (by omega) hg2 e2 e3 (x_rpF (n := 1) (k := 3) (p := p + 4) hL (by omega) (by omega) d4 (q _ _ _ _)))⟩
        · refine Or.inr ⟨2, 100 * g + 10 * g2, 100 * g + 10 * g2 + 9, by omega, by omega, by omega, by omega, by omega, by omega, ?_, fun post pt l h K R q => y_dg2 hL hp d0 e1 d2 e3 q, fun post pt l h K R q => y_lw2 hL hp e0 e2 q, fun post pt l h K R q => y_hw2 hL hp e0 e2 q⟩
          intro post pd pa pb ia ib M q
          refine ⟨4, x_rpN (n := 3) (k := 1) (z := 100) (lo := 0) hL (by omega) (by omega) (by omega) hg e0 e1 (x_rpE (n := 2) (k := 2) (z := 10) (p := p + 2) hL (by omega) (by omega) (by omega) hg2 e2 e3 ?_)⟩
          have w1 : p + 2 + 1 = p + 2 * 2 - 1 := by omega
          have w2 : 0 + g * 100 + g2 * 10 = 100 * g + 10 * g2 := by omega
          have w3 : 100 * g + 10 * g2 + 10 - 1 = 100 * g + 10 * g2 + 9 := by omega
          rw [w1, w2, w3]
          exact q
      · refine Or.inl ⟨?_, fun post pt l h K R q => y_dg10 hL hp d0 e1 d2 q⟩
        intro post pd pa pb ia ib M q
        exact ⟨4, x_rpN (n := 3) (k := 1) (z := 100) (lo := 0) hL (by omega) (by omega) (by omega) hg e0 e1 (x_rpF (n := 2) (k := 2) (p := p + 2) hL (by omega) (by omega) d2 (q _ _ _ _))⟩
    · refine Or.inr ⟨1, 100 * g, 100 * g + 99, by omega, by omega, by omega, by omega, by omega, by omega, ?_, fun post pt l h K R q => y_dg1 hL hp d0 e1 q, fun post pt l h K R q => y_lw1 hL hp e0 q, fun post pt l h K R q => y_hw1 hL hp e0 q⟩
      intro post pd pa pb ia ib M q
      refine ⟨4, x_rpE (n := 3) (k := 1) (z := 100) (lo := 0) hL (by omega) (by omega) (by omega) hg e0 e1 ?_⟩
      have w1 : p + 1 = p + 2 * 1 - 1 := by omega
      have w2 : 0 + g * 100 = 100 * g := by omega
      have w3 : 100 * g + 100 - 1 = 100 * g + 99 := by omega
      rw [w2, w3, w1]
      exact q
  · refine Or.inl ⟨?_, fun post pt l h K R q => y_dg0 hL hp d0 q⟩
    intro post pd pa pb ia ib M q
    exact ⟨4, x_rpF (n := 3) (k := 1) hL (by omega) (by omega) d0 (q _ _ _ _)⟩
end
section
/-! an item: X's takeMark, setMarkedItem, readItem; Y's readItem and what it calls -/
def sr_MK (T : Nat → Int32) (L p : Nat) (m : Int32) (q : Nat) : Prop :=
  ∀ (post : Int32 → SX → Prop) (pd pa pb ia ib : Int32) (M : Nat → Int32), post m (nI L, nI q, pd, pa, pb, ia, ib, M, T) → wpX_takeMark post (nI L, nI p, pd, pa, pb, ia, ib, M, T)
theorem x_mk2 {T : Nat → Int32} {L p : Nat} (hL : L ≤ 40) (e : sr_ch T L p = 60) (e1 : sr_ch T L (p + 1) = 61) : sr_MK T L p 2 (p + 2) := by
  intro post pd pa pb ia ib M h
  unfold wpX_takeMark
  dsimp only
  exact x_tk1 hL e (by decide) (br_f (by decide) (x_tk1 hL e1 (by decide) (br_f (by decide) h)))
theorem x_mk1 {T : Nat → Int32} {L p : Nat} (hL : L ≤ 40) (e : sr_ch T L p = 60) (e1 : ¬ sr_ch T L (p + 1) = 61) : sr_MK T L p 1 (p + 1) := by
  intro post pd pa pb ia ib M h
  have hp := sr_ch_lt e (by decide)
  unfold wpX_takeMark
  dsimp only
  exact x_tk1 hL e (by decide) (br_f (by decide) (x_tk0 hL (by omega) e1 (br_t rfl h)))
theorem x_mk4 {T : Nat → Int32} {L p : Nat} (hL : L ≤ 40) (e : sr_ch T L p = 62) (e1 : sr_ch T L (p + 1) = 61) : sr_MK T L p 4 (p + 2) := by
  intro post pd pa pb ia ib M h
  have hp := sr_ch_lt e (by decide)
  unfold wpX_takeMark
  dsimp only
  exact x_tk0 hL (by omega) (by rw [e]; decide) (br_t rfl (x_tk1 hL e (by decide) (br_f (by decide) (x_tk1 hL e1 (by decide) (br_f (by decide) h)))))
theorem x_mk3 {T : Nat → Int32} {L p : Nat} (hL : L ≤ 40) (e : sr_ch T L p = 62) (e1 : ¬ sr_ch T L (p + 1) = 61) : sr_MK T L p 3 (p + 1) := by
  intro post pd pa pb ia ib M h
  have hp := sr_ch_lt e (by decide)
  unfold wpX_takeMark
  dsimp only
  exact x_tk0 hL (by omega) (by rw [e]; decide) (br_t rfl (x_tk1 hL e (by decide) (br_f (by decide) (x_tk0 hL (by omega) e1 (br_t rfl h)))))
theorem x_mk5 {T : Nat → Int32} {L p : Nat} (hL : L ≤ 40) (e : sr_ch T L p = 94) : sr_MK T L p 5 (p + 1) := by
  intro post pd pa pb ia ib M h
  have hp := sr_ch_lt e (by decide)
  unfold wpX_takeMark
  dsimp only
  exact x_tk0 hL (by omega) (by rw [e]; decide) (br_t rfl (x_tk0 hL (by omega) (by rw [e]; decide) (br_t rfl (x_tk1 hL e (by decide) (br_f (by decide) h)))))
theorem x_mk6 {T : Nat → Int32} {L p : Nat} (hL : L ≤ 40) (e : sr_ch T L p = 126) : sr_MK T L p 6 (p + 1) := by
  intro post pd pa pb ia ib M h
  have hp := sr_ch_lt e (by decide)
  unfold wpX_takeMark
  dsimp only
  exact x_tk0 hL (by omega) (by rw [e]; decide) (br_t rfl (x_tk0 hL (by omega) (by rw [e]; decide) (br_t rfl (x_tk0 hL (by omega) (by rw [e]; decide) (br_t rfl (x_tk1 hL e (by decide) (br_f (by decide) h)))))))
theorem x_mk0 {T : Nat → Int32} {L p : Nat} (hL : L ≤ 40) (hp : p ≤ 90) (e1 : ¬ sr_ch T L p = 60) (e2 : ¬ sr_ch T L p = 62) (e3 : ¬ sr_ch T L p = 94) (e4 : ¬ sr_ch T L p = 126) : sr_MK T L p 0 p := by
  intro post pd pa pb ia ib M h
  unfold wpX_takeMark
  dsimp only
  exact x_tk0 hL (by omega) e1 (br_t rfl (x_tk0 hL (by omega) e2 (br_t rfl (x_tk0 hL (by omega) e3 (br_t rfl (x_tk0 hL (by omega) e4 (br_t rfl h)))))))
/-! what an item's high end is for "^" and "~" -/
def sr_car (lo n : Nat) : Nat := if 100 ≤ lo ∨ n = 1 then lo / 100 * 100 + 99 else if 10 ≤ lo ∨ n = 2 then lo / 10 * 10 + 9 else lo
def sr_til (lo n : Nat) : Nat := if n = 1 then lo / 100 * 100 + 99 else lo / 10 * 10 + 9
theorem sr_car_le {lo n : Nat} (h : lo ≤ 999) : sr_car lo n ≤ 999 := by
  unfold sr_car
  split
  · omega
  · split
    · omega
    · omega
theorem sr_til_le {lo n : Nat} (h : lo ≤ 999) : sr_til lo n ≤ 999 := by
  unfold sr_til
  split
  · omega
  · omega
theorem x_maj {post : Int32 → Prop} {v : Nat} (hv : v ≤ 999) (h : post (nI (v / 100 * 100 + 99))) : wpX_lastOfMajor post (nI v) := ⟨by decide, by rw [sr_maj (by omega)]; exact h⟩
theorem x_min {post : Int32 → Prop} {v : Nat} (hv : v ≤ 999) (h : post (nI (v / 10 * 10 + 9))) : wpX_lastOfMinor post (nI v) := ⟨by decide, by rw [sr_min (by omega)]; exact h⟩
theorem sr_n1 {n : Nat} (hn : n ≤ 3) (h : ¬ n = 1) : ¬ nI n = 1 := fun q => h ((nI_eq (a := n) (b := 1) (by omega) (by omega)).mp q)
theorem sr_n2 {n : Nat} (hn : n ≤ 3) (h : ¬ n = 2) : ¬ nI n = 2 := fun q => h ((nI_eq (a := n) (b := 2) (by omega) (by omega)).mp q)
theorem x_c27 {post : Int32 → Prop} {tl pl pd pb ia ib : Int32} {M T : Nat → Int32} {v : Nat} (hv : v ≤ 999) (h : post (nI (v / 100 * 100 + 99))) : wX_caretHigh_27 post tl pl pd (nI v) pb ia ib M T := by
  unfold wX_caretHigh_27
  exact x_maj hv h
theorem x_c62 {post : Int32 → Prop} {tl pl pd pb ia ib : Int32} {M T : Nat → Int32} {v : Nat} (hv : v ≤ 999) (h : post (nI (v / 10 * 10 + 9))) : wX_caretHigh_62 post tl pl pd (nI v) pb ia ib M T := by
  unfold wX_caretHigh_62
  exact x_min hv h
theorem x_car {post : Int32 → Prop} {tl pl pb ia ib : Int32} {M T : Nat → Int32} {v n : Nat} (hv : v ≤ 999) (hn : n ≤ 3) (h : post (nI (sr_car v n))) : wpX_caretHigh post (tl, pl, nI n, nI v, pb, ia, ib, M, T) := by
  unfold sr_car at h
  by_cases a : 100 ≤ v
  · rw [if_pos (Or.inl a)] at h
    exact br_t (nI_le (a := 100) a (by omega)) (br_t rfl (x_c27 hv h))
  · refine br_f (nI_ge (b := 100) (by omega) (by decide)) (br_f (by decide) ?_)
    by_cases b : n = 1
    · rw [if_pos (Or.inr b)] at h
      exact br_t (by rw [b]; rfl) (x_c27 hv h)
    · rw [if_neg (by omega)] at h
      refine br_f (sr_n1 hn b) ?_
      by_cases c : 10 ≤ v
      · rw [if_pos (Or.inl c)] at h
        exact br_t (nI_le (a := 10) c (by omega)) (br_t rfl (x_c62 hv h))
      · refine br_f (nI_ge (b := 10) (by omega) (by decide)) (br_f (by decide) ?_)
        by_cases d : n = 2
        · rw [if_pos (Or.inr d)] at h
          exact br_t (by rw [d]; rfl) (x_c62 hv h)
        · rw [if_neg (by omega)] at h
          exact br_f (sr_n2 hn d) h
/-! setMarkedItem, by its mark -/
theorem x_77_0 {post : Int32 → SX → Prop} {tl pl n lo hi ia ib : Int32} {M T : Nat → Int32} (h : post 1 (tl, pl, n, lo, hi, lo, hi, M, T)) : wX_readItem_77 post 0 tl pl n lo hi ia ib M T := by
  unfold wX_readItem_77 wpX_setMarkedItem
  dsimp only
  exact br_t (by decide) h
theorem x_77_1 {post : Int32 → SX → Prop} {tl pl n lo hi ia ib : Int32} {M T : Nat → Int32} (h : post 1 (tl, pl, n, lo, hi, 0, lo - 1, M, T)) : wX_readItem_77 post 1 tl pl n lo hi ia ib M T := by
  unfold wX_readItem_77 wpX_setMarkedItem
  dsimp only
  exact br_f (by decide) (br_f (by decide) (br_t rfl (nm_e h)))
theorem x_77_2 {post : Int32 → SX → Prop} {tl pl n lo hi ia ib : Int32} {M T : Nat → Int32} (h : post 1 (tl, pl, n, lo, hi, 0, hi, M, T)) : wX_readItem_77 post 2 tl pl n lo hi ia ib M T := by
  unfold wX_readItem_77 wpX_setMarkedItem
  dsimp only
  exact br_f (by decide) (br_f (by decide) (br_f (by decide) (br_t rfl h)))
theorem x_77_3 {post : Int32 → SX → Prop} {tl pl n lo hi ia ib : Int32} {M T : Nat → Int32} (h : post 1 (tl, pl, n, lo, hi, hi + 1, 999, M, T)) : wX_readItem_77 post 3 tl pl n lo hi ia ib M T := by
  unfold wX_readItem_77 wpX_setMarkedItem
  dsimp only
  exact br_f (by decide) (br_f (by decide) (br_f (by decide) (br_f (by decide) (br_t rfl (nm_e h)))))
theorem x_77_4 {post : Int32 → SX → Prop} {tl pl n lo hi ia ib : Int32} {M T : Nat → Int32} (h : post 1 (tl, pl, n, lo, hi, lo, 999, M, T)) : wX_readItem_77 post 4 tl pl n lo hi ia ib M T := by
  unfold wX_readItem_77 wpX_setMarkedItem
  dsimp only
  exact br_f (by decide) (br_f (by decide) (br_f (by decide) (br_f (by decide) (br_f (by decide) (br_t rfl h)))))
theorem x_77_5 {post : Int32 → SX → Prop} {tl pl hi ia ib : Int32} {M T : Nat → Int32} {n lo : Nat} (hv : lo ≤ 999) (hn : n ≤ 3) (h : post 1 (tl, pl, nI n, nI lo, hi, nI lo, nI (sr_car lo n), M, T)) : wX_readItem_77 post 5 tl pl (nI n) (nI lo) hi ia ib M T := by
  unfold wX_readItem_77 wpX_setMarkedItem
  dsimp only
  exact br_f (by decide) (br_f (by decide) (br_f (by decide) (br_f (by decide) (br_f (by decide) (br_f (by decide) (br_t rfl (x_car hv hn h)))))))
theorem x_77_6 {post : Int32 → SX → Prop} {tl pl hi ia ib : Int32} {M T : Nat → Int32} {n lo : Nat} (hv : lo ≤ 999) (hn : n ≤ 3) (h : post 1 (tl, pl, nI n, nI lo, hi, nI lo, nI (sr_til lo n), M, T)) : wX_readItem_77 post 6 tl pl (nI n) (nI lo) hi ia ib M T := by
  unfold wX_readItem_77 wpX_setMarkedItem
  dsimp only
  refine br_f (by decide) (br_f (by decide) (br_f (by decide) (br_f (by decide) (br_f (by decide) (br_f (by decide) (br_f (by decide) (br_t rfl ?_)))))))
  unfold sr_til at h
  by_cases b : n = 1
  · rw [if_pos b] at h
    exact br_t (by rw [b]; rfl) (x_maj hv h)
  · rw [if_neg b] at h
    exact br_f (sr_n1 hn b) (x_min hv h)
/-! X's readItem -/
theorem x_riF {post : Int32 → SX → Prop} {L p q : Nat} {m pd pa pb ia ib : Int32} {M T : Nat → Int32} (hL : L ≤ 40) (hp : p ≤ 90) (h42 : ¬ sr_ch T L p = 42) (mk : sr_MK T L p m q) (pf : sr_PF T L q)
    (h : ∀ pl' pd' pa' pb' : Int32, post 0 (nI L, pl', pd', pa', pb', ia, ib, M, T)) : wpX_readItem post (nI L, nI p, pd, pa, pb, ia, ib, M, T) := by
  unfold wpX_readItem
  dsimp only
  exact x_tk0 hL (by omega) h42 (br_t rfl (mk _ _ _ _ _ _ _ (pf.1 _ _ _ _ _ _ _ (fun a b c d => br_t rfl (h a b c d)))))
theorem x_riS {post : Int32 → SX → Prop} {L p q n lo hi : Nat} {m pd pa pb ia ib : Int32} {M T : Nat → Int32} (hL : L ≤ 40) (hp : p ≤ 90) (h42 : ¬ sr_ch T L p = 42) (mk : sr_MK T L p m q) (hm : ¬ m = 0) (ps : sr_PS T L q n lo hi)
    (h : wX_readItem_77 post m (nI L) (nI (q + 2 * n - 1)) (nI n) (nI lo) (nI hi) ia ib M T) : wpX_readItem post (nI L, nI p, pd, pa, pb, ia, ib, M, T) := by
  obtain ⟨-, -, -, -, -, -, pX, -⟩ := ps
  unfold wpX_readItem
  dsimp only
  exact x_tk0 hL (by omega) h42 (br_t rfl (mk _ _ _ _ _ _ _ (pX _ _ _ _ _ _ _ (br_f (by decide) (br_f hm h)))))
theorem x_ri0 {post : Int32 → SX → Prop} {L p q n lo hi : Nat} {pd pa pb ia ib : Int32} {M T : Nat → Int32} (hL : L ≤ 40) (hp : p ≤ 90) (h42 : ¬ sr_ch T L p = 42) (mk : sr_MK T L p 0 q) (ps : sr_PS T L q n lo hi) (e : ¬ sr_ch T L (q + 2 * n - 1) = 45)
    (h : wX_readItem_77 post 0 (nI L) (nI (q + 2 * n - 1)) (nI n) (nI lo) (nI hi) ia ib M T) : wpX_readItem post (nI L, nI p, pd, pa, pb, ia, ib, M, T) := by
  obtain ⟨-, -, w, -, -, -, pX, -⟩ := ps
  unfold wpX_readItem
  dsimp only
  exact x_tk0 hL (by omega) h42 (br_t rfl (mk _ _ _ _ _ _ _ (pX _ _ _ _ _ _ _ (br_f (by decide) (br_t rfl (x_tk0 hL (by omega) e (br_t rfl h)))))))
theorem x_riDF {post : Int32 → SX → Prop} {L p q n lo hi : Nat} {pd pa pb ia ib : Int32} {M T : Nat → Int32} (hL : L ≤ 40) (hp : p ≤ 90) (h42 : ¬ sr_ch T L p = 42) (mk : sr_MK T L p 0 q) (ps : sr_PS T L q n lo hi) (e : sr_ch T L (q + 2 * n - 1) = 45) (pf : sr_PF T L (q + 2 * n - 1 + 1))
    (h : ∀ pl' pd' pa' pb' ia' : Int32, post 0 (nI L, pl', pd', pa', pb', ia', ib, M, T)) : wpX_readItem post (nI L, nI p, pd, pa, pb, ia, ib, M, T) := by
  obtain ⟨-, -, w, -, -, -, pX, -⟩ := ps
  unfold wpX_readItem
  dsimp only
  exact x_tk0 hL (by omega) h42 (br_t rfl (mk _ _ _ _ _ _ _ (pX _ _ _ _ _ _ _ (br_f (by decide) (br_t rfl (x_tk1 hL e (by decide) (br_f (by decide) (pf.1 _ _ _ _ _ _ _ (fun a b c d => br_t rfl (h a b c d _))))))))))
theorem x_riDS {post : Int32 → SX → Prop} {L p q n lo hi n2 lo2 hi2 : Nat} {pd pa pb ia ib : Int32} {M T : Nat → Int32} (hL : L ≤ 40) (hp : p ≤ 90) (h42 : ¬ sr_ch T L p = 42) (mk : sr_MK T L p 0 q) (ps : sr_PS T L q n lo hi) (e : sr_ch T L (q + 2 * n - 1) = 45) (ps2 : sr_PS T L (q + 2 * n - 1 + 1) n2 lo2 hi2)
    (h : post 1 (nI L, nI (q + 2 * n - 1 + 1 + 2 * n2 - 1), nI n2, nI lo2, nI hi2, nI lo, nI hi2, M, T)) : wpX_readItem post (nI L, nI p, pd, pa, pb, ia, ib, M, T) := by
  obtain ⟨-, -, w, -, -, -, pX, -⟩ := ps
  obtain ⟨-, -, -, -, -, -, pX2, -⟩ := ps2
  unfold wpX_readItem
  dsimp only
  exact x_tk0 hL (by omega) h42 (br_t rfl (mk _ _ _ _ _ _ _ (pX _ _ _ _ _ _ _ (br_f (by decide) (br_t rfl (x_tk1 hL e (by decide) (br_f (by decide) (pX2 _ _ _ _ _ _ _ (br_f (by decide) h)))))))))
theorem x_riA {post : Int32 → SX → Prop} {L p : Nat} {pd pa pb ia ib : Int32} {M T : Nat → Int32} (hL : L ≤ 40) (e : sr_ch T L p = 42)
    (h : post 1 (nI L, nI (p + 1), pd, pa, pb, 0, 999, M, T)) : wpX_readItem post (nI L, nI p, pd, pa, pb, ia, ib, M, T) := by
  unfold wpX_readItem
  dsimp only
  exact x_tk1 hL e (by decide) (br_f (by decide) h)
end
section
/-! Y's readItem, and an item on both sides -/
theorem sr_n0 {n : Nat} (h1 : 1 ≤ n) (hn : n ≤ 3) : ¬ nI n = 0 := nI_ne0 (by omega) (by omega)
theorem sr_nx {q n : Nat} (h1 : 1 ≤ n) : nI q + 2 * nI n - 1 = nI (q + 2 * n - 1) := by
  have e : 2 * nI n = nI (2 * n) := pk_mul 2 n
  rw [e, nI_add]
  exact pk_sub (a := q + 2 * n) (b := 1) (by omega)
theorem y_car {post : SY → Prop} {L q n lo hi : Nat} {pt l h : Int32} {T K R : Nat → Int32} (ps : sr_PS T L q n lo hi)
    (w : post (nI L, pt, nI lo, nI (sr_car lo n), T, K, R)) : wpY_readCaret post (nI L, pt, l, h, T, K, R) (nI q) (nI n) := by
  obtain ⟨h1, hn, -, h2, h3, -, -, -, pL, -⟩ := ps
  have hv : lo < 1000 := by omega
  unfold wpY_readCaret
  dsimp only
  refine pL _ _ _ _ _ _ ?_
  unfold sr_car at w
  by_cases a : 100 ≤ lo
  · rw [if_pos (Or.inl a)] at w
    exact br_t (nI_le (a := 100) a (by omega)) ⟨by decide, nm_r (sr_majY hv) w⟩
  · refine br_f (nI_ge (b := 100) (by omega) (by decide)) ?_
    by_cases b : n = 1
    · rw [if_pos (Or.inr b)] at w
      exact br_t (by rw [b]; rfl) ⟨by decide, nm_r (sr_majY hv) w⟩
    · rw [if_neg (by omega)] at w
      refine br_f (sr_n1 hn b) ?_
      by_cases c : 10 ≤ lo
      · rw [if_pos (Or.inl c)] at w
        exact br_t (nI_le (a := 10) c (by omega)) ⟨by decide, nm_r (sr_minY hv) w⟩
      · refine br_f (nI_ge (b := 10) (by omega) (by decide)) ?_
        by_cases d : n = 2
        · rw [if_pos (Or.inr d)] at w
          exact br_t (by rw [d]; rfl) ⟨by decide, nm_r (sr_minY hv) w⟩
        · rw [if_neg (by omega)] at w
          exact br_f (sr_n2 hn d) w
theorem y_til {post : SY → Prop} {L q n lo hi : Nat} {pt l h : Int32} {T K R : Nat → Int32} (ps : sr_PS T L q n lo hi)
    (w : post (nI L, pt, nI lo, nI (sr_til lo n), T, K, R)) : wpY_readTilde post (nI L, pt, l, h, T, K, R) (nI q) (nI n) := by
  obtain ⟨h1, hn, -, h2, h3, h4, -, -, pL, -⟩ := ps
  have hv : lo < 1000 := by omega
  unfold wpY_readTilde
  dsimp only
  refine pL _ _ _ _ _ _ ?_
  unfold sr_til at w
  by_cases b : n = 1
  · rw [if_pos b] at w
    have e : nI lo + 99 = nI (lo / 100 * 100 + 99) := by
      have e1 : nI lo + 99 = nI (lo + 99) := nI_add _ 99
      have e2 := (h4 b).1
      rw [e1]
      exact congrArg nI (by omega)
    exact br_t (by rw [b]; rfl) (nm_r e w)
  · rw [if_neg b] at w
    exact br_f (sr_n1 hn b) ⟨by decide, nm_r (sr_minY hv) w⟩
theorem y_cm1 {post : SY → Prop} {L q n lo hi : Nat} {pt l h : Int32} {T K R : Nat → Int32} (ps : sr_PS T L q n lo hi)
    (w : post (nI L, pt, 0, nI lo - 1, T, K, R)) : wpY_readCompare post (nI L, pt, l, h, T, K, R) 60 0 (nI q) (nI n) := by
  obtain ⟨-, -, -, -, -, -, -, -, pL, pH⟩ := ps
  unfold wpY_readCompare
  dsimp only
  exact br_t rfl (br_t rfl (pL _ _ _ _ _ _ (nm_e w)))
theorem y_cm2 {post : SY → Prop} {L q n lo hi : Nat} {pt l h : Int32} {T K R : Nat → Int32} (ps : sr_PS T L q n lo hi)
    (w : post (nI L, pt, 0, nI hi, T, K, R)) : wpY_readCompare post (nI L, pt, l, h, T, K, R) 60 1 (nI q) (nI n) := by
  obtain ⟨-, -, -, -, -, -, -, -, pL, pH⟩ := ps
  unfold wpY_readCompare
  dsimp only
  exact br_t rfl (br_f (by decide) (pH _ _ _ _ _ _ w))
theorem y_cm3 {post : SY → Prop} {L q n lo hi : Nat} {pt l h : Int32} {T K R : Nat → Int32} (ps : sr_PS T L q n lo hi)
    (w : post (nI L, pt, nI hi + 1, 999, T, K, R)) : wpY_readCompare post (nI L, pt, l, h, T, K, R) 62 0 (nI q) (nI n) := by
  obtain ⟨-, -, -, -, -, -, -, -, pL, pH⟩ := ps
  unfold wpY_readCompare
  dsimp only
  exact br_f (by decide) (br_t rfl (pH _ _ _ _ _ _ (nm_e w)))
theorem y_cm4 {post : SY → Prop} {L q n lo hi : Nat} {pt l h : Int32} {T K R : Nat → Int32} (ps : sr_PS T L q n lo hi)
    (w : post (nI L, pt, nI lo, 999, T, K, R)) : wpY_readCompare post (nI L, pt, l, h, T, K, R) 62 1 (nI q) (nI n) := by
  obtain ⟨-, -, -, -, -, -, -, -, pL, pH⟩ := ps
  unfold wpY_readCompare
  dsimp only
  exact br_f (by decide) (br_f (by decide) (pL _ _ _ _ _ _ w))
theorem y_pl0 {post : SY → Prop} {L q n lo hi : Nat} {l h : Int32} {T K R : Nat → Int32} (hL : L ≤ 40) (ps : sr_PS T L q n lo hi) (e : ¬ sr_ch T L (q + 2 * n - 1) = 45)
    (w : post (nI L, nI (q + 2 * n - 1), nI lo, nI hi, T, K, R)) : wpY_readPlain post (nI L, nI (q + 2 * n - 1), l, h, T, K, R) (nI q) (nI n) := by
  obtain ⟨-, -, hq, -, -, -, -, -, pL, pH⟩ := ps
  unfold wpY_readPlain
  dsimp only
  exact pL _ _ _ _ _ _ (pH _ _ _ _ _ _ (y_ch (q + 2 * n - 1) hL (by omega) rfl (br_f e w)))
theorem y_plF {post : SY → Prop} {L q n lo hi : Nat} {l h : Int32} {T K R : Nat → Int32} (hL : L ≤ 40) (ps : sr_PS T L q n lo hi) (e : sr_ch T L (q + 2 * n - 1) = 45) (pf : sr_PF T L (q + 2 * n - 1 + 1))
    (w : ∀ l' h' : Int32, post (nI L, -1, l', h', T, K, R)) : wpY_readPlain post (nI L, nI (q + 2 * n - 1), l, h, T, K, R) (nI q) (nI n) := by
  obtain ⟨-, -, hq, -, -, -, -, -, pL, pH⟩ := ps
  unfold wpY_readPlain
  dsimp only
  exact pL _ _ _ _ _ _ (pH _ _ _ _ _ _ (y_ch (q + 2 * n - 1) hL (by omega) rfl (br_t e (nm_r (nI_1 _) (pf.2 _ _ _ _ _ _ (y_hw0 hL (by omega) (fun r => br_t rfl (w _ _))))))))
theorem y_plS {post : SY → Prop} {L q n lo hi n2 lo2 hi2 : Nat} {l h : Int32} {T K R : Nat → Int32} (hL : L ≤ 40) (ps : sr_PS T L q n lo hi) (e : sr_ch T L (q + 2 * n - 1) = 45) (ps2 : sr_PS T L (q + 2 * n - 1 + 1) n2 lo2 hi2)
    (w : post (nI L, nI (q + 2 * n - 1 + 1 + 2 * n2 - 1), nI lo, nI hi2, T, K, R)) : wpY_readPlain post (nI L, nI (q + 2 * n - 1), l, h, T, K, R) (nI q) (nI n) := by
  obtain ⟨-, -, hq, -, -, -, -, -, pL, pH⟩ := ps
  obtain ⟨h1, hn, -, -, -, -, -, pD2, -, pH2⟩ := ps2
  unfold wpY_readPlain
  dsimp only
  exact pL _ _ _ _ _ _ (pH _ _ _ _ _ _ (y_ch (q + 2 * n - 1) hL (by omega) rfl (br_t e (nm_r (nI_1 _) (pD2 _ _ _ _ _ _ (pH2 _ _ _ _ _ _ (br_f (sr_n0 h1 hn) (nm_r (sr_nx h1) w))))))))
theorem y_107F {post : SY → Prop} {L q : Nat} {x2 x3 x4 x pt l h : Int32} {T K R : Nat → Int32} (hx : x = nI q) (pf : sr_PF T L q) (w : ∀ l' h' : Int32, post (nI L, -1, l', h', T, K, R)) : wY_readItem_107 post x2 x3 x4 x (nI L) pt l h T K R := by
  subst hx
  unfold wY_readItem_107
  exact pf.2 _ _ _ _ _ _ (br_t rfl (br_t rfl (w _ _)))
theorem y_107S {post : SY → Prop} {L q n lo hi : Nat} {x2 x3 x4 x pt l h : Int32} {T K R : Nat → Int32} (hx : x = nI q) (ps : sr_PS T L q n lo hi) (w : wY_readItem_136 post x2 x3 x4 (nI q) (nI n) (nI (q + 2 * n - 1)) (nI L) pt l h T K R) : wY_readItem_107 post x2 x3 x4 x (nI L) pt l h T K R := by
  subst hx
  obtain ⟨h1, hn, -, -, -, -, -, pD, -⟩ := ps
  unfold wY_readItem_107
  refine pD _ _ _ _ _ _ (br_f (sr_n0 h1 hn) ?_)
  rw [sr_nx h1]
  exact w
def sr_YK (T : Nat → Int32) (L p : Nat) (c cmp eq : Int32) (q : Nat) : Prop :=
  ∀ (post : SY → Prop) (pt l h : Int32) (K R : Nat → Int32), wY_readItem_107 post c cmp eq (nI q) (nI L) (nI (p + 1)) 0 999 T K R → wpY_readItem post (nI L, pt, l, h, T, K, R) (nI p)
theorem sr_p2 (p : Nat) : nI p + 2 = nI (p + 2) := nI_add p 2
theorem y_k2 {T : Nat → Int32} {L p : Nat} (hL : L ≤ 40) (hp : p ≤ 90) (e : sr_ch T L p = 60) (e1 : sr_ch T L (p + 1) = 61) : sr_YK T L p 60 1 1 (p + 2) := by
  intro post pt l h K R w
  rw [← sr_p2 p] at w
  unfold wpY_readItem
  dsimp only
  refine y_ch p hL (by omega) rfl ?_
  rw [e]
  exact nm_r (nI_1 p) (br_f (by decide) (br_t rfl (br_f (by decide) (y_ch (p + 1) hL (by omega) (nI_1 p) (br_t e1 (br_f (by decide) w))))))
theorem y_k1 {T : Nat → Int32} {L p : Nat} (hL : L ≤ 40) (hp : p ≤ 90) (e : sr_ch T L p = 60) (e1 : ¬ sr_ch T L (p + 1) = 61) : sr_YK T L p 60 1 0 (p + 1) := by
  intro post pt l h K R w
  rw [← nI_1 p] at w
  unfold wpY_readItem
  dsimp only
  refine y_ch p hL (by omega) rfl ?_
  rw [e]
  exact nm_e (br_f (by decide) (br_t rfl (br_f (by decide) (y_ch (p + 1) hL (by omega) (nI_1 p) (br_f e1 (br_t rfl (br_f (by decide) w)))))))
theorem y_k4 {T : Nat → Int32} {L p : Nat} (hL : L ≤ 40) (hp : p ≤ 90) (e : sr_ch T L p = 62) (e1 : sr_ch T L (p + 1) = 61) : sr_YK T L p 62 1 1 (p + 2) := by
  intro post pt l h K R w
  rw [← sr_p2 p] at w
  unfold wpY_readItem
  dsimp only
  refine y_ch p hL (by omega) rfl ?_
  rw [e]
  exact nm_r (nI_1 p) (br_f (by decide) (br_f (by decide) (br_t rfl (br_f (by decide) (y_ch (p + 1) hL (by omega) (nI_1 p) (br_t e1 (br_f (by decide) w)))))))
theorem y_k3 {T : Nat → Int32} {L p : Nat} (hL : L ≤ 40) (hp : p ≤ 90) (e : sr_ch T L p = 62) (e1 : ¬ sr_ch T L (p + 1) = 61) : sr_YK T L p 62 1 0 (p + 1) := by
  intro post pt l h K R w
  rw [← nI_1 p] at w
  unfold wpY_readItem
  dsimp only
  refine y_ch p hL (by omega) rfl ?_
  rw [e]
  exact nm_e (br_f (by decide) (br_f (by decide) (br_t rfl (br_f (by decide) (y_ch (p + 1) hL (by omega) (nI_1 p) (br_f e1 (br_t rfl (br_f (by decide) w))))))))
theorem y_k5 {T : Nat → Int32} {L p : Nat} (hL : L ≤ 40) (hp : p ≤ 90) (e : sr_ch T L p = 94) : sr_YK T L p 94 0 0 (p + 1) := by
  intro post pt l h K R w
  rw [← nI_1 p] at w
  unfold wpY_readItem
  dsimp only
  refine y_ch p hL (by omega) rfl ?_
  rw [e]
  exact nm_e (br_f (by decide) (br_f (by decide) (br_f (by decide) (br_t rfl (br_t rfl (br_t rfl (br_t rfl w)))))))
theorem y_k6 {T : Nat → Int32} {L p : Nat} (hL : L ≤ 40) (hp : p ≤ 90) (e : sr_ch T L p = 126) : sr_YK T L p 126 0 0 (p + 1) := by
  intro post pt l h K R w
  rw [← nI_1 p] at w
  unfold wpY_readItem
  dsimp only
  refine y_ch p hL (by omega) rfl ?_
  rw [e]
  exact nm_e (br_f (by decide) (br_f (by decide) (br_f (by decide) (br_t rfl (br_t rfl (br_t rfl (br_f (by decide) (br_t rfl w))))))))
theorem y_k0 {T : Nat → Int32} {L p : Nat} (hL : L ≤ 40) (hp : p ≤ 90) (e0 : ¬ sr_ch T L p = 42) (e1 : ¬ sr_ch T L p = 60) (e2 : ¬ sr_ch T L p = 62) (e3 : ¬ sr_ch T L p = 94) (e4 : ¬ sr_ch T L p = 126) : sr_YK T L p (sr_ch T L p) 0 0 p := by
  intro post pt l h K R w
  unfold wpY_readItem
  dsimp only
  exact y_ch p hL (by omega) rfl (nm_r (nI_1 p) (br_f e0 (br_f e1 (br_f e2 (br_t rfl (br_t rfl (br_t rfl (br_f e3 (br_f e4 w)))))))))
theorem y_kA {post : SY → Prop} {L p : Nat} {pt l h : Int32} {T K R : Nat → Int32} (hL : L ≤ 40) (hp : p ≤ 90) (e : sr_ch T L p = 42) (w : post (nI L, nI (p + 1), 0, 999, T, K, R)) : wpY_readItem post (nI L, pt, l, h, T, K, R) (nI p) := by
  unfold wpY_readItem
  dsimp only
  refine y_ch p hL (by omega) rfl ?_
  rw [e]
  exact nm_r (nI_1 p) (br_t rfl w)
/-- no item stands at p -/
def sr_IF (T : Nat → Int32) (L p : Nat) : Prop :=
  (∀ (post : Int32 → SX → Prop) (pd pa pb ia ib : Int32) (M : Nat → Int32), (∀ pl' pd' pa' pb' ia' ib' : Int32, post 0 (nI L, pl', pd', pa', pb', ia', ib', M, T)) → wpX_readItem post (nI L, nI p, pd, pa, pb, ia, ib, M, T))
  ∧ (∀ (post : SY → Prop) (pt l h : Int32) (K R : Nat → Int32), (∀ l' h' : Int32, post (nI L, -1, l', h', T, K, R)) → wpY_readItem post (nI L, pt, l, h, T, K, R) (nI p))
/-- an item stands from p to q: the versions from a to b - 1 -/
def sr_IS (T : Nat → Int32) (L p q a b : Nat) : Prop := p < q ∧ q ≤ L ∧ a ≤ 1000 ∧ b ≤ 1000
  ∧ (∀ (post : Int32 → SX → Prop) (pd pa pb ia ib : Int32) (M : Nat → Int32), (∀ pd' pa' pb' : Int32, post 1 (nI L, nI q, pd', pa', pb', nI a, nI b - 1, M, T)) → wpX_readItem post (nI L, nI p, pd, pa, pb, ia, ib, M, T))
  ∧ (∀ (post : SY → Prop) (pt l h : Int32) (K R : Nat → Int32), post (nI L, nI q, nI a, nI b - 1, T, K, R) → wpY_readItem post (nI L, pt, l, h, T, K, R) (nI p))
theorem sr_marked {T : Nat → Int32} {L p q : Nat} {m c cmp eq : Int32} (hL : L ≤ 40) (hp : p ≤ 80) (hpq : p < q) (hq : q ≤ p + 2) (h42 : ¬ sr_ch T L p = 42) (hm : ¬ m = 0) (mk : sr_MK T L p m q) (yk : sr_YK T L p c cmp eq q)
    (a b : Nat → Nat → Nat → Nat) (hab : ∀ n lo hi, lo ≤ hi → hi ≤ 999 → a n lo hi ≤ 1000 ∧ b n lo hi ≤ 1000)
    (hX : ∀ n lo hi, sr_PS T L q n lo hi → ∀ (post : Int32 → SX → Prop) (ia ib : Int32) (M : Nat → Int32), post 1 (nI L, nI (q + 2 * n - 1), nI n, nI lo, nI hi, nI (a n lo hi), nI (b n lo hi) - 1, M, T) → wX_readItem_77 post m (nI L) (nI (q + 2 * n - 1)) (nI n) (nI lo) (nI hi) ia ib M T)
    (hY : ∀ n lo hi, sr_PS T L q n lo hi → ∀ (post : SY → Prop) (K R : Nat → Int32), post (nI L, nI (q + 2 * n - 1), nI (a n lo hi), nI (b n lo hi) - 1, T, K, R) → wY_readItem_136 post c cmp eq (nI q) (nI n) (nI (q + 2 * n - 1)) (nI L) (nI (p + 1)) 0 999 T K R) :
    sr_IF T L p ∨ ∃ q a b, sr_IS T L p q a b := by
  rcases sr_part T hL (p := q) (by omega) with pf | ⟨n, lo, hi, ps⟩
  · exact Or.inl ⟨fun post pd pa pb ia ib M w => x_riF hL (by omega) h42 mk pf (fun x y z t => w x y z t _ _), fun post pt l h K R w => yk _ _ _ _ _ _ (y_107F rfl pf w)⟩
  · have ps' := ps
    obtain ⟨h1, hn, h2, h3, h4, -⟩ := ps'
    obtain ⟨ha, hb⟩ := hab n lo hi h3 h4
    refine Or.inr ⟨q + 2 * n - 1, a n lo hi, b n lo hi, by omega, h2, ha, hb, fun post pd pa pb ia ib M w => x_riS hL (by omega) h42 mk hm ps (hX n lo hi ps _ _ _ _ (w _ _ _)), fun post pt l h K R w => yk _ _ _ _ _ _ (y_107S rfl ps (hY n lo hi ps _ _ _ w))⟩
theorem sr_pr (n : Nat) : nI n = nI (n + 1) - 1 := (nI_pred n).symm
theorem sr_item (T : Nat → Int32) {L p : Nat} (hL : L ≤ 40) (hp : p ≤ 60) : sr_IF T L p ∨ ∃ q a b, sr_IS T L p q a b := by
  by_cases c0 : sr_ch T L p = 42
  · have hp0 := sr_ch_lt c0 (by decide)
    exact Or.inr ⟨p + 1, 0, 1000, by omega, by omega, by omega, by omega, fun post pd pa pb ia ib M w => x_riA hL c0 (w _ _ _), fun post pt l h K R w => y_kA hL (by omega) c0 w⟩
  by_cases c1 : sr_ch T L p = 60
  · by_cases d : sr_ch T L (p + 1) = 61
    · refine sr_marked hL (by omega) (by omega) (by omega) c0 (by decide) (x_mk2 hL c1 d) (y_k2 hL (by omega) c1 d) (fun _ _ _ => 0) (fun _ _ hi => hi + 1) (fun _ _ _ _ _ => ⟨by omega, by omega⟩) ?_ ?_
      · intro n lo hi ps post ia ib M w
        rw [← sr_pr] at w
        exact x_77_2 w
      · intro n lo hi ps post K R w
        rw [← sr_pr] at w
        exact br_f (sr_n0 ps.1 ps.2.1) (br_f (by decide) (br_f (by decide) (br_f (by decide) (y_cm2 ps w))))
    · refine sr_marked hL (by omega) (by omega) (by omega) c0 (by decide) (x_mk1 hL c1 d) (y_k1 hL (by omega) c1 d) (fun _ _ _ => 0) (fun _ lo _ => lo) (fun _ _ _ _ _ => ⟨by omega, by omega⟩) ?_ ?_
      · intro n lo hi ps post ia ib M w
        exact x_77_1 w
      · intro n lo hi ps post K R w
        exact br_f (sr_n0 ps.1 ps.2.1) (br_f (by decide) (br_f (by decide) (br_f (by decide) (y_cm1 ps w))))
  by_cases c2 : sr_ch T L p = 62
  · by_cases d : sr_ch T L (p + 1) = 61
    · refine sr_marked hL (by omega) (by omega) (by omega) c0 (by decide) (x_mk4 hL c2 d) (y_k4 hL (by omega) c2 d) (fun _ lo _ => lo) (fun _ _ _ => 1000) (fun _ _ _ _ _ => ⟨by omega, by omega⟩) ?_ ?_
      · intro n lo hi ps post ia ib M w
        rw [← sr_999] at w
        exact x_77_4 w
      · intro n lo hi ps post K R w
        rw [← sr_999] at w
        exact br_f (sr_n0 ps.1 ps.2.1) (br_f (by decide) (br_f (by decide) (br_f (by decide) (y_cm4 ps w))))
    · refine sr_marked hL (by omega) (by omega) (by omega) c0 (by decide) (x_mk3 hL c2 d) (y_k3 hL (by omega) c2 d) (fun _ _ hi => hi + 1) (fun _ _ _ => 1000) (fun _ _ _ _ _ => ⟨by omega, by omega⟩) ?_ ?_
      · intro n lo hi ps post ia ib M w
        rw [← sr_999, ← nI_1] at w
        exact x_77_3 w
      · intro n lo hi ps post K R w
        rw [← sr_999, ← nI_1] at w
        exact br_f (sr_n0 ps.1 ps.2.1) (br_f (by decide) (br_f (by decide) (br_f (by decide) (y_cm3 ps w))))
  by_cases c3 : sr_ch T L p = 94
  · refine sr_marked hL (by omega) (by omega) (by omega) c0 (by decide) (x_mk5 hL c3) (y_k5 hL (by omega) c3) (fun _ lo _ => lo) (fun n lo _ => sr_car lo n + 1) (fun n lo hi h1 h2 => ⟨by omega, by have q := sr_car_le (n := n) (Nat.le_trans h1 h2); omega⟩) ?_ ?_
    · intro n lo hi ps post ia ib M w
      rw [← sr_pr] at w
      obtain ⟨h1, hn, -, h3, h4, -⟩ := ps
      exact x_77_5 (by omega) hn w
    · intro n lo hi ps post K R w
      rw [← sr_pr] at w
      exact br_f (sr_n0 ps.1 ps.2.1) (br_t rfl (y_car ps w))
  by_cases c4 : sr_ch T L p = 126
  · refine sr_marked hL (by omega) (by omega) (by omega) c0 (by decide) (x_mk6 hL c4) (y_k6 hL (by omega) c4) (fun _ lo _ => lo) (fun n lo _ => sr_til lo n + 1) (fun n lo hi h1 h2 => ⟨by omega, by have q := sr_til_le (n := n) (Nat.le_trans h1 h2); omega⟩) ?_ ?_
    · intro n lo hi ps post ia ib M w
      rw [← sr_pr] at w
      obtain ⟨h1, hn, -, h3, h4, -⟩ := ps
      exact x_77_6 (by omega) hn w
    · intro n lo hi ps post K R w
      rw [← sr_pr] at w
      exact br_f (sr_n0 ps.1 ps.2.1) (br_f (by decide) (br_t rfl (y_til ps w)))
  have mk : sr_MK T L p 0 p := x_mk0 hL (by omega) c1 c2 c3 c4
  have yk := y_k0 hL (by omega) c0 c1 c2 c3 c4
  rcases sr_part T hL (p := p) (by omega) with pf | ⟨n, lo, hi, ps⟩
  · exact Or.inl ⟨fun post pd pa pb ia ib M w => x_riF hL (by omega) c0 mk pf (fun x y z t => w x y z t _ _), fun post pt l h K R w => yk _ _ _ _ _ _ (y_107F rfl pf w)⟩
  · have ps' := ps
    obtain ⟨h1, hn, h2, h3, h4, -⟩ := ps'
    by_cases d : sr_ch T L (p + 2 * n - 1) = 45
    · have hd := sr_ch_lt d (by decide)
      rcases sr_part T hL (p := p + 2 * n - 1 + 1) (by omega) with pf2 | ⟨n2, lo2, hi2, ps2⟩
      · exact Or.inl ⟨fun post pd pa pb ia ib M w => x_riDF hL (by omega) c0 mk ps d pf2 (fun x y z t s => w x y z t s _), fun post pt l h K R w => yk _ _ _ _ _ _ (y_107S rfl ps (br_f (sr_n0 h1 hn) (br_f c3 (br_f c4 (br_t rfl (y_plF hL ps d pf2 w))))))⟩
      · have ps2' := ps2
        obtain ⟨k1, kn, k2, k3, k4, -⟩ := ps2'
        refine Or.inr ⟨p + 2 * n - 1 + 1 + 2 * n2 - 1, lo, hi2 + 1, by omega, by omega, by omega, by omega, fun post pd pa pb ia ib M w => x_riDS hL (by omega) c0 mk ps d ps2 ?_, fun post pt l h K R w => yk _ _ _ _ _ _ (y_107S rfl ps (br_f (sr_n0 h1 hn) (br_f c3 (br_f c4 (br_t rfl (y_plS hL ps d ps2 ?_))))))⟩
        · rw [sr_pr hi2]
          exact w _ _ _
        · rw [sr_pr hi2]
          exact w
    · refine Or.inr ⟨p + 2 * n - 1, lo, hi + 1, by omega, by omega, by omega, by omega, fun post pd pa pb ia ib M w => x_ri0 hL (by omega) c0 mk ps d (x_77_0 ?_), fun post pt l h K R w => yk _ _ _ _ _ _ (y_107S rfl ps (br_f (sr_n0 h1 hn) (br_f c3 (br_f c4 (br_t rfl (y_pl0 hL ps d ?_))))))⟩
      · have w' := w (nI n) (nI lo) (nI hi)
        rw [← sr_pr] at w'
        exact w'
      · rw [← sr_pr] at w
        exact w
end
section
/-! the loop over the items of a text, on both sides -/
theorem x_48 {post : Int32 → SX → Prop} {J : Int32 → Int32 → Int32 → Int32 → Int32 → Int32 → Int32 → Int32 → Int32 → Int32 → (Nat → Int32) → (Nat → Int32) → Prop} {b b' : Nat} {x3 z tl pl pd pa pb ia : Int32} {M T : Nat → Int32} (hb : b ≤ 1000) (hb' : b' ≤ 1000)
    (h : wX_readText_65 post J z x3 (nI (min b b') - 1) tl pl pd pa pb ia (nI b' - 1) M T) : wX_readText_48 post J (nI b - 1) x3 z tl pl pd pa pb ia (nI b' - 1) M T := by
  by_cases w : b ≤ b'
  · rw [Nat.min_eq_left w] at h
    exact br_t ((sr_hi_le hb hb').mpr w) h
  · rw [Nat.min_eq_right (by omega)] at h
    exact br_f (fun q => w ((sr_hi_le hb hb').mp q)) h
theorem x_it {post : Int32 → SX → Prop} {n it L p q a b a' b' : Nat} {pd pa pb ia ib : Int32} {M T : Nat → Int32} (hit : it ≤ 40) (ha : a ≤ 1000) (hb : b ≤ 1000) (S : sr_IS T L p q a' b')
    (h : ∀ pd' pa' pb' : Int32, wX_readText_65 post (wX_readText_17 post n) (nI (max a a')) (nI it) (nI (min b b') - 1) (nI L) (nI q) pd' pa' pb' (nI a') (nI b' - 1) M T) :
    wX_readText_17 post (n + 1) (nI a) (nI b - 1) (nI it) (nI L) (nI p) pd pa pb ia ib M T := by
  obtain ⟨-, -, ha', hb', iX, -⟩ := S
  refine br_f (nI_nlt (a := 40) hit (by decide)) (iX _ _ _ _ _ _ _ (fun pd' pa' pb' => br_f (by decide) ?_))
  have h' := h pd' pa' pb'
  by_cases w : a' ≤ a
  · rw [Nat.max_eq_left w] at h'
    exact br_t (nI_le w (by omega)) (x_48 hb hb' h')
  · rw [Nat.max_eq_right (by omega)] at h'
    exact br_f (nI_ge (by omega) (by omega)) (x_48 hb hb' h')
theorem y_78 {post : Int32 → SY → Prop} {J : Int32 → Int32 → Int32 → Int32 → Int32 → Int32 → Int32 → Int32 → (Nat → Int32) → (Nat → Int32) → (Nat → Int32) → Prop} {b b' : Nat} {x1 x4 tl pt l : Int32} {T K R : Nat → Int32} (hb : b ≤ 1000) (hb' : b' ≤ 1000)
    (h : wY_parse_91 post J x1 (nI (min b b') - 1) x4 tl pt l (nI b' - 1) T K R) : wY_parse_78 post J x1 (nI b - 1) x4 tl pt l (nI b' - 1) T K R := by
  by_cases w : b ≤ b'
  · rw [Nat.min_eq_left w] at h
    exact br_t ((sr_hi_le hb hb').mpr w) h
  · rw [Nat.min_eq_right (by omega)] at h
    exact br_f (fun q => w ((sr_hi_le hb hb').mp q)) h
theorem y_it {post : Int32 → SY → Prop} {n it L p q a b a' b' : Nat} {pt l h : Int32} {T K R : Nat → Int32} (hL : L ≤ 40) (hit : it ≤ 40) (ha : a ≤ 1000) (hb : b ≤ 1000) (S : sr_IS T L p q a' b')
    (w : wY_parse_91 post (wY_parse_33 post n) (nI (max a a')) (nI (min b b') - 1) (nI it) (nI L) (nI q) (nI a') (nI b' - 1) T K R) :
    wY_parse_33 post (n + 1) (nI a) (nI b - 1) (nI p) (nI it) (nI L) pt l h T K R := by
  obtain ⟨-, hq, ha', hb', -, iY⟩ := S
  refine br_f (nI_ge (b := 41) (by omega) (by decide)) (iY _ _ _ _ _ _ (br_f (nI_pos (by omega)) (br_t (nI_le hq (by omega)) ?_)))
  by_cases z : a' ≤ a
  · rw [Nat.max_eq_left z] at w
    exact br_t (nI_le z (by omega)) (y_78 hb hb' w)
  · rw [Nat.max_eq_right (by omega)] at w
    exact br_f (nI_ge (by omega) (by omega)) (y_78 hb hb' w)
/-! behind an item: a blank, a bar, the end, or something else -/
theorem x_65b {post : Int32 → SX → Prop} {J : Int32 → Int32 → Int32 → Int32 → Int32 → Int32 → Int32 → Int32 → Int32 → Int32 → (Nat → Int32) → (Nat → Int32) → Prop} {L q it : Nat} {x1 z pd pa pb ia ib : Int32} {M T : Nat → Int32} (hL : L ≤ 40) (e : sr_ch T L q = 32)
    (h : J x1 z (nI (it + 1)) (nI L) (nI (q + 1)) pd pa pb ia ib M T) : wX_readText_65 post J x1 (nI it) z (nI L) (nI q) pd pa pb ia ib M T := by
  unfold wX_readText_65
  exact x_tk1 hL e (by decide) (br_f (by decide) (nm_r (nI_1 it) h))
theorem x_65n {post : Int32 → SX → Prop} {J : Int32 → Int32 → Int32 → Int32 → Int32 → Int32 → Int32 → Int32 → Int32 → Int32 → (Nat → Int32) → (Nat → Int32) → Prop} {L q it a b : Nat} {pd pa pb ia ib : Int32} {M T : Nat → Int32} (hL : L ≤ 40) (ha : a ≤ 1000) (hb : b ≤ 1000) (e : sr_ch T L q = 124)
    (h : J 0 999 (nI (it + 1)) (nI L) (nI (q + 1)) pd pa pb ia ib (sr_ad M (4000 + a) (4000 + b)) T) : wX_readText_65 post J (nI a) (nI it) (nI b - 1) (nI L) (nI q) pd pa pb ia ib M T := by
  have hq := sr_ch_lt e (by decide)
  unfold wX_readText_65
  exact x_tk0 hL (by omega) (by rw [e]; decide) (br_t rfl (x_add ha hb (x_tk1 hL e (by decide) (br_f (by decide) (nm_r (nI_1 it) h)))))
theorem x_65e {post : Int32 → SX → Prop} {J : Int32 → Int32 → Int32 → Int32 → Int32 → Int32 → Int32 → Int32 → Int32 → Int32 → (Nat → Int32) → (Nat → Int32) → Prop} {L q a b : Nat} {it pd pa pb ia ib : Int32} {M T : Nat → Int32} (hL : L ≤ 40) (hq : q ≤ L) (ha : a ≤ 1000) (hb : b ≤ 1000) (e1 : ¬ sr_ch T L q = 32) (e2 : ¬ sr_ch T L q = 124)
    (h1 : q = L → post 1 (nI L, nI q, pd, pa, pb, ia, ib, sr_ad M (4000 + a) (4000 + b), T)) (h0 : ¬ q = L → post 0 (nI L, nI q, pd, pa, pb, ia, ib, sr_ad M (4000 + a) (4000 + b), T)) : wX_readText_65 post J (nI a) it (nI b - 1) (nI L) (nI q) pd pa pb ia ib M T := by
  unfold wX_readText_65
  refine x_tk0 hL (by omega) e1 (br_t rfl (x_add ha hb (x_tk0 hL (by omega) e2 (br_t rfl ?_))))
  by_cases w : q = L
  · exact br_t (congrArg nI w) (h1 w)
  · exact br_f (fun z => w ((nI_eq (by omega) (by omega)).mp z)) (h0 w)
theorem y_91b {post : Int32 → SY → Prop} {J : Int32 → Int32 → Int32 → Int32 → Int32 → Int32 → Int32 → Int32 → (Nat → Int32) → (Nat → Int32) → (Nat → Int32) → Prop} {L q it : Nat} {x1 x2 l h : Int32} {T K R : Nat → Int32} (hL : L ≤ 40) (e : sr_ch T L q = 32)
    (w : J x1 x2 (nI (q + 1)) (nI (it + 1)) (nI L) (nI q) l h T K R) : wY_parse_91 post J x1 x2 (nI it) (nI L) (nI q) l h T K R := by
  have hq := sr_ch_lt e (by decide)
  unfold wY_parse_91
  refine y_ch q hL (by omega) rfl ?_
  rw [e]
  exact br_f (nI_ge hq (by omega)) (br_t rfl (br_t rfl (br_f (fun z => absurd ((nI_eq (a := q) (b := L) (by omega) (by omega)).mp z) (by omega)) (nm_r (nI_1 q) (nm_r (nI_1 it) w)))))
theorem y_91n {post : Int32 → SY → Prop} {J : Int32 → Int32 → Int32 → Int32 → Int32 → Int32 → Int32 → Int32 → (Nat → Int32) → (Nat → Int32) → (Nat → Int32) → Prop} {L q it a b : Nat} {l h : Int32} {T K R : Nat → Int32} (hL : L ≤ 40) (ha : a ≤ 1000) (hb : b ≤ 1000) (e : sr_ch T L q = 124)
    (w : J 0 999 (nI (q + 1)) (nI (it + 1)) (nI L) (nI q) l h T K (sr_ad R a b)) : wY_parse_91 post J (nI a) (nI b - 1) (nI it) (nI L) (nI q) l h T K R := by
  have hq := sr_ch_lt e (by decide)
  unfold wY_parse_91
  refine y_ch q hL (by omega) rfl ?_
  rw [e]
  exact br_f (nI_ge hq (by omega)) (br_f (by decide) (br_t rfl (br_f (by decide) (y_add ha hb (br_f (fun z => absurd ((nI_eq (a := q) (b := L) (by omega) (by omega)).mp z) (by omega)) (nm_r (nI_1 q) (nm_r (nI_1 it) w)))))))
theorem y_91e {post : Int32 → SY → Prop} {J : Int32 → Int32 → Int32 → Int32 → Int32 → Int32 → Int32 → Int32 → (Nat → Int32) → (Nat → Int32) → (Nat → Int32) → Prop} {L q a b : Nat} {it l h : Int32} {T K R : Nat → Int32} (hL : L ≤ 40) (hq : q ≤ L) (ha : a ≤ 1000) (hb : b ≤ 1000) (e1 : ¬ sr_ch T L q = 32) (e2 : ¬ sr_ch T L q = 124)
    (h1 : q = L → post 1 (nI L, nI q, l, h, T, K, sr_ad R a b)) (h0 : ¬ q = L → post 0 (nI L, nI q, l, h, T, K, R)) : wY_parse_91 post J (nI a) (nI b - 1) it (nI L) (nI q) l h T K R := by
  unfold wY_parse_91
  refine y_ch q hL (by omega) rfl ?_
  by_cases w : q = L
  · exact br_t (nI_le (by omega) (by omega)) (br_f e1 (y_add ha hb (br_t (congrArg nI w) (h1 w))))
  · exact br_f (nI_ge (by omega) (by omega)) (br_f e1 (br_f e2 (h0 w)))
theorem sr_mx {a a' : Nat} (h : a ≤ 1000) (h' : a' ≤ 1000) : max a a' ≤ 1000 := Nat.max_le.mpr ⟨h, h'⟩
theorem sr_mn {b b' : Nat} (h : b ≤ 1000) : min b b' ≤ 1000 := Nat.le_trans (Nat.min_le_left _ _) h
theorem sr_parse (T K : Nat → Int32) {L : Nat} (hL : L ≤ 40) : ∀ d it : Nat, it + d = 41 → ∀ (p c a b : Nat) (M R : Nat → Int32), p ≤ L → 2 * c ≤ p → a ≤ 1000 → b ≤ 1000 → sr_B M → sr_B R → (∀ v, v < 1000 → M (4000 + v) = R v) → sr_st R 1000 ≤ c →
    ∃ (z : Int32) (M' R' : Nat → Int32), sr_B M' ∧ sr_B R' ∧ (∀ j, j < 4000 → M' j = M j) ∧ (z = 0 ∨ (z = 1 ∧ (∀ v, v < 1000 → M' (4000 + v) = R' v) ∧ sr_st R' 1000 ≤ 24))
      ∧ (∀ (post : Int32 → SX → Prop) (pd pa pb ia ib : Int32), (∀ pl' pd' pa' pb' ia' ib' : Int32, post z (nI L, pl', pd', pa', pb', ia', ib', M', T)) → wX_readText_17 post (d + 1) (nI a) (nI b - 1) (nI it) (nI L) (nI p) pd pa pb ia ib M T)
      ∧ (∀ (post : Int32 → SY → Prop) (pt l h : Int32), (∀ pt' l' h' : Int32, post z (nI L, pt', l', h', T, K, R')) → wY_parse_33 post (d + 1) (nI a) (nI b - 1) (nI p) (nI it) (nI L) pt l h T K R) := by
  intro d
  induction d with
  | zero =>
    intro it hit p c a b M R hp hc ha hb hM hR hMR hst
    obtain rfl : it = 41 := by omega
    exact ⟨0, M, R, hM, hR, fun _ _ => rfl, Or.inl rfl, fun post pd pa pb ia ib w => br_t (by decide) (w _ _ _ _ _ _), fun post pt l h w => br_t (by decide) (w _ _ _)⟩
  | succ d IH =>
    intro it hit p c a b M R hp hc ha hb hM hR hMR hst
    rcases sr_item T hL (p := p) (by omega) with F | ⟨q, a', b', S⟩
    · refine ⟨0, M, R, hM, hR, fun _ _ => rfl, Or.inl rfl, fun post pd pa pb ia ib w => ?_, fun post pt l h w => ?_⟩
      · exact br_f (nI_nlt (a := 40) (by omega) (by decide)) (F.1 _ _ _ _ _ _ _ (fun x1 x2 x3 x4 x5 x6 => br_t rfl (w _ _ _ _ _ _)))
      · exact br_f (nI_ge (b := 41) (by omega) (by decide)) (F.2 _ _ _ _ _ _ (fun l' h' => br_t (by decide) (w _ _ _)))
    · have S' := S
      obtain ⟨hpq, hq, ha', hb', -, -⟩ := S'
      have hA := sr_mx ha ha'
      have hN : min b b' ≤ 1000 := sr_mn hb
      by_cases e1 : sr_ch T L q = 32
      · have hq1 := sr_ch_lt e1 (by decide)
        obtain ⟨z, M', R', k1, k2, k3, k4, kX, kY⟩ := IH (it + 1) (by omega) (q + 1) c (max a a') (min b b') M R (by omega) (by omega) hA hN hM hR hMR hst
        exact ⟨z, M', R', k1, k2, k3, k4, fun post pd pa pb ia ib w => x_it (by omega) ha hb S (fun pd' pa' pb' => x_65b hL e1 (kX _ _ _ _ _ _ w)), fun post pt l h w => y_it hL (by omega) ha hb S (y_91b hL e1 (kY _ _ _ _ w))⟩
      · have st1 := (sr_st_ad R (max a a') (min b b') 1000).2
        have hM1 : sr_B (sr_ad M (4000 + max a a') (4000 + min b b')) := sr_ad_B hM
        have hR1 : sr_B (sr_ad R (max a a') (min b b')) := sr_ad_B hR
        have lo1 : ∀ j, j < 4000 → sr_ad M (4000 + max a a') (4000 + min b b') j = M j := fun j hj => sr_ad_out (by omega)
        have eq1 : ∀ v, v < 1000 → sr_ad M (4000 + max a a') (4000 + min b b') (4000 + v) = sr_ad R (max a a') (min b b') v := by
          intro v hv
          by_cases w : max a a' ≤ v ∧ v < min b b'
          · rw [sr_ad_in w, sr_ad_in (by omega)]
          · rw [sr_ad_out w, sr_ad_out (by omega)]
            exact hMR v hv
        by_cases e2 : sr_ch T L q = 124
        · have hq1 := sr_ch_lt e2 (by decide)
          obtain ⟨z, M', R', k1, k2, k3, k4, kX, kY⟩ := IH (it + 1) (by omega) (q + 1) (c + 1) 0 1000 _ _ (by omega) (by omega) (by omega) (by omega) hM1 hR1 eq1 (by omega)
          rw [← sr_999] at kX kY
          exact ⟨z, M', R', k1, k2, fun j hj => (k3 j hj).trans (lo1 j hj), k4, fun post pd pa pb ia ib w => x_it (by omega) ha hb S (fun pd' pa' pb' => x_65n hL hA hN e2 (kX _ _ _ _ _ _ w)), fun post pt l h w => y_it hL (by omega) ha hb S (y_91n hL hA hN e2 (kY _ _ _ _ w))⟩
        · by_cases e3 : q = L
          · exact ⟨1, _, _, hM1, hR1, lo1, Or.inr ⟨rfl, eq1, by omega⟩, fun post pd pa pb ia ib w => x_it (by omega) ha hb S (fun pd' pa' pb' => x_65e hL hq hA hN e1 e2 (fun _ => w _ _ _ _ _ _) (fun z => absurd e3 z)), fun post pt l h w => y_it hL (by omega) ha hb S (y_91e hL hq hA hN e1 e2 (fun _ => w _ _ _) (fun z => absurd e3 z))⟩
          · exact ⟨0, _, R, hM1, hR, lo1, Or.inl rfl, fun post pd pa pb ia ib w => x_it (by omega) ha hb S (fun pd' pa' pb' => x_65e hL hq hA hN e1 e2 (fun z => absurd z e3) (fun _ => w _ _ _ _ _ _)), fun post pt l h w => y_it hL (by omega) ha hb S (y_91e hL hq hA hN e1 e2 (fun z => absurd z e3) (fun _ => w _ _ _))⟩
/-! Y's clearing loop, ahead of the items -/
theorem y_cl {post : Int32 → SY → Prop} {tl pt lo hi : Int32} {K T R : Nat → Int32} (h : ∃ n : Nat, wY_parse_33 post n 0 999 0 0 tl pt lo hi T K (sr_fill R 0 (fun _ => 0) 1000)) :
    ∀ d i : Nat, i + d = 1000 → wY_parse_2 post tl pt lo hi (d + 1) (nI i) T K (sr_fill R 0 (fun _ => 0) i) := by
  intro d
  induction d with
  | zero =>
    intro i hi
    obtain rfl : i = 1000 := by omega
    exact br_t sr_1000e h
  | succ d IH =>
    intro i hi
    have ck2 : (nI i).toNatClampNeg = i := pk_cl i
    refine br_f (sr_1000 (by omega)) ⟨pk_in i 1000 (by omega), nm_r ?_ (nm_r (nI_1 i) (IH (i + 1) (by omega)))⟩
    rw [ck2, sr_vb (Or.inl rfl)]
    exact sr_fill_z R (fun _ => 0) i
theorem y_par {post : Int32 → SY → Prop} {tl pt lo hi : Int32} {K T R : Nat → Int32} (h : ∃ n : Nat, wY_parse_33 post n 0 999 0 0 tl pt lo hi T K (sr_fill R 0 (fun _ => 0) 1000)) : wpY_parse post (tl, pt, lo, hi, T, K, R) := by
  refine ⟨1001, ?_⟩
  have q := y_cl h 1000 0 rfl
  rw [sr_fill_0] at q
  exact q
/-- the whole text: one outcome, on both sides -/
theorem sr_text (T K : Nat → Int32) {L : Nat} (hL : L ≤ 40) {M R : Nat → Int32} (hM : sr_B M) (hR : sr_B R) :
    ∃ (z : Int32) (M' R' : Nat → Int32), sr_B M' ∧ sr_B R' ∧ (∀ j, j < 4000 → M' j = M j) ∧ (z = 0 ∨ (z = 1 ∧ (∀ v, v < 1000 → M' (4000 + v) = R' v) ∧ sr_st R' 1000 ≤ 24))
      ∧ (∀ (post : Int32 → SX → Prop) (pl pd pa pb ia ib : Int32), (∀ pl' pd' pa' pb' ia' ib' : Int32, post z (nI L, pl', pd', pa', pb', ia', ib', M', T)) → wpX_readText post (nI L, pl, pd, pa, pb, ia, ib, M, T))
      ∧ (∀ (post : Int32 → SY → Prop) (pt l h : Int32), (∀ pt' l' h' : Int32, post z (nI L, pt', l', h', T, K, R')) → wpY_parse post (nI L, pt, l, h, T, K, R)) := by
  have z0 : ∀ v, v < 1000 → sr_fill R 0 (fun _ => 0) 1000 v = (0 : Int32) := by
    intro v hv
    have q := sr_fill_in (f := R) (b := 0) (g := fun _ => 0) hv
    rw [Nat.zero_add] at q
    exact q
  have s0 : sr_st (sr_fill R 0 (fun _ => 0) 1000) 1000 ≤ 0 := by
    rw [sr_st_c (g := fun _ => 0) z0, sr_st_0]
    exact Nat.le_refl _
  obtain ⟨z, M', R', k1, k2, k3, k4, kX, kY⟩ := sr_parse T K hL 41 0 rfl 0 0 0 1000 (sr_fill M 4000 (fun _ => 0) 1000) (sr_fill R 0 (fun _ => 0) 1000) (by omega) (by omega) (by omega) (by omega)
    (sr_fill_B hM (fun _ _ => Or.inl rfl)) (sr_fill_B hR (fun _ _ => Or.inl rfl)) (fun v hv => (sr_fill_in hv).trans (z0 v hv).symm) s0
  rw [← sr_999] at kX kY
  refine ⟨z, M', R', k1, k2, fun j hj => (k3 j hj).trans (sr_fill_out (by omega)), k4, fun post pl pd pa pb ia ib w => ?_, fun post pt l h w => ?_⟩
  · unfold wpX_readText
    dsimp only
    exact x_clear ⟨42, kX _ _ _ _ _ _ w⟩
  · exact y_par ⟨42, kY _ _ _ _ w⟩
end
section
/-! type's characters; the loops as they are entered; numbers out of range -/
def sr_ok (c : Int32) : Prop := sr_dig c ∨ c = 32 ∨ c = 124 ∨ c = 42 ∨ c = 60 ∨ c = 62 ∨ c = 61 ∨ c = 94 ∨ c = 126 ∨ c = 46 ∨ c = 45
theorem sr_ok_d {c : Int32} (h : sr_dig c) : sr_ok c := Or.inl h
theorem sr_ok_32 {c : Int32} (h : c = 32) : sr_ok c := Or.inr (Or.inl h)
theorem sr_ok_124 {c : Int32} (h : c = 124) : sr_ok c := Or.inr (Or.inr (Or.inl h))
theorem sr_ok_42 {c : Int32} (h : c = 42) : sr_ok c := Or.inr (Or.inr (Or.inr (Or.inl h)))
theorem sr_ok_60 {c : Int32} (h : c = 60) : sr_ok c := Or.inr (Or.inr (Or.inr (Or.inr (Or.inl h))))
theorem sr_ok_62 {c : Int32} (h : c = 62) : sr_ok c := Or.inr (Or.inr (Or.inr (Or.inr (Or.inr (Or.inl h)))))
theorem sr_ok_61 {c : Int32} (h : c = 61) : sr_ok c := Or.inr (Or.inr (Or.inr (Or.inr (Or.inr (Or.inr (Or.inl h))))))
theorem sr_ok_94 {c : Int32} (h : c = 94) : sr_ok c := Or.inr (Or.inr (Or.inr (Or.inr (Or.inr (Or.inr (Or.inr (Or.inl h)))))))
theorem sr_ok_126 {c : Int32} (h : c = 126) : sr_ok c := Or.inr (Or.inr (Or.inr (Or.inr (Or.inr (Or.inr (Or.inr (Or.inr (Or.inl h))))))))
theorem sr_ok_46 {c : Int32} (h : c = 46) : sr_ok c := Or.inr (Or.inr (Or.inr (Or.inr (Or.inr (Or.inr (Or.inr (Or.inr (Or.inr (Or.inl h)))))))))
theorem sr_ok_45 {c : Int32} (h : c = 45) : sr_ok c := Or.inr (Or.inr (Or.inr (Or.inr (Or.inr (Or.inr (Or.inr (Or.inr (Or.inr (Or.inr h)))))))))
theorem sr_ok_n {c : Int32} (d : ¬ sr_dig c) (a1 : ¬ c = 32) (a2 : ¬ c = 124) (a3 : ¬ c = 42) (a4 : ¬ c = 60) (a5 : ¬ c = 62) (a6 : ¬ c = 61) (a7 : ¬ c = 94) (a8 : ¬ c = 126) (a9 : ¬ c = 46) (a10 : ¬ c = 45) : ¬ sr_ok c := by
  intro h
  rcases h with h | h | h | h | h | h | h | h | h | h | h
  · exact d h
  · exact a1 h
  · exact a2 h
  · exact a3 h
  · exact a4 h
  · exact a5 h
  · exact a6 h
  · exact a7 h
  · exact a8 h
  · exact a9 h
  · exact a10 h
theorem x_t41 {post : Int32 → Prop} {c x1 z0 : Int32} (h : ∀ z, wX_isTextCharacter_77 post c x1 z0 z) : wX_isTextCharacter_41 post c x1 z0 :=
  br_c (fun _ => h 1) (fun _ => br_c (fun _ => h 1) (fun _ => br_c (fun _ => h 1) (fun _ => br_c (fun _ => h 1) (fun _ => br_c (fun _ => h 1) (fun _ => h 0)))))
theorem x_t17 {post : Int32 → Prop} {c z0 : Int32} (h : ∀ z, wX_isTextCharacter_41 post c z0 z) : wX_isTextCharacter_17 post c z0 :=
  br_c (fun _ => h 1) (fun _ => br_c (fun _ => h 1) (fun _ => br_c (fun _ => h 1) (fun _ => h 0)))
theorem x_tc {post : Int32 → Prop} {c : Int32} (h1 : sr_ok c → post 1) (h0 : ¬ sr_ok c → post 0) : wpX_isTextCharacter post c := by
  by_cases d : sr_dig c
  · exact br_f (sr_nlt d.1) (br_f (sr_nlt d.2) (x_t17 (fun _ => x_t41 (fun _ => br_f (by decide) (h1 (sr_ok_d d))))))
  · have key : wX_isTextCharacter_17 post c 0 := by
      by_cases a1 : c = 32
      · exact br_t a1 (x_t41 (fun _ => br_t rfl (br_f (by decide) (h1 (sr_ok_32 a1)))))
      refine br_f a1 ?_
      by_cases a2 : c = 124
      · exact br_t a2 (x_t41 (fun _ => br_t rfl (br_f (by decide) (h1 (sr_ok_124 a2)))))
      refine br_f a2 ?_
      by_cases a3 : c = 42
      · exact br_t a3 (x_t41 (fun _ => br_t rfl (br_f (by decide) (h1 (sr_ok_42 a3)))))
      refine br_f a3 ?_
      by_cases a4 : c = 60
      · exact br_t a4 (br_t rfl (br_t rfl (br_f (by decide) (h1 (sr_ok_60 a4)))))
      refine br_f a4 ?_
      by_cases a5 : c = 62
      · exact br_t a5 (br_t rfl (br_t rfl (br_f (by decide) (h1 (sr_ok_62 a5)))))
      refine br_f a5 ?_
      by_cases a6 : c = 61
      · exact br_t a6 (br_t rfl (br_t rfl (br_f (by decide) (h1 (sr_ok_61 a6)))))
      refine br_f a6 ?_
      by_cases a7 : c = 94
      · exact br_t a7 (br_t rfl (br_t rfl (br_f (by decide) (h1 (sr_ok_94 a7)))))
      refine br_f a7 ?_
      by_cases a8 : c = 126
      · exact br_t a8 (br_t rfl (br_t rfl (br_f (by decide) (h1 (sr_ok_126 a8)))))
      refine br_f a8 (br_t rfl (br_t rfl (br_t rfl ?_)))
      exact br_c (fun a9 => h1 (sr_ok_46 a9)) (fun a9 => br_c (fun a10 => h1 (sr_ok_45 a10)) (fun a10 => h0 (sr_ok_n d a1 a2 a3 a4 a5 a6 a7 a8 a9 a10)))
    exact br_c (fun _ => key) (fun a => br_c (fun _ => key) (fun b => absurd ⟨Int32.not_lt.mp a, Int32.not_lt.mp b⟩ d))
theorem y_ty {post : Int32 → SY → Prop} {tl pt l h c : Int32} {T K R : Nat → Int32} (hL : ¬ tl = 40) (w1 : sr_ok c → wY_type_92 post c tl pt l h T K R) (w0 : ¬ sr_ok c → post (-1) (tl, pt, l, h, T, K, R)) : wpY_type post (tl, pt, l, h, T, K, R) c := by
  unfold wpY_type
  dsimp only
  refine br_f hL ?_
  by_cases d : sr_dig c
  · exact y_i1 d (br_f (by decide) (br_f (by decide) (w1 (sr_ok_d d))))
  refine y_i0 d (br_t rfl ?_)
  by_cases a1 : c = 32
  · exact br_t a1 (br_f (by decide) (w1 (sr_ok_32 a1)))
  refine br_f a1 ?_
  by_cases a3 : c = 42
  · exact br_t a3 (br_f (by decide) (w1 (sr_ok_42 a3)))
  refine br_f a3 ?_
  by_cases a9 : c = 46
  · exact br_t a9 (br_f (by decide) (w1 (sr_ok_46 a9)))
  refine br_f a9 ?_
  by_cases a2 : c = 124
  · exact br_t a2 (br_f (by decide) (w1 (sr_ok_124 a2)))
  refine br_f a2 ?_
  by_cases a4 : c = 60
  · exact br_t a4 (br_f (by decide) (w1 (sr_ok_60 a4)))
  refine br_f a4 (br_t rfl ?_)
  by_cases a5 : c = 62
  · exact br_t a5 (w1 (sr_ok_62 a5))
  refine br_f a5 ?_
  by_cases a6 : c = 61
  · exact br_t a6 (w1 (sr_ok_61 a6))
  refine br_f a6 ?_
  by_cases a7 : c = 94
  · exact br_t a7 (w1 (sr_ok_94 a7))
  refine br_f a7 ?_
  by_cases a8 : c = 126
  · exact br_t a8 (w1 (sr_ok_126 a8))
  refine br_f a8 ?_
  exact br_c (fun a10 => w1 (sr_ok_45 a10)) (fun a10 => w0 (sr_ok_n d a1 a2 a3 a4 a5 a6 a7 a8 a9 a10))
/-! the loops of meet, join, invert, stretches from their beginning -/
theorem x_meetL {post : Int32 → SX → Prop} {s a b : Nat} {tl pl pd pa pb ia ib : Int32} {M T f g : Nat → Int32} (hs : s < 4) (ha : a < 4) (hb : b < 4) (hB : sr_B M)
    (hf : ∀ v, v < 1000 → M (a * 1000 + v) = f v) (hg : ∀ v, v < 1000 → M (b * 1000 + v) = g v)
    (h1 : sr_st (sr_and f g) 1000 ≤ 24 → post 1 (tl, pl, pd, pa, pb, ia, ib, sr_new M s (sr_and f g), T))
    (h0 : ¬ sr_st (sr_and f g) 1000 ≤ 24 → post 0 (tl, pl, pd, pa, pb, ia, ib, sr_fill M 4000 (sr_and f g) 1000, T)) :
    ∃ n : Nat, wX_meet_26 post (nI s) (nI a) (nI b) tl pl pd pa pb ia ib n 0 M T := by
  have q := x_ml hs ha hb hB hf hg h1 h0 1000 0 rfl
  rw [sr_fill_0] at q
  exact ⟨1001, q⟩
theorem x_joinL {post : Int32 → SX → Prop} {s a b : Nat} {tl pl pd pa pb ia ib : Int32} {M T f g : Nat → Int32} (hs : s < 4) (ha : a < 4) (hb : b < 4) (hB : sr_B M)
    (hf : ∀ v, v < 1000 → M (a * 1000 + v) = f v) (hg : ∀ v, v < 1000 → M (b * 1000 + v) = g v)
    (h1 : sr_st (sr_or f g) 1000 ≤ 24 → post 1 (tl, pl, pd, pa, pb, ia, ib, sr_new M s (sr_or f g), T))
    (h0 : ¬ sr_st (sr_or f g) 1000 ≤ 24 → post 0 (tl, pl, pd, pa, pb, ia, ib, sr_fill M 4000 (sr_or f g) 1000, T)) :
    ∃ n : Nat, wX_join_26 post (nI s) (nI a) (nI b) tl pl pd pa pb ia ib n 0 M T := by
  have q := x_jl hs ha hb hB hf hg h1 h0 1000 0 rfl
  rw [sr_fill_0] at q
  exact ⟨1001, q⟩
theorem x_invL {post : Int32 → SX → Prop} {s a : Nat} {tl pl pd pa pb ia ib : Int32} {M T f : Nat → Int32} (hs : s < 4) (ha : a < 4) (hB : sr_B M)
    (hf : ∀ v, v < 1000 → M (a * 1000 + v) = f v)
    (h1 : sr_st (sr_not f) 1000 ≤ 24 → post 1 (tl, pl, pd, pa, pb, ia, ib, sr_new M s (sr_not f), T))
    (h0 : ¬ sr_st (sr_not f) 1000 ≤ 24 → post 0 (tl, pl, pd, pa, pb, ia, ib, sr_fill M 4000 (sr_not f) 1000, T)) :
    ∃ n : Nat, wX_invert_18 post (nI s) (nI a) tl pl pd pa pb ia ib n 0 M T := by
  have q := x_il hs ha hB hf h1 h0 1000 0 rfl
  rw [sr_fill_0] at q
  exact ⟨1001, q⟩
theorem y_meetL {post : Int32 → SY → Prop} {s a b : Nat} {tl pt lo hi : Int32} {K T R f g : Nat → Int32} (hs : s < 4) (ha : a < 4) (hb : b < 4) (hB : sr_B R)
    (hf : ∀ v, v < 1000 → K (a * 1000 + v) = f v) (hg : ∀ v, v < 1000 → K (b * 1000 + v) = g v)
    (h1 : sr_st (sr_and f g) 1000 ≤ 24 → post 1 (tl, pt, lo, hi, T, sr_fill K (s * 1000) (sr_fill R 0 (sr_and f g) 1000) 1000, sr_fill R 0 (sr_and f g) 1000))
    (h0 : ¬ sr_st (sr_and f g) 1000 ≤ 24 → post 0 (tl, pt, lo, hi, T, K, sr_fill R 0 (sr_and f g) 1000)) :
    ∃ n : Nat, wY_meet_29 post (nI s) (nI a) (nI b) tl pt lo hi n 0 T K R := by
  have q := y_ml hs ha hb hB hf hg h1 h0 1000 0 rfl
  rw [sr_fill_0] at q
  exact ⟨1001, q⟩
theorem y_joinL {post : Int32 → SY → Prop} {s a b : Nat} {tl pt lo hi : Int32} {K T R f g : Nat → Int32} (hs : s < 4) (ha : a < 4) (hb : b < 4) (hB : sr_B R)
    (hf : ∀ v, v < 1000 → K (a * 1000 + v) = f v) (hg : ∀ v, v < 1000 → K (b * 1000 + v) = g v)
    (h1 : sr_st (sr_or f g) 1000 ≤ 24 → post 1 (tl, pt, lo, hi, T, sr_fill K (s * 1000) (sr_fill R 0 (sr_or f g) 1000) 1000, sr_fill R 0 (sr_or f g) 1000))
    (h0 : ¬ sr_st (sr_or f g) 1000 ≤ 24 → post 0 (tl, pt, lo, hi, T, K, sr_fill R 0 (sr_or f g) 1000)) :
    ∃ n : Nat, wY_join_29 post (nI s) (nI a) (nI b) tl pt lo hi n 0 T K R := by
  have q := y_jl hs ha hb hB hf hg h1 h0 1000 0 rfl
  rw [sr_fill_0] at q
  exact ⟨1001, q⟩
theorem y_invL {post : Int32 → SY → Prop} {s a : Nat} {tl pt lo hi : Int32} {K T R f : Nat → Int32} (hs : s < 4) (ha : a < 4) (hB : sr_B R)
    (hf : ∀ v, v < 1000 → K (a * 1000 + v) = f v)
    (h1 : sr_st (sr_not f) 1000 ≤ 24 → post 1 (tl, pt, lo, hi, T, sr_fill K (s * 1000) (sr_fill R 0 (sr_not f) 1000) 1000, sr_fill R 0 (sr_not f) 1000))
    (h0 : ¬ sr_st (sr_not f) 1000 ≤ 24 → post 0 (tl, pt, lo, hi, T, K, sr_fill R 0 (sr_not f) 1000)) :
    ∃ n : Nat, wY_invert_20 post (nI s) (nI a) tl pt lo hi n 0 T K R := by
  have q := y_il hs ha hB hf h1 h0 1000 0 rfl
  rw [sr_fill_0] at q
  exact ⟨1001, q⟩
theorem y_strL {post : Int32 → SY → Prop} {s : Nat} {tl pt lo hi : Int32} {K T R f : Nat → Int32} (hs : s < 4) (hB : sr_B f) (hf : ∀ v, v < 1000 → K (s * 1000 + v) = f v)
    (h : post (nI (sr_st f 1000)) (tl, pt, lo, hi, T, K, sr_fill R 0 f 1000)) : ∃ n : Nat, wY_stretches_12 post (nI s) tl pt lo hi n 0 T K R := by
  have q := y_sc (R := R) hs hB hf h 1000 0 rfl
  rw [sr_fill_0] at q
  exact ⟨1001, q⟩
/-! numbers out of 0 .. 999 -/
theorem sr_neg_n {x : Int32} {v : Nat} (h : x < 0) (hv : v < 1000) : x < nI v := by
  rw [Int32.lt_iff_toInt_lt] at h
  rw [Int32.lt_iff_toInt_lt, nI_toInt (by omega)]
  have e : (0 : Int32).toInt = 0 := by decide
  omega
theorem sr_neg_f {x : Int32} {v : Nat} (h : x < 0) (hv : v < 1000) : ¬ nI v < x := by
  rw [Int32.lt_iff_toInt_lt] at h
  rw [Int32.lt_iff_toInt_lt, nI_toInt (by omega)]
  have e : (0 : Int32).toInt = 0 := by decide
  omega
theorem sr_big_n {x : Int32} {v : Nat} (h : nI 1000 ≤ x) (hv : v < 1000) : nI v < x := by
  rw [Int32.le_iff_toInt_le, nI_toInt (by omega)] at h
  rw [Int32.lt_iff_toInt_lt, nI_toInt (by omega)]
  omega
theorem sr_big_f {x : Int32} {v : Nat} (h : nI 1000 ≤ x) (hv : v < 1000) : ¬ x < nI v := by
  rw [Int32.le_iff_toInt_le, nI_toInt (by omega)] at h
  rw [Int32.lt_iff_toInt_lt, nI_toInt (by omega)]
  omega
theorem sr_neg_le {x : Int32} (h : x < 0) : x ≤ 999 := by
  rw [Int32.lt_iff_toInt_lt] at h
  rw [Int32.le_iff_toInt_le]
  have e : (0 : Int32).toInt = 0 := by decide
  have e2 : (999 : Int32).toInt = 999 := by decide
  omega
theorem sr_big_le {x : Int32} (h : nI 1000 ≤ x) : ¬ x ≤ 999 := by
  rw [Int32.le_iff_toInt_le, nI_toInt (by omega)] at h
  rw [Int32.le_iff_toInt_le]
  have e2 : (999 : Int32).toInt = 999 := by decide
  omega
theorem sr_big_lt {x : Int32} (h : nI 1000 ≤ x) : 999 < x := Int32.not_le.mp (sr_big_le h)
theorem sr_big_0 {x : Int32} (h : nI 1000 ≤ x) : 0 ≤ x := by
  rw [Int32.le_iff_toInt_le, nI_toInt (by omega)] at h
  rw [Int32.le_iff_toInt_le]
  have e : (0 : Int32).toInt = 0 := by decide
  omega
theorem sr_neg_0 {x : Int32} (h : x < 0) : ¬ 0 ≤ x := Int32.not_le.mpr h
end
section
/-! what is owed -/
def i_Rel (k : Nat) (u : SX) (v : SY) : Prop := ∃ (L : Nat) (pl pd pa pb ia ib pt l h : Int32) (M T K R : Nat → Int32), L ≤ 40 ∧ sr_B M ∧ sr_B R ∧ sr_ag K M ∧ u = (nI L, pl, pd, pa, pb, ia, ib, M, T) ∧ v = (nI L, pt, l, h, T, K, R)
theorem sr_mk {k L : Nat} {pl pd pa pb ia ib pt l h : Int32} {M T K R : Nat → Int32} (hL : L ≤ 40) (hM : sr_B M) (hR : sr_B R) (hag : sr_ag K M) : i_Rel k (nI L, pl, pd, pa, pb, ia, ib, M, T) (nI L, pt, l, h, T, K, R) :=
  ⟨L, pl, pd, pa, pb, ia, ib, pt, l, h, M, T, K, R, hL, hM, hR, hag, rfl, rfl⟩
theorem i_up {k : Nat} {u : SX} {v : SY} (h : i_Rel k u v) : i_Rel (k + 4) u v := h
theorem i_vc0 : wpX_init (fun u => wpY_init (fun v => i_Rel 0 u v)) :=
  sr_mk (k := 0) (L := 0) (by omega) (fun _ => Or.inl rfl) (fun _ => Or.inl rfl) (fun _ _ => rfl)
theorem i_vc_type {k : Nat} {u : SX} {v : SY} (I : i_Rel k u v) (hk : k + 4 ≤ 2048) (v1 : Int32) : wpX_type (fun r u' => wpY_type (fun r' v' => r' = r ∧ i_Rel (k + 4) u' v') v (lw_u16 v1)) u (lw_u16 v1) := by
  obtain ⟨L, pl, pd, pa, pb, ia, ib, pt, l, h, M, T, K, R, hL, hM, hR, hag, rfl, rfl⟩ := I
  have ev : vp_nar .char (lw_u16 v1) = lw_u16 v1 := pk_vc v1
  generalize lw_u16 v1 = c at ev ⊢
  by_cases z : L = 40
  · subst z
    unfold wpX_type wpY_type
    dsimp only
    exact br_f (by decide) (br_t rfl ⟨rfl, sr_mk hL hM hR hag⟩)
  · have n40 : ¬ nI L = 40 := fun q => z ((nI_eq (a := L) (b := 40) (by omega) (by omega)).mp q)
    have cl : (nI L).toNatClampNeg = L := pk_cl L
    unfold wpX_type
    dsimp only
    refine br_t (nI_lt (b := 40) (by omega) (by decide)) (x_tc (fun ok => br_f (by decide) ⟨pk_in L 40 (by omega), nm_r (by rw [cl, ev]) (nm_r (nI_1 L) ?_)⟩) (fun ok => br_t rfl ?_))
    · exact y_ty n40 (fun _ => ⟨pk_in L 40 (by omega), nm_r (by rw [cl]) (nm_r (nI_1 L) ⟨rfl, sr_mk (by omega) hM hR hag⟩)⟩) (fun q => absurd ok q)
    · exact y_ty n40 (fun q => absurd q ok) (fun _ => ⟨rfl, sr_mk hL hM hR hag⟩)
theorem i_vc_wipe {k : Nat} {u : SX} {v : SY} (I : i_Rel k u v) (hk : k + 4 ≤ 2048) : wpX_wipe (fun r u' => wpY_wipe (fun r' v' => r' = r ∧ i_Rel (k + 4) u' v') v) u := by
  obtain ⟨L, pl, pd, pa, pb, ia, ib, pt, l, h, M, T, K, R, hL, hM, hR, hag, rfl, rfl⟩ := I
  unfold wpX_wipe wpY_wipe
  dsimp only
  exact ⟨rfl, sr_mk (L := 0) (by omega) hM hR hag⟩
theorem i_vc_read {k : Nat} {u : SX} {v : SY} (I : i_Rel k u v) (hk : k + 4 ≤ 2048) (v1 : Int32) : wpX_read (fun r u' => wpY_read (fun r' v' => r' = r ∧ i_Rel (k + 4) u' v') v v1) u v1 := by
  obtain ⟨L, pl, pd, pa, pb, ia, ib, pt, l, h, M, T, K, R, hL, hM, hR, hag, rfl, rfl⟩ := I
  unfold wpX_read wpY_read
  dsimp only
  rcases sr_rng v1 with hb | ⟨s, hs, rfl⟩
  · exact x_r0 hb (br_t rfl (y_r0 hb (br_t rfl ⟨rfl, sr_mk hL hM hR hag⟩)))
  · obtain ⟨z, M', R', k1, k2, k3, k4, kX, kY⟩ := sr_text T K hL hM hR
    have ag' : sr_ag K M' := fun j hj => (hag j hj).trans (k3 j hj).symm
    refine x_r1 hs (br_f (by decide) (kX _ _ _ _ _ _ _ (fun a b c d e f => ?_)))
    rcases k4 with rfl | ⟨rfl, k5, k6⟩
    · exact br_t rfl (y_r1 hs (br_f (by decide) (kY _ _ _ _ (fun a b c => br_t rfl ⟨rfl, sr_mk hL k1 k2 ag'⟩))))
    · have cX : ∀ v, v < 1000 → sr_fill M' (s * 1000) (fun v => M' (4000 + v)) 1000 (s * 1000 + v) = R' v := fun v hv => (sr_fill_in hv).trans (k5 v hv)
      have cY : ∀ v, v < 1000 → sr_fill K (s * 1000) R' 1000 (s * 1000 + v) = R' v := fun v hv => sr_fill_in hv
      refine br_f (by decide) (x_keep hs k1 (f := R') k5 (fun _ => x_count (Nat.le_of_lt hs) (f := R') cX ?_) (fun q => absurd k6 q))
      exact y_r1 hs (br_f (by decide) (kY _ _ _ _ (fun a b c => br_f (by decide) (y_keep hs k2 (y_count hs (f := R') cY ⟨rfl, sr_mk (L := 0) (by omega) (sr_fill_B k1 (fun v _ => k1 _)) k2 (sr_ag_fill ag' hs (fun v hv => (k5 v hv).symm))⟩)))))
theorem i_vc_meet {k : Nat} {u : SX} {v : SY} (I : i_Rel k u v) (hk : k + 4 ≤ 2048) (v1 : Int32) (v2 : Int32) (v3 : Int32) : wpX_meet (fun r u' => wpY_meet (fun r' v' => r' = r ∧ i_Rel (k + 4) u' v') v v1 v2 v3) u v1 v2 v3 := by
  obtain ⟨L, pl, pd, pa, pb, ia, ib, pt, l, h, M, T, K, R, hL, hM, hR, hag, rfl, rfl⟩ := I
  unfold wpX_meet wpY_meet
  dsimp only
  rcases sr_rng v1 with h1 | ⟨s, h1, rfl⟩
  · exact x_r0 h1 (br_t rfl (y_r0 h1 (br_t rfl ⟨rfl, sr_mk hL hM hR hag⟩)))
  rcases sr_rng v2 with h2 | ⟨a, h2, rfl⟩
  · exact x_r1 h1 (br_f (by decide) (x_r0 h2 (br_t rfl (y_r1 h1 (br_f (by decide) (y_r0 h2 (br_t rfl ⟨rfl, sr_mk hL hM hR hag⟩)))))))
  rcases sr_rng v3 with h3 | ⟨b, h3, rfl⟩
  · exact x_r1 h1 (br_f (by decide) (x_r1 h2 (br_f (by decide) (x_r0 h3 (br_t rfl (y_r1 h1 (br_f (by decide) (y_r1 h2 (br_f (by decide) (y_r0 h3 (br_t rfl ⟨rfl, sr_mk hL hM hR hag⟩)))))))))))
  have gB := sr_and_B (fun v => M (a * 1000 + v)) (fun v => M (b * 1000 + v))
  have rB : sr_B (sr_fill R 0 (sr_and (fun v => M (a * 1000 + v)) (fun v => M (b * 1000 + v))) 1000) := sr_fill_B hR (fun v _ => gB v)
  have hf : ∀ v, v < 1000 → K (a * 1000 + v) = M (a * 1000 + v) := fun v hv => hag _ (by omega)
  have hg : ∀ v, v < 1000 → K (b * 1000 + v) = M (b * 1000 + v) := fun v hv => hag _ (by omega)
  refine x_r1 h1 (br_f (by decide) (x_r1 h2 (br_f (by decide) (x_r1 h3 (br_f (by decide) (x_meetL (f := fun v => M (a * 1000 + v)) (g := fun v => M (b * 1000 + v)) h1 h2 h3 hM (fun _ _ => rfl) (fun _ _ => rfl) (fun st => ?_) (fun st => ?_)))))))
  · exact y_r1 h1 (br_f (by decide) (y_r1 h2 (br_f (by decide) (y_r1 h3 (br_f (by decide) (y_meetL h1 h2 h3 hR hf hg (fun _ => ⟨rfl, sr_mk hL (sr_new_B hM gB) rB (sr_ag_new hag h1)⟩) (fun q => absurd st q)))))))
  · exact y_r1 h1 (br_f (by decide) (y_r1 h2 (br_f (by decide) (y_r1 h3 (br_f (by decide) (y_meetL h1 h2 h3 hR hf hg (fun q => absurd q st) (fun _ => ⟨rfl, sr_mk hL (sr_fill_B hM (fun v _ => gB v)) rB (sr_ag_R hag)⟩)))))))
theorem i_vc_join {k : Nat} {u : SX} {v : SY} (I : i_Rel k u v) (hk : k + 4 ≤ 2048) (v1 : Int32) (v2 : Int32) (v3 : Int32) : wpX_join (fun r u' => wpY_join (fun r' v' => r' = r ∧ i_Rel (k + 4) u' v') v v1 v2 v3) u v1 v2 v3 := by
  obtain ⟨L, pl, pd, pa, pb, ia, ib, pt, l, h, M, T, K, R, hL, hM, hR, hag, rfl, rfl⟩ := I
  unfold wpX_join wpY_join
  dsimp only
  rcases sr_rng v1 with h1 | ⟨s, h1, rfl⟩
  · exact x_r0 h1 (br_t rfl (y_r0 h1 (br_t rfl ⟨rfl, sr_mk hL hM hR hag⟩)))
  rcases sr_rng v2 with h2 | ⟨a, h2, rfl⟩
  · exact x_r1 h1 (br_f (by decide) (x_r0 h2 (br_t rfl (y_r1 h1 (br_f (by decide) (y_r0 h2 (br_t rfl ⟨rfl, sr_mk hL hM hR hag⟩)))))))
  rcases sr_rng v3 with h3 | ⟨b, h3, rfl⟩
  · exact x_r1 h1 (br_f (by decide) (x_r1 h2 (br_f (by decide) (x_r0 h3 (br_t rfl (y_r1 h1 (br_f (by decide) (y_r1 h2 (br_f (by decide) (y_r0 h3 (br_t rfl ⟨rfl, sr_mk hL hM hR hag⟩)))))))))))
  have gB := sr_or_B (fun v => M (a * 1000 + v)) (fun v => M (b * 1000 + v))
  have rB : sr_B (sr_fill R 0 (sr_or (fun v => M (a * 1000 + v)) (fun v => M (b * 1000 + v))) 1000) := sr_fill_B hR (fun v _ => gB v)
  have hf : ∀ v, v < 1000 → K (a * 1000 + v) = M (a * 1000 + v) := fun v hv => hag _ (by omega)
  have hg : ∀ v, v < 1000 → K (b * 1000 + v) = M (b * 1000 + v) := fun v hv => hag _ (by omega)
  refine x_r1 h1 (br_f (by decide) (x_r1 h2 (br_f (by decide) (x_r1 h3 (br_f (by decide) (x_joinL (f := fun v => M (a * 1000 + v)) (g := fun v => M (b * 1000 + v)) h1 h2 h3 hM (fun _ _ => rfl) (fun _ _ => rfl) (fun st => ?_) (fun st => ?_)))))))
  · exact y_r1 h1 (br_f (by decide) (y_r1 h2 (br_f (by decide) (y_r1 h3 (br_f (by decide) (y_joinL h1 h2 h3 hR hf hg (fun _ => ⟨rfl, sr_mk hL (sr_new_B hM gB) rB (sr_ag_new hag h1)⟩) (fun q => absurd st q)))))))
  · exact y_r1 h1 (br_f (by decide) (y_r1 h2 (br_f (by decide) (y_r1 h3 (br_f (by decide) (y_joinL h1 h2 h3 hR hf hg (fun q => absurd q st) (fun _ => ⟨rfl, sr_mk hL (sr_fill_B hM (fun v _ => gB v)) rB (sr_ag_R hag)⟩)))))))
theorem i_vc_invert {k : Nat} {u : SX} {v : SY} (I : i_Rel k u v) (hk : k + 4 ≤ 2048) (v1 : Int32) (v2 : Int32) : wpX_invert (fun r u' => wpY_invert (fun r' v' => r' = r ∧ i_Rel (k + 4) u' v') v v1 v2) u v1 v2 := by
  obtain ⟨L, pl, pd, pa, pb, ia, ib, pt, l, h, M, T, K, R, hL, hM, hR, hag, rfl, rfl⟩ := I
  unfold wpX_invert wpY_invert
  dsimp only
  rcases sr_rng v1 with h1 | ⟨s, h1, rfl⟩
  · exact x_r0 h1 (br_t rfl (y_r0 h1 (br_t rfl ⟨rfl, sr_mk hL hM hR hag⟩)))
  rcases sr_rng v2 with h2 | ⟨a, h2, rfl⟩
  · exact x_r1 h1 (br_f (by decide) (x_r0 h2 (br_t rfl (y_r1 h1 (br_f (by decide) (y_r0 h2 (br_t rfl ⟨rfl, sr_mk hL hM hR hag⟩)))))))
  have gB := sr_not_B (fun v => M (a * 1000 + v))
  have rB : sr_B (sr_fill R 0 (sr_not (fun v => M (a * 1000 + v))) 1000) := sr_fill_B hR (fun v _ => gB v)
  have hf : ∀ v, v < 1000 → K (a * 1000 + v) = M (a * 1000 + v) := fun v hv => hag _ (by omega)
  refine x_r1 h1 (br_f (by decide) (x_r1 h2 (br_f (by decide) (x_invL (f := fun v => M (a * 1000 + v)) h1 h2 hM (fun _ _ => rfl) (fun st => ?_) (fun st => ?_)))))
  · exact y_r1 h1 (br_f (by decide) (y_r1 h2 (br_f (by decide) (y_invL h1 h2 hR hf (fun _ => ⟨rfl, sr_mk hL (sr_new_B hM gB) rB (sr_ag_new hag h1)⟩) (fun q => absurd st q)))))
  · exact y_r1 h1 (br_f (by decide) (y_r1 h2 (br_f (by decide) (y_invL h1 h2 hR hf (fun q => absurd q st) (fun _ => ⟨rfl, sr_mk hL (sr_fill_B hM (fun v _ => gB v)) rB (sr_ag_R hag)⟩)))))
theorem i_vc_has {k : Nat} {u : SX} {v : SY} (I : i_Rel k u v) (hk : k + 4 ≤ 2048) (v1 : Int32) (v2 : Int32) : wpX_has (fun r => wpY_has (fun r' => r' = r ∧ i_Rel (k + 4) u v) v v1 v2) u v1 v2 := by
  obtain ⟨L, pl, pd, pa, pb, ia, ib, pt, l, h, M, T, K, R, hL, hM, hR, hag, rfl, rfl⟩ := I
  have rel : i_Rel (k + 4) (nI L, pl, pd, pa, pb, ia, ib, M, T) (nI L, pt, l, h, T, K, R) := sr_mk hL hM hR hag
  unfold wpX_has wpY_has
  dsimp only
  rcases sr_rng v1 with h1 | ⟨s, h1, rfl⟩
  · exact x_r0 h1 (br_t rfl (y_r0 h1 (br_t rfl ⟨rfl, rel⟩)))
  rcases pk_ix v2 (n := 1000) (by decide) with h2 | h2 | ⟨j, h2, rfl⟩
  · exact x_r1 h1 (br_f (by decide) (br_t h2 (y_r1 h1 (br_f (by decide) (br_t h2 ⟨rfl, rel⟩)))))
  · have p0 : ¬ v2 < 0 := Int32.not_lt.mpr (sr_big_0 h2)
    exact x_r1 h1 (br_f (by decide) (br_f p0 (br_f (sr_big_le h2) (y_r1 h1 (br_f (by decide) (br_f p0 (br_t (sr_big_lt h2) ⟨rfl, rel⟩)))))))
  · have p0 : ¬ nI j < 0 := nI_pos (by omega)
    have p1 : nI j ≤ 999 := nI_le (b := 999) (by omega) (by decide)
    have cx : (nI s * 1000 + nI j).toNatClampNeg = s * 1000 + j := pk_cl _ (sr_ixX s j)
    have cy : (1000 * nI s + nI j).toNatClampNeg = s * 1000 + j := pk_cl _ (sr_ixY s j)
    have ek : K (s * 1000 + j) = M (s * 1000 + j) := hag _ (by omega)
    rw [cx, cy, ek]
    refine x_r1 h1 (br_f (by decide) (br_f p0 (br_t p1 ⟨pk_in (s * 1000 + j) 5000 (by omega) (sr_ixX s j), sr_nb (hM _), y_r1 h1 (br_f (by decide) (br_f p0 (br_f (sr_nlt p1) ⟨pk_in (s * 1000 + j) 4000 (by omega) (sr_ixY s j), ?_⟩)))⟩)))
    rcases hM (s * 1000 + j) with e | e
    · exact br_t e ⟨e.symm, rel⟩
    · exact br_f (by rw [e]; decide) ⟨e.symm, rel⟩
theorem i_vc_count {k : Nat} {u : SX} {v : SY} (I : i_Rel k u v) (hk : k + 4 ≤ 2048) (v1 : Int32) : wpX_count (fun r => wpY_count (fun r' => r' = r ∧ i_Rel (k + 4) u v) v v1) u v1 := by
  obtain ⟨L, pl, pd, pa, pb, ia, ib, pt, l, h, M, T, K, R, hL, hM, hR, hag, rfl, rfl⟩ := I
  have rel : i_Rel (k + 4) (nI L, pl, pd, pa, pb, ia, ib, M, T) (nI L, pt, l, h, T, K, R) := sr_mk hL hM hR hag
  unfold wpX_count wpY_count
  dsimp only
  rcases sr_rng v1 with h1 | ⟨s, h1, rfl⟩
  · exact x_r0 h1 (br_t rfl (y_r0 h1 (br_t rfl ⟨rfl, rel⟩)))
  exact x_r1 h1 (br_f (by decide) (x_count (f := fun v => M (s * 1000 + v)) (Nat.le_of_lt h1) (fun _ _ => rfl) (y_r1 h1 (br_f (by decide) ⟨1001, y_cn (f := fun v => M (s * 1000 + v)) h1 (fun v hv => hag _ (by omega)) ⟨rfl, rel⟩ 1000 0 rfl⟩))))
theorem i_vc_atLeast {k : Nat} {u : SX} {v : SY} (I : i_Rel k u v) (hk : k + 4 ≤ 2048) (v1 : Int32) (v2 : Int32) : wpX_atLeast (fun r => wpY_atLeast (fun r' => r' = r ∧ i_Rel (k + 4) u v) v v1 v2) u v1 v2 := by
  obtain ⟨L, pl, pd, pa, pb, ia, ib, pt, l, h, M, T, K, R, hL, hM, hR, hag, rfl, rfl⟩ := I
  have rel : i_Rel (k + 4) (nI L, pl, pd, pa, pb, ia, ib, M, T) (nI L, pt, l, h, T, K, R) := sr_mk hL hM hR hag
  unfold wpX_atLeast wpY_atLeast
  dsimp only
  rcases sr_rng v1 with h1 | ⟨s, h1, rfl⟩
  · exact x_r0 h1 (br_t rfl (y_r0 h1 (br_t rfl ⟨rfl, rel⟩)))
  have hf : ∀ v, v < 1000 → K (s * 1000 + v) = M (s * 1000 + v) := fun v hv => hag _ (by omega)
  refine x_r1 h1 (br_f (by decide) ?_)
  rcases pk_ix v2 (n := 1000) (by decide) with h2 | h2 | ⟨j, h2, rfl⟩
  · exact br_f (sr_neg_0 h2) ⟨1001, x_atl (f := fun v => M (s * 1000 + v)) h1 (fun _ _ => rfl) 1000 0 rfl (y_r1 h1 (br_f (by decide) ⟨1001, y_atl (f := fun v => M (s * 1000 + v)) h1 hf 1000 0 rfl (fun v _ hv => sr_neg_f h2 hv) ⟨rfl, rel⟩⟩))⟩
  · exact br_t (sr_big_0 h2) ⟨1, br_t h2 (y_r1 h1 (br_f (by decide) ⟨1 + 1000, y_atl_s (n := 1) (j := 1000) h1 (Nat.le_refl _) (fun v hv => sr_big_n h2 hv) (br_t sr_1000e ⟨rfl, rel⟩) 1000 0 rfl⟩))⟩
  · exact br_t (nI_pos' (by omega)) ⟨1000 - j + 1, x_atl (f := fun v => M (s * 1000 + v)) h1 (fun _ _ => rfl) (1000 - j) j (by omega) (y_r1 h1 (br_f (by decide) ⟨1000 - j + 1 + j, y_atl_s (j := j) h1 (by omega) (fun v hv => nI_lt hv (by omega)) (y_atl (f := fun v => M (s * 1000 + v)) h1 hf (1000 - j) j (by omega) (fun v h3 h4 => nI_nlt h3 (by omega)) ⟨rfl, rel⟩) j 0 (by omega)⟩))⟩
theorem i_vc_atMost {k : Nat} {u : SX} {v : SY} (I : i_Rel k u v) (hk : k + 4 ≤ 2048) (v1 : Int32) (v2 : Int32) : wpX_atMost (fun r => wpY_atMost (fun r' => r' = r ∧ i_Rel (k + 4) u v) v v1 v2) u v1 v2 := by
  obtain ⟨L, pl, pd, pa, pb, ia, ib, pt, l, h, M, T, K, R, hL, hM, hR, hag, rfl, rfl⟩ := I
  have rel : i_Rel (k + 4) (nI L, pl, pd, pa, pb, ia, ib, M, T) (nI L, pt, l, h, T, K, R) := sr_mk hL hM hR hag
  unfold wpX_atMost wpY_atMost
  dsimp only
  rcases sr_rng v1 with h1 | ⟨s, h1, rfl⟩
  · exact x_r0 h1 (br_t rfl (y_r0 h1 (br_t rfl ⟨rfl, rel⟩)))
  have hf : ∀ v, v < 1000 → K (s * 1000 + v) = M (s * 1000 + v) := fun v hv => hag _ (by omega)
  refine x_r1 h1 (br_f (by decide) ?_)
  rw [sr_999]
  rcases pk_ix v2 (n := 1000) (by decide) with h2 | h2 | ⟨j, h2, rfl⟩
  · have q := y_atm_s (post := fun r' => r' = (-3 : Int32) ∧ i_Rel (k + 4) (nI L, pl, pd, pa, pb, ia, ib, M, T) (nI L, pt, l, h, T, K, R)) (n := 1) (j := 0) (tl := nI L) (pt := pt) (lo := l) (hi := h) (T := T) (K := K) (R := R) h1 (fun v _ hv => sr_neg_n h2 hv) (br_t (by decide) ⟨rfl, rel⟩) 1000 (by omega)
    rw [Nat.zero_add] at q
    exact br_t (by rw [← sr_999]; exact sr_neg_le h2) ⟨1, br_t h2 (y_r1 h1 (br_f (by decide) ⟨1 + 1000, q⟩))⟩
  · exact br_f (by rw [← sr_999]; exact sr_big_le h2) ⟨1001, x_atm (f := fun v => M (s * 1000 + v)) h1 (fun _ _ => rfl) 1000 (Nat.le_refl _) (y_r1 h1 (br_f (by decide) ⟨1001, y_atm (f := fun v => M (s * 1000 + v)) h1 hf 1000 (Nat.le_refl _) (fun v hv => sr_big_f h2 hv) ⟨rfl, rel⟩⟩))⟩
  · have q := y_atm_s (post := fun r' => r' = sr_am (fun v => M (s * 1000 + v)) (j + 1) ∧ i_Rel (k + 4) (nI L, pl, pd, pa, pb, ia, ib, M, T) (nI L, pt, l, h, T, K, R)) (x := nI j) (j := j + 1) (tl := nI L) (pt := pt) (lo := l) (hi := h) (T := T) (K := K) (R := R) h1 (fun v h3 h4 => nI_lt (by omega) (by omega)) (y_atm (f := fun v => M (s * 1000 + v)) h1 hf (j + 1) (by omega) (fun v hv => nI_nlt (by omega) (by omega)) ⟨rfl, rel⟩) (999 - j) (by omega)
    rw [show j + 1 + (999 - j) = 1000 from by omega] at q
    have p := x_atm (post := fun r => wpY_isRange (fun r_1 => (r_1 = 0 → (-1 : Int32) = r ∧ i_Rel (k + 4) (nI L, pl, pd, pa, pb, ia, ib, M, T) (nI L, pt, l, h, T, K, R)) ∧ (¬ r_1 = 0 → ∃ n14, wY_atMost_14 (fun r' => r' = r ∧ i_Rel (k + 4) (nI L, pl, pd, pa, pb, ia, ib, M, T) (nI L, pt, l, h, T, K, R)) (nI s) (nI j) (nI L) pt l h T K R n14 (nI 1000 - 1))) (nI L, pt, l, h, T, K, R) (nI s)) (f := fun v => M (s * 1000 + v)) (tl := nI L) (pl := pl) (pd := pd) (pa := pa) (pb := pb) (ia := ia) (ib := ib) (T := T) h1 (fun _ _ => rfl) (j + 1) (by omega) (y_r1 h1 (br_f (by decide) ⟨_, q⟩))
    rw [nI_pred j] at p
    exact br_t ((sr_v_le (by omega) (by omega)).mpr (by omega)) ⟨_, p⟩
theorem i_vc_stretches {k : Nat} {u : SX} {v : SY} (I : i_Rel k u v) (hk : k + 4 ≤ 2048) (v1 : Int32) : wpX_stretches (fun r => wpY_stretches (fun r' v' => r' = r ∧ i_Rel (k + 4) u v') v v1) u v1 := by
  obtain ⟨L, pl, pd, pa, pb, ia, ib, pt, l, h, M, T, K, R, hL, hM, hR, hag, rfl, rfl⟩ := I
  unfold wpX_stretches wpY_stretches
  dsimp only
  rcases sr_rng v1 with h1 | ⟨s, h1, rfl⟩
  · exact x_r0 h1 (br_t rfl (y_r0 h1 (br_t rfl ⟨rfl, sr_mk hL hM hR hag⟩)))
  have hf : ∀ v, v < 1000 → K (s * 1000 + v) = M (s * 1000 + v) := fun v hv => hag _ (by omega)
  exact x_r1 h1 (br_f (by decide) (x_st (f := fun v => M (s * 1000 + v)) (Nat.le_of_lt h1) (fun _ _ => rfl) (y_r1 h1 (br_f (by decide) (y_strL (f := fun v => M (s * 1000 + v)) h1 (fun v => hM _) hf ⟨rfl, sr_mk hL hM (sr_fill_B hR (fun v _ => hM _)) hag⟩)))))
theorem i_vc_within {k : Nat} {u : SX} {v : SY} (I : i_Rel k u v) (hk : k + 4 ≤ 2048) (v1 : Int32) (v2 : Int32) : wpX_within (fun r => wpY_within (fun r' => r' = r ∧ i_Rel (k + 4) u v) v v1 v2) u v1 v2 := by
  obtain ⟨L, pl, pd, pa, pb, ia, ib, pt, l, h, M, T, K, R, hL, hM, hR, hag, rfl, rfl⟩ := I
  have rel : i_Rel (k + 4) (nI L, pl, pd, pa, pb, ia, ib, M, T) (nI L, pt, l, h, T, K, R) := sr_mk hL hM hR hag
  unfold wpX_within wpY_within
  dsimp only
  rcases sr_rng v1 with h1 | ⟨s, h1, rfl⟩
  · exact x_r0 h1 (br_t rfl (y_r0 h1 (br_t rfl ⟨rfl, rel⟩)))
  rcases sr_rng v2 with h2 | ⟨a, h2, rfl⟩
  · exact x_r1 h1 (br_f (by decide) (x_r0 h2 (br_t rfl (y_r1 h1 (br_f (by decide) (y_r0 h2 (br_t rfl ⟨rfl, rel⟩)))))))
  have hf : ∀ v, v < 1000 → K (s * 1000 + v) = M (s * 1000 + v) := fun v hv => hag _ (by omega)
  have hg : ∀ v, v < 1000 → K (a * 1000 + v) = M (a * 1000 + v) := fun v hv => hag _ (by omega)
  exact x_r1 h1 (br_f (by decide) (x_r1 h2 (br_f (by decide) ⟨1001, x_wi (f := fun v => M (s * 1000 + v)) (g := fun v => M (a * 1000 + v)) h1 h2 (fun _ _ => rfl) (fun _ _ => rfl) 1000 0 rfl (y_r1 h1 (br_f (by decide) (y_r1 h2 (br_f (by decide) ⟨1001, y_wi (f := fun v => M (s * 1000 + v)) (g := fun v => M (a * 1000 + v)) h1 h2 hf hg 1000 0 rfl ⟨rfl, rel⟩⟩))))⟩)))
end
