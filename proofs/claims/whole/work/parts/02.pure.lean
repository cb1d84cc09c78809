/-! pure rows: filled stretches of an array, the number of stretches of a set, what an interval adds to it -/
def sr_B (f : Nat → Int32) : Prop := ∀ j, f j = 0 ∨ f j = 1
theorem sr_vb {x : Int32} (h : x = 0 ∨ x = 1) : vp_nar .boolean x = x := by rcases h with rfl | rfl <;> rfl
theorem sr_nb {x : Int32} (h : x = 0 ∨ x = 1) : narrow .boolean (.int x) = .int x := by rcases h with rfl | rfl <;> rfl
/-- cells b .. b + i - 1 hold g 0 .. g (i - 1), the others as f has them -/
def sr_fill (f : Nat → Int32) (b : Nat) (g : Nat → Int32) (i : Nat) : Nat → Int32 := fun j => if b ≤ j ∧ j < b + i then g (j - b) else f j
theorem sr_fill_0 (f : Nat → Int32) (b : Nat) (g : Nat → Int32) : sr_fill f b g 0 = f := by
  funext j
  exact if_neg (by omega)
theorem sr_fill_out {f : Nat → Int32} {b : Nat} {g : Nat → Int32} {i j : Nat} (h : j < b ∨ b + i ≤ j) : sr_fill f b g i j = f j := if_neg (by omega)
theorem sr_fill_in {f : Nat → Int32} {b : Nat} {g : Nat → Int32} {i v : Nat} (h : v < i) : sr_fill f b g i (b + v) = g v := by
  have e : b + v - b = v := by omega
  unfold sr_fill
  rw [if_pos ⟨by omega, by omega⟩, e]
theorem sr_fill_s (f : Nat → Int32) (b : Nat) (g : Nat → Int32) (i : Nat) : upd (sr_fill f b g i) (b + i) (g i) = sr_fill f b g (i + 1) := by
  funext j
  by_cases h : j = b + i
  · subst h
    rw [pk_us, sr_fill_in (by omega)]
  · rw [pk_un h]
    by_cases h2 : b ≤ j ∧ j < b + i
    · obtain ⟨v, rfl⟩ : ∃ v, j = b + v := ⟨j - b, by omega⟩
      rw [sr_fill_in (by omega), sr_fill_in (by omega)]
    · rw [sr_fill_out (by omega), sr_fill_out (by omega)]
theorem sr_fill_B {f : Nat → Int32} {b : Nat} {g : Nat → Int32} {i : Nat} (hf : sr_B f) (hg : ∀ v, v < i → g v = 0 ∨ g v = 1) : sr_B (sr_fill f b g i) := by
  intro j
  by_cases h2 : b ≤ j ∧ j < b + i
  · obtain ⟨v, rfl⟩ : ∃ v, j = b + v := ⟨j - b, by omega⟩
    rw [sr_fill_in (by omega)]
    exact hg v (by omega)
  · rw [sr_fill_out (by omega)]
    exact hf j
/-- 1 where a stretch begins -/
def sr_e (f : Nat → Int32) (n : Nat) : Nat := if ¬ f n = 0 ∧ (n = 0 ∨ f (n - 1) = 0) then 1 else 0
theorem sr_e_le (f : Nat → Int32) (n : Nat) : sr_e f n ≤ 1 := by
  unfold sr_e
  split
  · exact Nat.le_refl _
  · exact Nat.zero_le _
theorem sr_e_c {f g : Nat → Int32} {n : Nat} (h : f n = g n) (h' : f (n - 1) = g (n - 1)) : sr_e f n = sr_e g n := by
  unfold sr_e
  rw [h, h']
theorem sr_e_0 {f : Nat → Int32} {n : Nat} (hn : n ≠ 0) (h : ¬ f (n - 1) = 0) : sr_e f n = 0 := if_neg (fun z => z.2.elim hn h)
theorem sr_e_z {f : Nat → Int32} {n : Nat} (h : f n = 0) : sr_e f n = 0 := if_neg (fun z => z.1 h)
theorem sr_e_1 {f : Nat → Int32} {n : Nat} (h : ¬ f n = 0) (h' : n = 0 ∨ f (n - 1) = 0) : sr_e f n = 1 := if_pos ⟨h, h'⟩
/-- the number of stretches among the first n cells -/
def sr_st (f : Nat → Int32) : Nat → Nat
  | 0 => 0
  | n + 1 => sr_st f n + sr_e f n
theorem sr_st_s (f : Nat → Int32) (n : Nat) : sr_st f (n + 1) = sr_st f n + sr_e f n := rfl
theorem sr_st_le (f : Nat → Int32) (n : Nat) : sr_st f n ≤ n := by
  induction n with
  | zero => exact Nat.le_refl _
  | succ n ih =>
    have h := sr_e_le f n
    rw [sr_st_s]
    omega
theorem sr_st_c {f g : Nat → Int32} {n : Nat} (h : ∀ v, v < n → f v = g v) : sr_st f n = sr_st g n := by
  induction n with
  | zero => rfl
  | succ n ih => rw [sr_st_s, sr_st_s, ih (fun v hv => h v (by omega)), sr_e_c (h n (by omega)) (h (n - 1) (by omega))]
/-- the set with the versions from a to b - 1 beside its own -/
def sr_ad (f : Nat → Int32) (a b : Nat) : Nat → Int32 := fun j => if a ≤ j ∧ j < b then 1 else f j
theorem sr_ad_in {f : Nat → Int32} {a b j : Nat} (h : a ≤ j ∧ j < b) : sr_ad f a b j = 1 := if_pos h
theorem sr_ad_out {f : Nat → Int32} {a b j : Nat} (h : ¬ (a ≤ j ∧ j < b)) : sr_ad f a b j = f j := if_neg h
theorem sr_ad_B {f : Nat → Int32} {a b : Nat} (h : sr_B f) : sr_B (sr_ad f a b) := by
  intro j
  by_cases h2 : a ≤ j ∧ j < b
  · exact Or.inr (sr_ad_in h2)
  · rw [sr_ad_out h2]
    exact h j
theorem sr_st_ad (f : Nat → Int32) (a b n : Nat) : ((n ≤ a ∨ b ≤ a) → sr_st (sr_ad f a b) n ≤ sr_st f n) ∧ sr_st (sr_ad f a b) n ≤ sr_st f n + 1 := by
  induction n with
  | zero => exact ⟨fun _ => Nat.le_refl _, Nat.zero_le _⟩
  | succ n ih =>
    obtain ⟨i1, i2⟩ := ih
    rw [sr_st_s, sr_st_s]
    by_cases h1 : n < a ∨ b ≤ a
    · have e : sr_e (sr_ad f a b) n = sr_e f n := sr_e_c (sr_ad_out (by omega)) (sr_ad_out (by omega))
      rw [e]
      have i3 := i1 (by omega)
      exact ⟨fun _ => by omega, by omega⟩
    · refine ⟨fun z => absurd z (by omega), ?_⟩
      by_cases h2 : n = a
      · have i3 := i1 (by omega)
        have e := sr_e_le (sr_ad f a b) n
        omega
      · have e : sr_e (sr_ad f a b) n ≤ sr_e f n := by
          by_cases h3 : n ≤ b
          · have e1 : sr_ad f a b (n - 1) = 1 := sr_ad_in (by omega)
            rw [sr_e_0 (by omega) (by rw [e1]; decide)]
            exact Nat.zero_le _
          · exact Nat.le_of_eq (sr_e_c (sr_ad_out (by omega)) (sr_ad_out (by omega)))
        omega
theorem sr_st_0 (n : Nat) : sr_st (fun _ => 0) n = 0 := by
  induction n with
  | zero => rfl
  | succ n ih => rw [sr_st_s, ih, sr_e_z rfl]
