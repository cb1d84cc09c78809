/-! pure rows: characters of the text, digits, the high end of an item held as nI b - 1 -/
theorem sr_hi_T {b : Nat} (h : b ≤ 1000) : (nI b - 1).toInt = (b : Int) - 1 := pk_sub_toInt (a := b) (b := 1) (by omega) (by omega)
theorem sr_hi_lt {a b : Nat} (ha : a ≤ 1000) (hb : b ≤ 1000) : nI a - 1 < nI b - 1 ↔ a < b := by
  rw [Int32.lt_iff_toInt_lt, sr_hi_T ha, sr_hi_T hb]
  omega
theorem sr_hi_le {a b : Nat} (ha : a ≤ 1000) (hb : b ≤ 1000) : nI a - 1 ≤ nI b - 1 ↔ a ≤ b := by
  rw [Int32.le_iff_toInt_le, sr_hi_T ha, sr_hi_T hb]
  omega
theorem sr_v_le {v b : Nat} (hv : v ≤ 1000) (hb : b ≤ 1000) : nI v ≤ nI b - 1 ↔ v < b := by
  rw [Int32.le_iff_toInt_le, nI_toInt (by omega), sr_hi_T hb]
  omega
theorem sr_v_lt {v b : Nat} (hv : v ≤ 1000) (hb : b ≤ 1000) : nI b - 1 < nI v ↔ b ≤ v := by
  rw [Int32.lt_iff_toInt_lt, nI_toInt (by omega), sr_hi_T hb]
  omega
theorem sr_999 : (999 : Int32) = nI 1000 - 1 := by decide
theorem sr_maj {v : Nat} (h : v < 1000) : nI v - (nI v - nI v / 100 * 100) + 99 = nI (v / 100 * 100 + 99) := by
  have e : nI v - nI v / 100 * 100 = nI (v % 100) := pk_rem (d := 100) (by omega) (by omega) (by omega)
  have e2 : nI (v - v % 100) + 99 = nI (v - v % 100 + 99) := nI_add _ 99
  rw [e, pk_sub (Nat.mod_le _ _), e2]
  exact congrArg nI (by omega)
theorem sr_min {v : Nat} (h : v < 1000) : nI v - (nI v - nI v / 10 * 10) + 9 = nI (v / 10 * 10 + 9) := by
  have e : nI v - nI v / 10 * 10 = nI (v % 10) := pk_rem (d := 10) (by omega) (by omega) (by omega)
  have e2 : nI (v - v % 10) + 9 = nI (v - v % 10 + 9) := nI_add _ 9
  rw [e, pk_sub (Nat.mod_le _ _), e2]
  exact congrArg nI (by omega)
theorem sr_majY {v : Nat} (h : v < 1000) : nI v / 100 * 100 + 99 = nI (v / 100 * 100 + 99) := by
  have e : nI v / 100 = nI (v / 100) := pk_div (d := 100) (by omega) (by omega) (by omega)
  have e1 : nI (v / 100) * 100 = nI (v / 100 * 100) := pk_mul _ 100
  rw [e, e1]
  exact nI_add _ 99
theorem sr_minY {v : Nat} (h : v < 1000) : nI v / 10 * 10 + 9 = nI (v / 10 * 10 + 9) := by
  have e : nI v / 10 = nI (v / 10) := pk_div (d := 10) (by omega) (by omega) (by omega)
  have e1 : nI (v / 10) * 10 = nI (v / 10 * 10) := pk_mul _ 10
  rw [e, e1]
  exact nI_add _ 9
/-- the character at i, 0 beyond the text's end -/
def sr_ch (T : Nat → Int32) (L i : Nat) : Int32 := if i < L then T i else 0
theorem sr_ch_in {T : Nat → Int32} {L i : Nat} (h : i < L) : sr_ch T L i = T i := if_pos h
theorem sr_ch_out {T : Nat → Int32} {L i : Nat} (h : L ≤ i) : sr_ch T L i = 0 := if_neg (by omega)
theorem sr_ch_lt {T : Nat → Int32} {L i : Nat} {c : Int32} (h : sr_ch T L i = c) (hc : c ≠ 0) : i < L := by
  by_cases z : i < L
  · exact z
  · exact absurd (h.symm.trans (sr_ch_out (by omega))) hc
def sr_dig (c : Int32) : Prop := 48 ≤ c ∧ c ≤ 57
theorem sr_dig_of {c : Int32} (h : sr_dig c) : ∃ g : Nat, g ≤ 9 ∧ c = nI (48 + g) := by
  have h0 : ¬ c < 0 := by
    have a := h.1
    rw [Int32.le_iff_toInt_le] at a
    rw [Int32.lt_iff_toInt_lt]
    have e1 : (48 : Int32).toInt = 48 := by decide
    have e2 : (0 : Int32).toInt = 0 := by decide
    omega
  obtain ⟨j, hj, rfl⟩ := nI_of h0
  have a : (48 : Nat) ≤ j := (nI_leI (a := 48) (b := j) (by omega) hj).mp h.1
  have b : j ≤ 57 := (nI_leI (a := j) (b := 57) hj (by omega)).mp h.2
  exact ⟨j - 48, by omega, congrArg nI (by omega)⟩
theorem sr_dig_n {g : Nat} (h : g ≤ 9) : sr_dig (nI (48 + g)) := ⟨nI_le (a := 48) (by omega) (by omega), nI_le (b := 57) (by omega) (by omega)⟩
theorem sr_dig_0 : ¬ sr_dig 0 := by unfold sr_dig; decide
theorem sr_dig_ne {g : Nat} (h : g ≤ 9) {c : Int32} (hc : ¬ sr_dig c) : ¬ nI (48 + g) = c := fun z => hc (z ▸ sr_dig_n h)
theorem sr_m48 (g : Nat) : nI (48 + g) - 48 = nI g := by
  have e : nI (48 + g) - nI 48 = nI (48 + g - 48) := pk_sub (by omega)
  have e2 : 48 + g - 48 = g := by omega
  rw [e2] at e
  exact e
