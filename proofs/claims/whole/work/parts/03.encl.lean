/-! distances, and the least of them -/
def dr_ad (a b : Nat) : Nat := if b < a then a - b else b - a
def dr_ds (c d : Nat) : Nat := if dr_ad (c / 16) (d / 16) < dr_ad (c % 16) (d % 16) then dr_ad (c % 16) (d % 16) else dr_ad (c / 16) (d / 16)
def dr_g1 (B : Nat → Bool) (c d r : Nat) : Nat := if dr_ds c d < r ∧ B d = true then dr_ds c d else r
def dr_g2 (A B : Nat → Bool) (c r : Nat) : Nat := if A c = true then r else dr_it (dr_g1 B c) r 256
theorem dr_g1_all (B : Nat → Bool) (c r : Nat) : ∀ n, n ≤ 256 → dr_it (dr_g1 B c) r n ≤ r ∧ (∀ d, d < n → B d = true → dr_it (dr_g1 B c) r n ≤ dr_ds c d) ∧ (dr_it (dr_g1 B c) r n = r ∨ ∃ d, d < 256 ∧ B d = true ∧ dr_ds c d = dr_it (dr_g1 B c) r n) := by
  refine dr_it_inv (dr_g1 B c) r 256 (fun n s => s ≤ r ∧ (∀ d, d < n → B d = true → s ≤ dr_ds c d) ∧ (s = r ∨ ∃ d, d < 256 ∧ B d = true ∧ dr_ds c d = s)) ⟨Nat.le_refl r, fun d h => absurd h (Nat.not_lt_zero d), Or.inl rfl⟩ ?_
  intro k s hk h
  obtain ⟨h1, h2, h3⟩ := h
  by_cases z : dr_ds c k < s ∧ B k = true
  · have e : dr_g1 B c k s = dr_ds c k := if_pos z
    rw [e]
    refine ⟨by omega, fun d hd hb => ?_, Or.inr ⟨k, hk, z.2, rfl⟩⟩
    by_cases y : d = k
    · rw [y]
      exact Nat.le_refl _
    · have := h2 d (by omega) hb
      omega
  · have e : dr_g1 B c k s = s := if_neg z
    rw [e]
    refine ⟨h1, fun d hd hb => ?_, h3⟩
    by_cases y : d = k
    · rw [y] at hb ⊢
      by_cases x : dr_ds c k < s
      · exact absurd ⟨x, hb⟩ z
      · omega
    · exact h2 d (by omega) hb
def dr_R (A B : Nat → Bool) : Nat := dr_it (dr_g2 A B) 9 256
theorem dr_R_all (A B : Nat → Bool) : dr_R A B ≤ 9 ∧ (∀ c d, c < 256 → d < 256 → A c = false → B d = true → dr_R A B ≤ dr_ds c d) ∧ (dr_R A B = 9 ∨ ∃ c d, c < 256 ∧ d < 256 ∧ A c = false ∧ B d = true ∧ dr_ds c d = dr_R A B) := by
  refine dr_it_inv (dr_g2 A B) 9 256 (fun n s => s ≤ 9 ∧ (∀ c d, c < n → d < 256 → A c = false → B d = true → s ≤ dr_ds c d) ∧ (s = 9 ∨ ∃ c d, c < 256 ∧ d < 256 ∧ A c = false ∧ B d = true ∧ dr_ds c d = s)) ⟨Nat.le_refl 9, fun c d h => absurd h (Nat.not_lt_zero c), Or.inl rfl⟩ ?_ 256 (Nat.le_refl 256)
  intro k s hk h
  obtain ⟨h1, h2, h3⟩ := h
  cases z : A k with
  | true =>
    have e : dr_g2 A B k s = s := if_pos z
    rw [e]
    refine ⟨h1, fun c d hc hd ha hb => ?_, h3⟩
    by_cases y : c = k
    · rw [y, z] at ha
      exact absurd ha (by decide)
    · exact h2 c d (by omega) hd ha hb
  | false =>
    have e : dr_g2 A B k s = dr_it (dr_g1 B k) s 256 := if_neg (by rw [z]; decide)
    rw [e]
    obtain ⟨a1, a2, a3⟩ := dr_g1_all B k s 256 (Nat.le_refl 256)
    generalize dr_it (dr_g1 B k) s 256 = s' at a1 a2 a3
    refine ⟨by omega, fun c d hc hd ha hb => ?_, ?_⟩
    · by_cases y : c = k
      · rw [y]
        exact a2 d hd hb
      · have := h2 c d (by omega) hd ha hb
        omega
    · rcases a3 with a3 | ⟨d, hd, hb, a3⟩
      · rw [a3]
        exact h3
      · exact Or.inr ⟨k, d, hk, hd, z, hb, a3⟩
/-- some cell of B is within m of a cell that A lacks -/
def dr_bad (A B : Nat → Bool) (m : Nat) : Prop := ∃ c d, c < 256 ∧ d < 256 ∧ A c = false ∧ B d = true ∧ dr_ds c d ≤ m
theorem dr_bad_lt {A B : Nat → Bool} {m : Nat} (h : m < dr_R A B) : ¬ dr_bad A B m := by
  intro ⟨c, d, hc, hd, ha, hb, hm⟩
  have := (dr_R_all A B).2.1 c d hc hd ha hb
  omega
theorem dr_bad_R {A B : Nat → Bool} (h : dr_R A B ≤ 8) : dr_bad A B (dr_R A B) := by
  rcases (dr_R_all A B).2.2 with e | ⟨c, d, hc, hd, ha, hb, e⟩
  · omega
  · exact ⟨c, d, hc, hd, ha, hb, by omega⟩
/-! the square of side 2 m + 1 about a cell -/
theorem dr_sq {i m s : Nat} (h : m ≤ i + s) : nI i - nI m + nI s = nI (i + s - m) := by
  rw [← pk_sub h, ← nI_add]
  grind
theorem dr_sqT {i m s : Nat} (hi : i < 1000) (hm : m < 1000) (hs : s < 1000) : (nI i - nI m + nI s).toInt = (i : Int) - m + s := by
  rw [Int32.toInt_add, pk_sub_toInt (by omega) (by omega), nI_toInt (by omega)]
  exact Int.bmod_eq_of_le (by omega) (by omega)
theorem dr_sqN {i m s : Nat} (hi : i < 1000) (hm : m < 1000) (hs : s < 1000) (h : i + s < m) : nI i - nI m + nI s < 0 := by
  rw [Int32.lt_iff_toInt_lt, dr_sqT hi hm hs, show (0 : Int32).toInt = 0 from by decide]
  omega
theorem dr_sqC {i m s : Nat} (hi : i < 16) (hm : m < 9) (hs : s ≤ 2 * m) : ¬ nI i + nI m < nI i - nI m + nI s := by
  rw [Int32.lt_iff_toInt_lt, dr_sqT (by omega) (by omega) (by omega), nI_add, nI_toInt (by omega)]
  omega
theorem dr_sqE {i m s : Nat} (hi : i < 16) (hm : m < 9) (hs : s = 2 * m + 1) : nI i + nI m < nI i - nI m + nI s := by
  rw [Int32.lt_iff_toInt_lt, dr_sqT (by omega) (by omega) (by omega), nI_add, nI_toInt (by omega)]
  omega
/-- the reference's square meets a cell that the set lacks -/
def dr_hole (S : Nat → Bool) (i j m t s : Nat) : Bool := dr_cell (nI i - nI m + nI s) (nI j - nI m + nI t) && !(dr_in S (nI i - nI m + nI s) (nI j - nI m + nI t))
theorem dr_ad_le {a b m : Nat} : dr_ad a b ≤ m ↔ a ≤ b + m ∧ b ≤ a + m := by
  unfold dr_ad
  by_cases h : b < a
  · rw [if_pos h]; omega
  · rw [if_neg h]; omega
theorem dr_ds_le {c d m : Nat} : dr_ds c d ≤ m ↔ dr_ad (c % 16) (d % 16) ≤ m ∧ dr_ad (c / 16) (d / 16) ≤ m := by
  unfold dr_ds
  by_cases h : dr_ad (c / 16) (d / 16) < dr_ad (c % 16) (d % 16)
  · rw [if_pos h]; omega
  · rw [if_neg h]; omega
theorem dr_hole_of {S : Nat → Bool} {d m t s : Nat} (hd : d < 256) (hm : m < 9) (ht : t ≤ 2 * m) (hs : s ≤ 2 * m) (h : dr_hole S (d % 16) (d / 16) m t s = true) :
    ∃ c, c < 256 ∧ S c = false ∧ dr_ds c d ≤ m := by
  unfold dr_hole at h
  rw [Bool.and_eq_true] at h
  obtain ⟨h1, h2⟩ := h
  unfold dr_cell at h1
  rw [Bool.and_eq_true] at h1
  by_cases z : m ≤ d % 16 + s
  · by_cases y : m ≤ d / 16 + t
    · rw [dr_sq z, dr_sq y] at h1 h2
      have x1 : d % 16 + s - m < 16 := by
        by_cases w : d % 16 + s - m < 16
        · exact w
        · rw [dr_ax_o (by omega) (by omega)] at h1
          exact absurd h1.1 (by decide)
      have x2 : d / 16 + t - m < 16 := by
        by_cases w : d / 16 + t - m < 16
        · exact w
        · rw [dr_ax_o (i := d / 16 + t - m) (by omega) (by omega)] at h1
          exact absurd h1.2 (by decide)
      rw [dr_in_n x1 x2] at h2
      refine ⟨16 * (d / 16 + t - m) + (d % 16 + s - m), by omega, ?_, ?_⟩
      · cases e : S (16 * (d / 16 + t - m) + (d % 16 + s - m)) with
        | false => rfl
        | true =>
          rw [e] at h2
          exact absurd h2 (by decide)
      · rw [dr_ds_le, dr_ad_le, dr_ad_le]
        omega
    · rw [dr_ax_l (dr_sqN (by omega) (by omega) (by omega) (Nat.lt_of_not_le y))] at h1
      exact absurd h1.2 (by decide)
  · rw [dr_ax_l (dr_sqN (i := d % 16) (by omega) (by omega) (by omega) (Nat.lt_of_not_le z))] at h1
    exact absurd h1.1 (by decide)
theorem dr_hole_to {S : Nat → Bool} {c d m : Nat} (hc : c < 256) (hd : d < 256) (hs : S c = false) (h : dr_ds c d ≤ m) :
    ∃ t s, t < 2 * m + 1 ∧ s < 2 * m + 1 ∧ dr_hole S (d % 16) (d / 16) m t s = true := by
  rw [dr_ds_le, dr_ad_le, dr_ad_le] at h
  refine ⟨c / 16 + m - d / 16, c % 16 + m - d % 16, by omega, by omega, ?_⟩
  unfold dr_hole
  rw [dr_sq (by omega), dr_sq (by omega), show d % 16 + (c % 16 + m - d % 16) - m = c % 16 by omega, show d / 16 + (c / 16 + m - d / 16) - m = c / 16 by omega,
    dr_cell_n (by omega) (by omega), dr_in_n (by omega) (by omega), show 16 * (c / 16) + c % 16 = c by omega, hs]
  rfl
