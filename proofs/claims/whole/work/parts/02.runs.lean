/-! the first place at which q holds -/
def dr_ff (q : Nat → Bool) : Nat → Nat → Nat
  | 0, i => i
  | d + 1, i => if q i = true then i else dr_ff q d (i + 1)
theorem dr_ff_all (q : Nat → Bool) : ∀ d i, i ≤ dr_ff q d i ∧ dr_ff q d i ≤ i + d ∧ (∀ k, i ≤ k → k < dr_ff q d i → q k = false) ∧ (dr_ff q d i < i + d → q (dr_ff q d i) = true) := by
  intro d
  induction d with
  | zero =>
    intro i
    exact ⟨Nat.le_refl i, Nat.le_refl i, fun k h1 h2 => absurd h2 (Nat.not_lt.mpr h1), fun h => absurd h (Nat.lt_irrefl i)⟩
  | succ d ih =>
    intro i
    by_cases z : q i = true
    · have e : dr_ff q (d + 1) i = i := if_pos z
      rw [e]
      exact ⟨Nat.le_refl i, by omega, fun k h1 h2 => absurd h2 (Nat.not_lt.mpr h1), fun _ => z⟩
    · have e : dr_ff q (d + 1) i = dr_ff q d (i + 1) := if_neg z
      rw [e]
      obtain ⟨h1, h2, h3, h4⟩ := ih (i + 1)
      refine ⟨by omega, by omega, fun k a b => ?_, fun h => h4 (by omega)⟩
      by_cases y : k = i
      · rw [y]
        exact Bool.eq_false_iff.mpr z
      · exact h3 k (by omega) b
theorem dr_ff_eq (q : Nat → Bool) (d i r : Nat) (h1 : i ≤ r) (h2 : r ≤ i + d) (h3 : ∀ k, i ≤ k → k < r → q k = false) (h4 : r < i + d → q r = true) : dr_ff q d i = r := by
  obtain ⟨a1, a2, a3, a4⟩ := dr_ff_all q d i
  by_cases x : dr_ff q d i < r
  · have y := a4 (by omega)
    rw [h3 _ a1 x] at y
    exact absurd y (by decide)
  · by_cases x2 : r < dr_ff q d i
    · have y := h4 (by omega)
      rw [a3 r h1 x2] at y
      exact absurd y (by decide)
    · omega
/-- how many steps to the first place, 0 if there is none in 16 -/
def dr_st (q : Nat → Bool) : Int32 := if dr_ff q 16 1 = 17 then 0 else nI (dr_ff q 16 1)
/-- the cell k steps away -/
def dr_ps (S : Nat → Bool) (x y dx dy : Int32) (k : Nat) : Bool := dr_in S (x + nI k * dx) (y + nI k * dy)
def dr_pc (x y dx dy : Int32) (k : Nat) : Bool := dr_cell (x + nI k * dx) (y + nI k * dy)
/-- a line that leaves the plane after m steps, m < 16 -/
def dr_Ln (x y dx dy : Int32) : Prop := ∃ m, m < 16 ∧ ∀ k, k ≤ 16 → dr_pc x y dx dy k = decide (k ≤ m)
theorem dr_axU : ∀ i, i < 16 → ∀ k, k < 17 → dr_ax (nI i + nI k * 1) = decide (k ≤ 15 - i) := by decide +kernel
theorem dr_axD : ∀ i, i < 16 → ∀ k, k < 17 → dr_ax (nI i + nI k * (-1)) = decide (k ≤ i) := by decide +kernel
theorem dr_axS : ∀ i, i < 16 → ∀ k, k < 17 → dr_ax (nI i + nI k * 0) = true := by decide +kernel
theorem dr_LnR {i j : Nat} (hi : i < 16) (hj : j < 16) : dr_Ln (nI i) (nI j) 1 0 :=
  ⟨15 - i, by omega, fun k hk => by
    unfold dr_pc dr_cell
    rw [dr_axU i hi k (by omega), dr_axS j hj k (by omega), Bool.and_true]⟩
theorem dr_LnL {i j : Nat} (hi : i < 16) (hj : j < 16) : dr_Ln (nI i) (nI j) (-1) 0 :=
  ⟨i, by omega, fun k hk => by
    unfold dr_pc dr_cell
    rw [dr_axD i hi k (by omega), dr_axS j hj k (by omega), Bool.and_true]⟩
theorem dr_LnU {i j : Nat} (hi : i < 16) (hj : j < 16) : dr_Ln (nI i) (nI j) 0 1 :=
  ⟨15 - j, by omega, fun k hk => by
    unfold dr_pc dr_cell
    rw [dr_axU j hj k (by omega), dr_axS i hi k (by omega), Bool.true_and]⟩
theorem dr_LnD {i j : Nat} (hi : i < 16) (hj : j < 16) : dr_Ln (nI i) (nI j) 0 (-1) :=
  ⟨j, by omega, fun k hk => by
    unfold dr_pc dr_cell
    rw [dr_axD j hj k (by omega), dr_axS i hi k (by omega), Bool.true_and]⟩
theorem dr_ps_out {S : Nat → Bool} {x y dx dy : Int32} {k : Nat} (h : dr_pc x y dx dy k = false) : dr_ps S x y dx dy k = false := by
  unfold dr_ps dr_in
  unfold dr_pc at h
  rw [h]
  rfl
theorem dr_ps_0 {S : Nat → Bool} {x y dx dy : Int32} : dr_ps S x y dx dy 0 = dr_in S x y := by
  unfold dr_ps
  rw [nI_0, Int32.zero_mul, Int32.zero_mul, Int32.add_zero, Int32.add_zero]
/-- the reference's run stops here -/
def dr_stop (S : Nat → Bool) (x y dx dy : Int32) (want : Bool) (k : Nat) : Bool := !(dr_pc x y dx dy k && (dr_ps S x y dx dy k == want))
def dr_rn (S : Nat → Bool) (x y dx dy : Int32) (want : Bool) : Nat := dr_ff (dr_stop S x y dx dy want) 16 0
def dr_sx (S : Nat → Bool) (x y dx dy : Int32) (w : Bool) : Int32 := dr_st (fun k => dr_ps S x y dx dy k == w)
theorem dr_thin1 {S : Nat → Bool} {x y dx dy : Int32} (L : dr_Ln x y dx dy) (h0 : dr_in S x y = true) :
    dr_sx S x y dx dy false = nI (dr_rn S x y dx dy true) ∧ ¬ dr_sx S x y dx dy false ≤ 0 := by
  obtain ⟨m, hm, hL⟩ := L
  obtain ⟨a1, a2, a3, a4⟩ := dr_ff_all (fun k => dr_ps S x y dx dy k == false) 16 1
  have o16 : dr_ps S x y dx dy 16 = false := dr_ps_out (by rw [hL 16 (by omega)]; exact decide_eq_false (by omega))
  have hr : dr_ff (fun k => dr_ps S x y dx dy k == false) 16 1 ≤ 16 := by
    by_cases z : dr_ff (fun k => dr_ps S x y dx dy k == false) 16 1 ≤ 16
    · exact z
    · have yy := a3 16 (by omega) (by omega)
      try dsimp only at yy
      rw [o16] at yy
      exact absurd yy (by decide)
  have e : dr_sx S x y dx dy false = nI (dr_ff (fun k => dr_ps S x y dx dy k == false) 16 1) := if_neg (by omega)
  have st : ∀ k, dr_stop S x y dx dy true k = (dr_ps S x y dx dy k == false) := by
    intro k
    unfold dr_stop
    cases hp : dr_ps S x y dx dy k with
    | false =>
      cases dr_pc x y dx dy k <;> rfl
    | true =>
      cases hc : dr_pc x y dx dy k with
      | true => rfl
      | false =>
        rw [dr_ps_out hc] at hp
        exact absurd hp (by decide)
  have r : dr_rn S x y dx dy true = dr_ff (fun k => dr_ps S x y dx dy k == false) 16 1 := by
    refine dr_ff_eq _ 16 0 _ (Nat.zero_le _) (by omega) (fun k _ hk => ?_) (fun h => ?_)
    · rw [st]
      by_cases z : k = 0
      · rw [z, dr_ps_0, h0]
        rfl
      · exact a3 k (by omega) hk
    · rw [st]
      exact a4 (by omega)
  rw [e, r]
  exact ⟨rfl, nI_nle (by omega) (by omega)⟩
theorem dr_gap1 {S : Nat → Bool} {x y dx dy : Int32} (L : dr_Ln x y dx dy) (h0 : dr_in S x y = false) :
    (dr_ps S x y dx dy (dr_rn S x y dx dy false) = true ∧ dr_sx S x y dx dy true = nI (dr_rn S x y dx dy false) ∧ ¬ dr_sx S x y dx dy true ≤ 0) ∨
    (dr_ps S x y dx dy (dr_rn S x y dx dy false) = false ∧ dr_sx S x y dx dy true ≤ 0) := by
  obtain ⟨m, hm, hL⟩ := L
  obtain ⟨a1, a2, a3, a4⟩ := dr_ff_all (fun k => dr_ps S x y dx dy k == true) 16 1
  obtain ⟨b1, b2, b3, b4⟩ := dr_ff_all (dr_stop S x y dx dy false) 16 0
  have c0 : dr_pc x y dx dy 0 = true := by rw [hL 0 (by omega)]; exact decide_eq_true (by omega)
  have p0 : dr_ps S x y dx dy 0 = false := by rw [dr_ps_0]; exact h0
  by_cases hr : dr_ff (fun k => dr_ps S x y dx dy k == true) 16 1 = 17
  · refine Or.inr ⟨?_, ?_⟩
    · by_cases z : dr_rn S x y dx dy false = 0
      · rw [z]
        exact p0
      · have q := a3 (dr_rn S x y dx dy false) (by omega) (by unfold dr_rn; omega)
        try dsimp only at q
        cases hp : dr_ps S x y dx dy (dr_rn S x y dx dy false) with
        | false => rfl
        | true =>
          rw [hp] at q
          exact absurd q (by decide)
    · have e : dr_sx S x y dx dy true = 0 := if_pos hr
      rw [e]
      decide
  · have yy := a4 (by omega)
    try dsimp only at yy
    have yt : dr_ps S x y dx dy (dr_ff (fun k => dr_ps S x y dx dy k == true) 16 1) = true := by
      cases hp : dr_ps S x y dx dy (dr_ff (fun k => dr_ps S x y dx dy k == true) 16 1) with
      | true => rfl
      | false =>
        rw [hp] at yy
        exact absurd yy (by decide)
    have hm2 : dr_ff (fun k => dr_ps S x y dx dy k == true) 16 1 ≤ m := by
      cases hc : dr_pc x y dx dy (dr_ff (fun k => dr_ps S x y dx dy k == true) 16 1) with
      | false =>
        rw [dr_ps_out hc] at yt
        exact absurd yt (by decide)
      | true =>
        rw [hL _ (by omega)] at hc
        exact of_decide_eq_true hc
    have r : dr_rn S x y dx dy false = dr_ff (fun k => dr_ps S x y dx dy k == true) 16 1 := by
      refine dr_ff_eq _ 16 0 _ (Nat.zero_le _) (by omega) (fun k _ hk => ?_) (fun h => ?_)
      · unfold dr_stop
        rw [hL k (by omega), decide_eq_true (show k ≤ m by omega)]
        by_cases z : k = 0
        · rw [z, p0]
          rfl
        · have q := a3 k (by omega) hk
          try dsimp only at q
          cases hp : dr_ps S x y dx dy k with
          | false => rfl
          | true =>
            rw [hp] at q
            exact absurd q (by decide)
      · unfold dr_stop
        rw [yt]
        cases dr_pc x y dx dy (dr_ff (fun k => dr_ps S x y dx dy k == true) 16 1) <;> rfl
    have e : dr_sx S x y dx dy true = nI (dr_ff (fun k => dr_ps S x y dx dy k == true) 16 1) := if_neg hr
    refine Or.inl ⟨by rw [r]; exact yt, by rw [e, r], ?_⟩
    rw [e]
    exact nI_nle (by omega) (by omega)
/-- the component's short run: closed at both ends, and below the limit -/
def dr_sh (S : Nat → Bool) (x y dx dy lim : Int32) (o : Bool) : Bool :=
  decide (¬ dr_sx S x y (-dx) (-dy) o ≤ 0 ∧ ¬ dr_sx S x y dx dy o ≤ 0 ∧ ¬ lim ≤ dr_sx S x y (-dx) (-dy) o + dr_sx S x y dx dy o - 1)
def dr_cnt (S : Nat → Bool) (v : Bool) (lim : Int32) (c : Nat) : Bool :=
  (S c == v) && (dr_sh S (nI (c % 16)) (nI (c / 16)) 1 0 lim (!(S c)) || dr_sh S (nI (c % 16)) (nI (c / 16)) 0 1 lim (!(S c)))
def dr_yth (S : Nat → Bool) (x y dx dy lim : Int32) : Bool :=
  decide (¬ lim ≤ nI (dr_rn S x y (-dx) (-dy) true) + nI (dr_rn S x y dx dy true) - 1)
def dr_ygp (S : Nat → Bool) (x y dx dy lim : Int32) : Bool :=
  dr_ps S x y dx dy (dr_rn S x y dx dy false) && (dr_ps S x y (-dx) (-dy) (dr_rn S x y (-dx) (-dy) false) && decide (¬ lim ≤ nI (dr_rn S x y dx dy false) + nI (dr_rn S x y (-dx) (-dy) false) - 1))
theorem dr_sh_thin {S : Nat → Bool} {x y dx dy lim : Int32} (L : dr_Ln x y dx dy) (L' : dr_Ln x y (-dx) (-dy)) (h0 : dr_in S x y = true) :
    dr_sh S x y dx dy lim false = dr_yth S x y dx dy lim := by
  obtain ⟨e1, n1⟩ := dr_thin1 L h0
  obtain ⟨e2, n2⟩ := dr_thin1 L' h0
  unfold dr_sh dr_yth
  rw [← e1, ← e2]
  refine decide_eq_decide.mpr ⟨fun h => h.2.2, fun h => ⟨n2, n1, h⟩⟩
theorem dr_sh_gap {S : Nat → Bool} {x y dx dy lim : Int32} (L : dr_Ln x y dx dy) (L' : dr_Ln x y (-dx) (-dy)) (h0 : dr_in S x y = false) :
    dr_sh S x y dx dy lim true = dr_ygp S x y dx dy lim := by
  unfold dr_ygp
  rcases dr_gap1 L h0 with ⟨p1, e1, n1⟩ | ⟨p1, n1⟩
  · rcases dr_gap1 L' h0 with ⟨p2, e2, n2⟩ | ⟨p2, n2⟩
    · rw [p1, p2, ← e1, ← e2, Bool.true_and, Bool.true_and]
      unfold dr_sh
      rw [Int32.add_comm (dr_sx S x y (-dx) (-dy) true)]
      exact decide_eq_decide.mpr ⟨fun h => h.2.2, fun h => ⟨n2, n1, h⟩⟩
    · rw [p1, p2]
      exact decide_eq_false (fun z => z.1 n2)
  · rw [p1]
    exact decide_eq_false (fun z => z.2.1 n1)
