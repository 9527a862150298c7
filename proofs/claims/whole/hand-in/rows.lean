section
theorem pk_us {f : Nat → Int32} {k : Nat} {x : Int32} : upd f k x k = x := if_pos rfl
theorem pk_un {f : Nat → Int32} {k j : Nat} {x : Int32} (h : j ≠ k) : upd f k x j = f j := if_neg h
theorem pk_sub {a b : Nat} (h : b ≤ a) : nI a - nI b = nI (a - b) := by
  obtain ⟨c, rfl⟩ : ∃ c, a = c + b := ⟨a - b, by omega⟩
  rw [← nI_add, Int32.add_sub_cancel, Nat.add_sub_cancel]
theorem pk_m1 (n : Nat) : nI (n + 1) + (-1) = nI n := by
  rw [← nI_1, Int32.add_assoc, show (1 : Int32) + (-1) = 0 from rfl, Int32.add_zero]
theorem pk_mul (a b : Nat) : nI a * nI b = nI (a * b) := (Int32.ofNat_mul a b).symm
theorem pk_div {a d : Nat} (ha : a < 2 ^ 31) (h0 : 0 < d) (hd : d < 2 ^ 31) : nI a / nI d = nI (a / d) := by
  apply Int32.toInt_inj.mp
  rw [lg_idiv_nonneg (by rw [nI_toInt ha]; omega) (by rw [nI_toInt hd]; omega), nI_toInt ha, nI_toInt hd, nI_toInt (Nat.lt_of_le_of_lt (Nat.div_le_self a d) ha)]
  first | rfl | exact (Int.natCast_ediv _ _).symm
theorem pk_rem {a d : Nat} (ha : a < 2 ^ 31) (h0 : 0 < d) (hd : d < 2 ^ 31) : nI a - nI a / nI d * nI d = nI (a % d) := by
  rw [pk_div ha h0 hd, pk_mul, pk_sub (Nat.div_mul_le_self a d)]
  exact congrArg nI (by have := Nat.div_add_mod' a d; omega)
theorem pk_sub_toInt {a b : Nat} (ha : a < 2 ^ 30) (hb : b < 2 ^ 30) : (nI a - nI b).toInt = (a : Int) - b := by
  rw [Int32.toInt_sub, nI_toInt (by omega), nI_toInt (by omega)]
  exact Int.bmod_eq_of_le (by omega) (by omega)
theorem pk_sneg {a b : Nat} (hb : b < 2 ^ 30) (h : a < b) : nI a - nI b < 0 := by
  rw [Int32.lt_iff_toInt_lt, pk_sub_toInt (by omega) hb, show (0 : Int32).toInt = 0 from by decide]
  omega
theorem pk_ix (x : Int32) {n : Nat} (hn : n < 2 ^ 31) : x < 0 ∨ nI n ≤ x ∨ ∃ j : Nat, j < n ∧ x = nI j := by
  by_cases h : x < 0
  · exact Or.inl h
  · obtain ⟨j, hj, rfl⟩ := nI_of h
    by_cases h2 : j < n
    · exact Or.inr (Or.inr ⟨j, h2, rfl⟩)
    · exact Or.inr (Or.inl (nI_le (by omega) hj))
theorem pk_le {x y : Int32} {A B : Prop} (a b : Nat) (f : a ≤ b → A) (g : b < a → B) (hx : x = nI a := by rfl) (hy : y = nI b := by rfl) (ha : a < 2 ^ 31 := by omega) (hb : b < 2 ^ 31 := by omega) : (x ≤ y → A) ∧ (¬ x ≤ y → B) := by
  subst hx hy
  rw [nI_leI ha hb]
  exact ⟨f, fun z => g (by omega)⟩
theorem pk_lt {x y : Int32} {A B : Prop} (a b : Nat) (f : a < b → A) (g : b ≤ a → B) (hx : x = nI a := by rfl) (hy : y = nI b := by rfl) (ha : a < 2 ^ 31 := by omega) (hb : b < 2 ^ 31 := by omega) : (x < y → A) ∧ (¬ x < y → B) := by
  subst hx hy
  rw [nI_ltI ha hb]
  exact ⟨f, fun z => g (by omega)⟩
theorem pk_eq {x y : Int32} {A B : Prop} (a b : Nat) (f : a = b → A) (g : a ≠ b → B) (hx : x = nI a := by rfl) (hy : y = nI b := by rfl) (ha : a < 2 ^ 31 := by omega) (hb : b < 2 ^ 31 := by omega) : (x = y → A) ∧ (¬ x = y → B) := by
  subst hx hy
  rw [nI_eq ha hb]
  exact ⟨f, g⟩
theorem pk_in {x : Int32} (n N : Nat) (h : n < N) (hx : x = nI n := by rfl) (hN : N < 2 ^ 31 := by omega) : vp_in x N := by
  subst hx
  exact vp_in_nI h hN
theorem pk_cl {x : Int32} (n : Nat) (hx : x = nI n := by rfl) (h : n < 2 ^ 31 := by omega) : x.toNatClampNeg = n := by
  subst hx
  exact nI_clamp h
theorem pk_least (P : Nat → Prop) (h : ∃ k, P k) : ∃ k, P k ∧ ∀ j, j < k → ¬ P j := by
  obtain ⟨k, hk⟩ := h
  induction k using Nat.strongRecOn with
  | ind k ih =>
    by_cases e : ∃ j, j < k ∧ P j
    · obtain ⟨j, hj, pj⟩ := e
      exact ih j hj pj
    · exact ⟨k, hk, fun j hj pj => e ⟨j, hj, pj⟩⟩
/-! truth values as ints -/
def dr_b : Bool → Int32
  | true => 1
  | false => 0
theorem dr_b_n (c : Bool) : narrow .boolean (.int (dr_b c)) = .int (dr_b c) := by cases c <;> rfl
theorem dr_b_v (c : Bool) : vp_nar .boolean (dr_b c) = dr_b c := by cases c <;> rfl
theorem dr_b_f (c : Bool) : fits .boolean (.int (dr_b c)) = true := by cases c <;> rfl
theorem dr_if {c : Bool} {A B : Prop} (t : c = true → B) (f : c = false → A) : (dr_b c = 0 → A) ∧ (¬ dr_b c = 0 → B) := by
  cases c
  · exact br_t rfl (f rfl)
  · exact br_f (by decide) (t rfl)
theorem dr_inj {a b : Bool} : dr_b a = dr_b b ↔ a = b := by cases a <;> cases b <;> decide
theorem dr_same {a b : Bool} {A B : Prop} (t : a = b → A) (f : ¬ a = b → B) : (dr_b a = dr_b b → A) ∧ (¬ dr_b a = dr_b b → B) := by
  rw [dr_inj]
  exact ⟨t, f⟩
theorem dr_xor {a b : Bool} {P : Int32 → Prop} (h : P (dr_b (a != b))) : (dr_b a = dr_b b → P 0) ∧ (¬ dr_b a = dr_b b → P 1) := by
  cases a <;> cases b
  · exact br_t rfl h
  · exact br_f (by decide) h
  · exact br_f (by decide) h
  · exact br_t rfl h
/-! loops -/
def dr_it {σ : Type} (g : Nat → σ → σ) (s0 : σ) : Nat → σ
  | 0 => s0
  | n + 1 => g n (dr_it g s0 n)
theorem dr_it_inv {σ : Type} (g : Nat → σ → σ) (s0 : σ) (N : Nat) (P : Nat → σ → Prop) (h0 : P 0 s0)
    (hs : ∀ k s, k < N → P k s → P (k + 1) (g k s)) : ∀ n, n ≤ N → P n (dr_it g s0 n) := by
  intro n
  induction n with
  | zero => exact fun _ => h0
  | succ n ih => exact fun h => hs n _ (by omega) (ih (by omega))
theorem dr_it_c {σ : Type} (g g' : Nat → σ → σ) (s0 : σ) (N : Nat) (h : ∀ k s, k < N → g k s = g' k s) : dr_it g s0 N = dr_it g' s0 N := by
  have a : ∀ n, n ≤ N → dr_it g s0 n = dr_it g' s0 n := by
    intro n
    induction n with
    | zero => exact fun _ => rfl
    | succ n ih =>
      intro hn
      show g n (dr_it g s0 n) = g' n (dr_it g' s0 n)
      rw [ih (by omega), h n _ (by omega)]
  exact a N (Nat.le_refl N)
theorem dr_loop {σ : Type} (g : Nat → σ → σ) (s0 : σ) (e : Nat) (A : Nat → Nat → σ → Prop)
    (hx : ∀ n, A (n + 1) e (dr_it g s0 e))
    (hs : ∀ n i s, i < e → A n (i + 1) (g i s) → A (n + 1) i s) : ∃ n, A n 0 s0 := by
  have a : ∀ d j, j + d = e → A (d + 1) j (dr_it g s0 j) := by
    intro d
    induction d with
    | zero =>
      intro j hj
      have z : j = e := by omega
      rw [z]
      exact hx 0
    | succ d ih =>
      intro j hj
      exact hs (d + 1) j _ (by omega) (ih (j + 1) (by omega))
  exact ⟨e + 1, a e 0 (by omega)⟩
theorem dr_nest {σ : Type} (g : Nat → σ → σ) (s0 : σ) (w h : Nat) (A : Nat → Nat → σ → Prop) (B : Nat → Nat → Nat → Nat → σ → Prop)
    (hAx : ∀ n, A (n + 1) h (dr_it g s0 (w * h)))
    (hAs : ∀ n j s, j < h → (∃ m, B n j m 0 s) → A (n + 1) j s)
    (hBx : ∀ n j m s, j < h → A n (j + 1) s → B n j (m + 1) w s)
    (hBs : ∀ n j m i s, j < h → i < w → B n j m (i + 1) (g (w * j + i) s) → B n j (m + 1) i s) : ∃ n, A n 0 s0 := by
  have b : ∀ n j, j < h → A n (j + 1) (dr_it g s0 (w * (j + 1))) → ∀ d i, i + d = w → B n j (d + 1) i (dr_it g s0 (w * j + i)) := by
    intro n j hj ha d
    induction d with
    | zero =>
      intro i hi
      have e : i = w := by omega
      rw [e]
      exact hBx n j 0 _ hj ha
    | succ d ih =>
      intro i hi
      exact hBs n j (d + 1) i _ hj (by omega) (ih (i + 1) (by omega))
  have a : ∀ d j, j + d = h → A (d + 1) j (dr_it g s0 (w * j)) := by
    intro d
    induction d with
    | zero =>
      intro j hj
      have e : j = h := by omega
      rw [e]
      exact hAx 0
    | succ d ih =>
      intro j hj
      exact hAs (d + 1) j _ (by omega) ⟨w + 1, b (d + 1) j (by omega) (ih (j + 1) (by omega)) w 0 (by omega)⟩
  exact ⟨h + 1, a h 0 (by omega)⟩
theorem dr_scan (p : Nat → Bool) (e : Nat) (A : Nat → Nat → Prop)
    (hx : (∀ k, k < e → p k = false) → ∀ n, A (n + 1) e)
    (ht : ∀ n i, i < e → (∀ k, k < i → p k = false) → p i = true → A (n + 1) i)
    (hf : ∀ n i, i < e → p i = false → A n (i + 1) → A (n + 1) i) : ∃ n, A n 0 := by
  have a : ∀ d i, i + d = e → (∀ k, k < i → p k = false) → A (d + 1) i := by
    intro d
    induction d with
    | zero =>
      intro i hi hk
      have z : i = e := by omega
      rw [z]
      rw [z] at hk
      exact hx hk 0
    | succ d ih =>
      intro i hi hk
      cases hp : p i with
      | true => exact ht (d + 1) i (by omega) hk hp
      | false => exact hf (d + 1) i (by omega) hp (ih (i + 1) (by omega) (lt_s hk hp))
  exact ⟨e + 1, a e 0 (by omega) (fun k hk => absurd hk (Nat.not_lt_zero k))⟩
theorem dr_scan2 (p : Nat → Nat → Bool) (w h : Nat) (A : Nat → Nat → Prop) (B : Nat → Nat → Nat → Nat → Prop)
    (hAx : (∀ j i, j < h → i < w → p j i = false) → ∀ n, A (n + 1) h)
    (hAs : ∀ n j, j < h → (∃ m, B n j m 0) → A (n + 1) j)
    (hBx : ∀ n j m, j < h → A n (j + 1) → B n j (m + 1) w)
    (hBt : ∀ n j m i, j < h → i < w → p j i = true → B n j (m + 1) i)
    (hBf : ∀ n j m i, j < h → i < w → p j i = false → B n j m (i + 1) → B n j (m + 1) i) : ∃ n, A n 0 := by
  have b : ∀ n j, j < h → ((∀ i, i < w → p j i = false) → A n (j + 1)) → ∀ d i, i + d = w → (∀ k, k < i → p j k = false) → B n j (d + 1) i := by
    intro n j hj ha d
    induction d with
    | zero =>
      intro i hi hk
      have z : i = w := by omega
      rw [z]
      rw [z] at hk
      exact hBx n j 0 hj (ha hk)
    | succ d ih =>
      intro i hi hk
      cases hp : p j i with
      | true => exact hBt n j (d + 1) i hj (by omega) hp
      | false => exact hBf n j (d + 1) i hj (by omega) hp (ih (i + 1) (by omega) (lt_s hk hp))
  have a : ∀ d j, j + d = h → (∀ k i, k < j → i < w → p k i = false) → A (d + 1) j := by
    intro d
    induction d with
    | zero =>
      intro j hj hk
      have z : j = h := by omega
      rw [z]
      rw [z] at hk
      exact hAx hk 0
    | succ d ih =>
      intro j hj hk
      refine hAs (d + 1) j (by omega) ⟨w + 1, b (d + 1) j (by omega) (fun hr => ih (j + 1) (by omega) ?_) w 0 (by omega) (fun k hk => absurd hk (Nat.not_lt_zero k))⟩
      intro k i hkj hi
      by_cases e : k = j
      · rw [e]
        exact hr i hi
      · exact hk k i (by omega) hi
  exact ⟨h + 1, a h 0 (by omega) (fun k i hk => absurd hk (Nat.not_lt_zero k))⟩
/-! one of the first n -/
def dr_any (f : Nat → Bool) : Nat → Bool
  | 0 => false
  | n + 1 => dr_any f n || f n
theorem dr_any_t {f : Nat → Bool} {k : Nat} (e : f k = true) : ∀ n, k < n → dr_any f n = true := by
  intro n
  induction n with
  | zero => exact fun h => absurd h (Nat.not_lt_zero k)
  | succ n ih =>
    intro h
    show (dr_any f n || f n) = true
    by_cases z : k = n
    · rw [← z, e, Bool.or_true]
    · rw [ih (by omega), Bool.true_or]
theorem dr_any_f {f : Nat → Bool} : ∀ n, (∀ k, k < n → f k = false) → dr_any f n = false := by
  intro n
  induction n with
  | zero => exact fun _ => rfl
  | succ n ih =>
    intro h
    show (dr_any f n || f n) = false
    rw [ih (fun k hk => h k (by omega)), h n (by omega)]
    rfl
theorem dr_any_c {f g : Nat → Bool} : ∀ n, (∀ k, k < n → f k = g k) → dr_any f n = dr_any g n := by
  intro n
  induction n with
  | zero => exact fun _ => rfl
  | succ n ih =>
    intro h
    show (dr_any f n || f n) = (dr_any g n || g n)
    rw [ih (fun k hk => h k (by omega)), h n (by omega)]
/-! what is asked of numbers -/
def dr_ax (x : Int32) : Bool := decide (¬ x < 0 ∧ ¬ 16 ≤ x)
def dr_cell (x y : Int32) : Bool := dr_ax x && dr_ax y
def dr_lay (l : Int32) : Bool := decide (¬ l < 0 ∧ ¬ 3 ≤ l)
def dr_rul (w : Int32) : Bool := decide (¬ w < 1 ∧ ¬ 8 < w)
def dr_how (h : Int32) : Bool := decide (¬ h < 0 ∧ ¬ 2 < h)
def dr_com (h a b : Int32) : Bool := dr_how h && (dr_lay a && dr_lay b)
def dr_spn (x : Int32) : Bool := decide (¬ x < 0 ∧ ¬ (x - x / 32 * 32) ≤ x / 32 ∧ ¬ 16 < (x - x / 32 * 32))
def dr_box (l r b t i j : Int32) : Bool := decide ((¬ i < l ∧ ¬ r ≤ i) ∧ (¬ j < b ∧ ¬ t ≤ j))
theorem dr_15 (x : Int32) : 15 < x ↔ 16 ≤ x := by
  rw [Int32.lt_iff_toInt_lt, Int32.le_iff_toInt_le, show (15 : Int32).toInt = 15 from by decide, show (16 : Int32).toInt = 16 from by decide]
  omega
theorem dr_2 (x : Int32) : 2 < x ↔ 3 ≤ x := by
  rw [Int32.lt_iff_toInt_lt, Int32.le_iff_toInt_le, show (2 : Int32).toInt = 2 from by decide, show (3 : Int32).toInt = 3 from by decide]
  omega
theorem dr_ax_t {x : Int32} (h0 : ¬ x < 0) (h1 : ¬ 16 ≤ x) : dr_ax x = true := decide_eq_true ⟨h0, h1⟩
theorem dr_ax_l {x : Int32} (h : x < 0) : dr_ax x = false := decide_eq_false (fun z => z.1 h)
theorem dr_ax_h {x : Int32} (h : 16 ≤ x) : dr_ax x = false := decide_eq_false (fun z => z.2 h)
theorem dr_ax_n {i : Nat} (h : i < 16) : dr_ax (nI i) = true :=
  dr_ax_t (nI_pos (by omega)) (nI_ge (b := 16) h (by decide))
theorem dr_ax_o {i : Nat} (h : 16 ≤ i) (hi : i < 2 ^ 31) : dr_ax (nI i) = false :=
  dr_ax_h (nI_le (a := 16) h hi)
theorem dr_ax_of {x : Int32} (h : dr_ax x = true) : ∃ i, i < 16 ∧ x = nI i := by
  have z := of_decide_eq_true h
  obtain ⟨j, hj, rfl⟩ := nI_of z.1
  refine ⟨j, ?_, rfl⟩
  by_cases e : j < 16
  · exact e
  · exact absurd (nI_le (a := 16) (by omega) hj) z.2
theorem dr_lay_t {x : Int32} (h0 : ¬ x < 0) (h1 : ¬ 3 ≤ x) : dr_lay x = true := decide_eq_true ⟨h0, h1⟩
theorem dr_lay_of {x : Int32} (h : dr_lay x = true) : ∃ i, i < 3 ∧ x = nI i := by
  have z := of_decide_eq_true h
  obtain ⟨j, hj, rfl⟩ := nI_of z.1
  refine ⟨j, ?_, rfl⟩
  by_cases e : j < 3
  · exact e
  · exact absurd (nI_le (a := 3) (by omega) hj) z.2
theorem dr_lay_n {i : Nat} (h : i < 3) : dr_lay (nI i) = true :=
  dr_lay_t (nI_pos (by omega)) (nI_ge (b := 3) h (by decide))
theorem dr_how_of {x : Int32} (h : dr_how x = true) : ∃ i, i < 3 ∧ x = nI i := by
  have z := of_decide_eq_true h
  exact dr_lay_of (dr_lay_t z.1 (fun y => z.2 ((dr_2 x).mpr y)))
theorem dr_cell_n {i j : Nat} (hi : i < 16) (hj : j < 16) : dr_cell (nI i) (nI j) = true := by
  unfold dr_cell
  rw [dr_ax_n hi, dr_ax_n hj]
  rfl
/-- the cell (x, y) of a set that is given by 16 * row + column -/
def dr_in (S : Nat → Bool) (x y : Int32) : Bool := dr_cell x y && S (16 * y.toNatClampNeg + x.toNatClampNeg)
theorem dr_in_n {S : Nat → Bool} {i j : Nat} (hi : i < 16) (hj : j < 16) : dr_in S (nI i) (nI j) = S (16 * j + i) := by
  unfold dr_in
  rw [dr_cell_n hi hj, nI_clamp (by omega), nI_clamp (by omega), Bool.true_and]
/-- two sets in one, as how says -/
def dr_cmb (how : Nat) (p q : Bool) : Bool := if how = 0 then p && q else if how = 1 then p || q else p && !q
def dr_S (P : Nat → Int32 → Int32 → Bool) (how a b k : Nat) : Bool := dr_cmb how (P a (nI (k % 16)) (nI (k / 16))) (P b (nI (k % 16)) (nI (k / 16)))
theorem dr_S_1 (P : Nat → Int32 → Int32 → Bool) (l : Nat) : dr_S P 1 l l = fun k => P l (nI (k % 16)) (nI (k / 16)) := by
  funext k
  exact Bool.or_self _
theorem dr_S_0 (P : Nat → Int32 → Int32 → Bool) (l : Nat) : dr_S P 0 l l = fun k => P l (nI (k % 16)) (nI (k / 16)) := by
  funext k
  exact Bool.and_self _
theorem dr_fill (S : Nat → Bool) (a : Nat → Int32) : ∀ n k, k < n → dr_it (fun c (t : Nat → Int32) => upd t c (dr_b (S c))) a n k = dr_b (S k) := by
  intro n
  induction n with
  | zero => exact fun k h => absurd h (Nat.not_lt_zero k)
  | succ n ih =>
    intro k h
    show upd (dr_it (fun c (t : Nat → Int32) => upd t c (dr_b (S c))) a n) n (dr_b (S n)) k = _
    by_cases z : k = n
    · rw [z, pk_us]
    · rw [pk_un z]
      exact ih k (by omega)
end
section
/-! the first place at which q holds -/
def dr_ff (q : Nat → Bool) : Nat → Nat → Nat
  | 0, i => i
  | d + 1, i => if q i = true then i else dr_ff q d (i + 1)
theorem dr_ff_all (q : Nat → Bool) : ∀ d i, i ≤ dr_ff q d i ∧ dr_ff q d i ≤ i + d ∧ (∀ k, i ≤ k → k < dr_ff q d i → q k = false) ∧ (dr_ff q d i < i + d → q (dr_ff q d i) = true) := by
  intro d
  induction d with
  | zero =>
    intro i
    exact ⟨Nat.le_refl i, Nat.le_refl i, fun k h1 h2 => absurd h2 (Nat.not_lt.mpr h1), fun h => absurd h (Nat.lt_irrefl i)⟩
  | succ d ih =>
    intro i
    by_cases z : q i = true
    · have e : dr_ff q (d + 1) i = i := if_pos z
      rw [e]
      exact ⟨Nat.le_refl i, by omega, fun k h1 h2 => absurd h2 (Nat.not_lt.mpr h1), fun _ => z⟩
    · have e : dr_ff q (d + 1) i = dr_ff q d (i + 1) := if_neg z
      rw [e]
      obtain ⟨h1, h2, h3, h4⟩ := ih (i + 1)
      refine ⟨by omega, by omega, fun k a b => ?_, fun h => h4 (by omega)⟩
      by_cases y : k = i
      · rw [y]
        exact Bool.eq_false_iff.mpr z
      · exact h3 k (by omega) b
theorem dr_ff_eq (q : Nat → Bool) (d i r : Nat) (h1 : i ≤ r) (h2 : r ≤ i + d) (h3 : ∀ k, i ≤ k → k < r → q k = false) (h4 : r < i + d → q r = true) : dr_ff q d i = r := by
  obtain ⟨a1, a2, a3, a4⟩ := dr_ff_all q d i
  by_cases x : dr_ff q d i < r
  · have y := a4 (by omega)
    rw [h3 _ a1 x] at y
    exact absurd y (by decide)
  · by_cases x2 : r < dr_ff q d i
    · have y := h4 (by omega)
      rw [a3 r h1 x2] at y
      exact absurd y (by decide)
    · omega
/-- how many steps to the first place, 0 if there is none in 16 -/
def dr_st (q : Nat → Bool) : Int32 := if dr_ff q 16 1 = 17 then 0 else nI (dr_ff q 16 1)
/-- the cell k steps away -/
def dr_ps (S : Nat → Bool) (x y dx dy : Int32) (k : Nat) : Bool := dr_in S (x + nI k * dx) (y + nI k * dy)
def dr_pc (x y dx dy : Int32) (k : Nat) : Bool := dr_cell (x + nI k * dx) (y + nI k * dy)
/-- a line that leaves the plane after m steps, m < 16 -/
def dr_Ln (x y dx dy : Int32) : Prop := ∃ m, m < 16 ∧ ∀ k, k ≤ 16 → dr_pc x y dx dy k = decide (k ≤ m)
theorem dr_axU : ∀ i, i < 16 → ∀ k, k < 17 → dr_ax (nI i + nI k * 1) = decide (k ≤ 15 - i) := by decide +kernel
theorem dr_axD : ∀ i, i < 16 → ∀ k, k < 17 → dr_ax (nI i + nI k * (-1)) = decide (k ≤ i) := by decide +kernel
theorem dr_axS : ∀ i, i < 16 → ∀ k, k < 17 → dr_ax (nI i + nI k * 0) = true := by decide +kernel
theorem dr_LnR {i j : Nat} (hi : i < 16) (hj : j < 16) : dr_Ln (nI i) (nI j) 1 0 :=
  ⟨15 - i, by omega, fun k hk => by
    unfold dr_pc dr_cell
    rw [dr_axU i hi k (by omega), dr_axS j hj k (by omega), Bool.and_true]⟩
theorem dr_LnL {i j : Nat} (hi : i < 16) (hj : j < 16) : dr_Ln (nI i) (nI j) (-1) 0 :=
  ⟨i, by omega, fun k hk => by
    unfold dr_pc dr_cell
    rw [dr_axD i hi k (by omega), dr_axS j hj k (by omega), Bool.and_true]⟩
theorem dr_LnU {i j : Nat} (hi : i < 16) (hj : j < 16) : dr_Ln (nI i) (nI j) 0 1 :=
  ⟨15 - j, by omega, fun k hk => by
    unfold dr_pc dr_cell
    rw [dr_axU j hj k (by omega), dr_axS i hi k (by omega), Bool.true_and]⟩
theorem dr_LnD {i j : Nat} (hi : i < 16) (hj : j < 16) : dr_Ln (nI i) (nI j) 0 (-1) :=
  ⟨j, by omega, fun k hk => by
    unfold dr_pc dr_cell
    rw [dr_axD j hj k (by omega), dr_axS i hi k (by omega), Bool.true_and]⟩
theorem dr_ps_out {S : Nat → Bool} {x y dx dy : Int32} {k : Nat} (h : dr_pc x y dx dy k = false) : dr_ps S x y dx dy k = false := by
  unfold dr_ps dr_in
  unfold dr_pc at h
  rw [h]
  rfl
theorem dr_ps_0 {S : Nat → Bool} {x y dx dy : Int32} : dr_ps S x y dx dy 0 = dr_in S x y := by
  unfold dr_ps
  rw [nI_0, Int32.zero_mul, Int32.zero_mul, Int32.add_zero, Int32.add_zero]
/-- the reference's run stops here -/
def dr_stop (S : Nat → Bool) (x y dx dy : Int32) (want : Bool) (k : Nat) : Bool := !(dr_pc x y dx dy k && (dr_ps S x y dx dy k == want))
def dr_rn (S : Nat → Bool) (x y dx dy : Int32) (want : Bool) : Nat := dr_ff (dr_stop S x y dx dy want) 16 0
def dr_sx (S : Nat → Bool) (x y dx dy : Int32) (w : Bool) : Int32 := dr_st (fun k => dr_ps S x y dx dy k == w)
theorem dr_thin1 {S : Nat → Bool} {x y dx dy : Int32} (L : dr_Ln x y dx dy) (h0 : dr_in S x y = true) :
    dr_sx S x y dx dy false = nI (dr_rn S x y dx dy true) ∧ ¬ dr_sx S x y dx dy false ≤ 0 := by
  obtain ⟨m, hm, hL⟩ := L
  obtain ⟨a1, a2, a3, a4⟩ := dr_ff_all (fun k => dr_ps S x y dx dy k == false) 16 1
  have o16 : dr_ps S x y dx dy 16 = false := dr_ps_out (by rw [hL 16 (by omega)]; exact decide_eq_false (by omega))
  have hr : dr_ff (fun k => dr_ps S x y dx dy k == false) 16 1 ≤ 16 := by
    by_cases z : dr_ff (fun k => dr_ps S x y dx dy k == false) 16 1 ≤ 16
    · exact z
    · have yy := a3 16 (by omega) (by omega)
      try dsimp only at yy
      rw [o16] at yy
      exact absurd yy (by decide)
  have e : dr_sx S x y dx dy false = nI (dr_ff (fun k => dr_ps S x y dx dy k == false) 16 1) := if_neg (by omega)
  have st : ∀ k, dr_stop S x y dx dy true k = (dr_ps S x y dx dy k == false) := by
    intro k
    unfold dr_stop
    cases hp : dr_ps S x y dx dy k with
    | false =>
      cases dr_pc x y dx dy k <;> rfl
    | true =>
      cases hc : dr_pc x y dx dy k with
      | true => rfl
      | false =>
        rw [dr_ps_out hc] at hp
        exact absurd hp (by decide)
  have r : dr_rn S x y dx dy true = dr_ff (fun k => dr_ps S x y dx dy k == false) 16 1 := by
    refine dr_ff_eq _ 16 0 _ (Nat.zero_le _) (by omega) (fun k _ hk => ?_) (fun h => ?_)
    · rw [st]
      by_cases z : k = 0
      · rw [z, dr_ps_0, h0]
        rfl
      · exact a3 k (by omega) hk
    · rw [st]
      exact a4 (by omega)
  rw [e, r]
  exact ⟨rfl, nI_nle (by omega) (by omega)⟩
theorem dr_gap1 {S : Nat → Bool} {x y dx dy : Int32} (L : dr_Ln x y dx dy) (h0 : dr_in S x y = false) :
    (dr_ps S x y dx dy (dr_rn S x y dx dy false) = true ∧ dr_sx S x y dx dy true = nI (dr_rn S x y dx dy false) ∧ ¬ dr_sx S x y dx dy true ≤ 0) ∨
    (dr_ps S x y dx dy (dr_rn S x y dx dy false) = false ∧ dr_sx S x y dx dy true ≤ 0) := by
  obtain ⟨m, hm, hL⟩ := L
  obtain ⟨a1, a2, a3, a4⟩ := dr_ff_all (fun k => dr_ps S x y dx dy k == true) 16 1
  obtain ⟨b1, b2, b3, b4⟩ := dr_ff_all (dr_stop S x y dx dy false) 16 0
  have c0 : dr_pc x y dx dy 0 = true := by rw [hL 0 (by omega)]; exact decide_eq_true (by omega)
  have p0 : dr_ps S x y dx dy 0 = false := by rw [dr_ps_0]; exact h0
  by_cases hr : dr_ff (fun k => dr_ps S x y dx dy k == true) 16 1 = 17
  · refine Or.inr ⟨?_, ?_⟩
    · by_cases z : dr_rn S x y dx dy false = 0
      · rw [z]
        exact p0
      · have q := a3 (dr_rn S x y dx dy false) (by omega) (by unfold dr_rn; omega)
        try dsimp only at q
        cases hp : dr_ps S x y dx dy (dr_rn S x y dx dy false) with
        | false => rfl
        | true =>
          rw [hp] at q
          exact absurd q (by decide)
    · have e : dr_sx S x y dx dy true = 0 := if_pos hr
      rw [e]
      decide
  · have yy := a4 (by omega)
    try dsimp only at yy
    have yt : dr_ps S x y dx dy (dr_ff (fun k => dr_ps S x y dx dy k == true) 16 1) = true := by
      cases hp : dr_ps S x y dx dy (dr_ff (fun k => dr_ps S x y dx dy k == true) 16 1) with
      | true => rfl
      | false =>
        rw [hp] at yy
        exact absurd yy (by decide)
    have hm2 : dr_ff (fun k => dr_ps S x y dx dy k == true) 16 1 ≤ m := by
      cases hc : dr_pc x y dx dy (dr_ff (fun k => dr_ps S x y dx dy k == true) 16 1) with
      | false =>
        rw [dr_ps_out hc] at yt
        exact absurd yt (by decide)
      | true =>
        rw [hL _ (by omega)] at hc
        exact of_decide_eq_true hc
    have r : dr_rn S x y dx dy false = dr_ff (fun k => dr_ps S x y dx dy k == true) 16 1 := by
      refine dr_ff_eq _ 16 0 _ (Nat.zero_le _) (by omega) (fun k _ hk => ?_) (fun h => ?_)
      · unfold dr_stop
        rw [hL k (by omega), decide_eq_true (show k ≤ m by omega)]
        by_cases z : k = 0
        · rw [z, p0]
          rfl
        · have q := a3 k (by omega) hk
          try dsimp only at q
          cases hp : dr_ps S x y dx dy k with
          | false => rfl
          | true =>
            rw [hp] at q
            exact absurd q (by decide)
      · unfold dr_stop
        rw [yt]
        cases dr_pc x y dx dy (dr_ff (fun k => dr_ps S x y dx dy k == true) 16 1) <;> rfl
    have e : dr_sx S x y dx dy true = nI (dr_ff (fun k => dr_ps S x y dx dy k == true) 16 1) := if_neg hr
    refine Or.inl ⟨by rw [r]; exact yt, by rw [e, r], ?_⟩
    rw [e]
    exact nI_nle (by omega) (by omega)
/-- the component's short run: closed at both ends, and below the limit -/
def dr_sh (S : Nat → Bool) (x y dx dy lim : Int32) (o : Bool) : Bool :=
  decide (¬ dr_sx S x y (-dx) (-dy) o ≤ 0 ∧ ¬ dr_sx S x y dx dy o ≤ 0 ∧ ¬ lim ≤ dr_sx S x y (-dx) (-dy) o + dr_sx S x y dx dy o - 1)
def dr_cnt (S : Nat → Bool) (v : Bool) (lim : Int32) (c : Nat) : Bool :=
  (S c == v) && (dr_sh S (nI (c % 16)) (nI (c / 16)) 1 0 lim (!(S c)) || dr_sh S (nI (c % 16)) (nI (c / 16)) 0 1 lim (!(S c)))
def dr_yth (S : Nat → Bool) (x y dx dy lim : Int32) : Bool :=
  decide (¬ lim ≤ nI (dr_rn S x y (-dx) (-dy) true) + nI (dr_rn S x y dx dy true) - 1)
def dr_ygp (S : Nat → Bool) (x y dx dy lim : Int32) : Bool :=
  dr_ps S x y dx dy (dr_rn S x y dx dy false) && (dr_ps S x y (-dx) (-dy) (dr_rn S x y (-dx) (-dy) false) && decide (¬ lim ≤ nI (dr_rn S x y dx dy false) + nI (dr_rn S x y (-dx) (-dy) false) - 1))
theorem dr_sh_thin {S : Nat → Bool} {x y dx dy lim : Int32} (L : dr_Ln x y dx dy) (L' : dr_Ln x y (-dx) (-dy)) (h0 : dr_in S x y = true) :
    dr_sh S x y dx dy lim false = dr_yth S x y dx dy lim := by
  obtain ⟨e1, n1⟩ := dr_thin1 L h0
  obtain ⟨e2, n2⟩ := dr_thin1 L' h0
  unfold dr_sh dr_yth
  rw [← e1, ← e2]
  refine decide_eq_decide.mpr ⟨fun h => h.2.2, fun h => ⟨n2, n1, h⟩⟩
theorem dr_sh_gap {S : Nat → Bool} {x y dx dy lim : Int32} (L : dr_Ln x y dx dy) (L' : dr_Ln x y (-dx) (-dy)) (h0 : dr_in S x y = false) :
    dr_sh S x y dx dy lim true = dr_ygp S x y dx dy lim := by
  unfold dr_ygp
  rcases dr_gap1 L h0 with ⟨p1, e1, n1⟩ | ⟨p1, n1⟩
  · rcases dr_gap1 L' h0 with ⟨p2, e2, n2⟩ | ⟨p2, n2⟩
    · rw [p1, p2, ← e1, ← e2, Bool.true_and, Bool.true_and]
      unfold dr_sh
      rw [Int32.add_comm (dr_sx S x y (-dx) (-dy) true)]
      exact decide_eq_decide.mpr ⟨fun h => h.2.2, fun h => ⟨n2, n1, h⟩⟩
    · rw [p1, p2]
      exact decide_eq_false (fun z => z.1 n2)
  · rw [p1]
    exact decide_eq_false (fun z => z.2.1 n1)
end
section
/-! distances, and the least of them -/
def dr_ad (a b : Nat) : Nat := if b < a then a - b else b - a
def dr_ds (c d : Nat) : Nat := if dr_ad (c / 16) (d / 16) < dr_ad (c % 16) (d % 16) then dr_ad (c % 16) (d % 16) else dr_ad (c / 16) (d / 16)
def dr_g1 (B : Nat → Bool) (c d r : Nat) : Nat := if dr_ds c d < r ∧ B d = true then dr_ds c d else r
def dr_g2 (A B : Nat → Bool) (c r : Nat) : Nat := if A c = true then r else dr_it (dr_g1 B c) r 256
theorem dr_g1_all (B : Nat → Bool) (c r : Nat) : ∀ n, n ≤ 256 → dr_it (dr_g1 B c) r n ≤ r ∧ (∀ d, d < n → B d = true → dr_it (dr_g1 B c) r n ≤ dr_ds c d) ∧ (dr_it (dr_g1 B c) r n = r ∨ ∃ d, d < 256 ∧ B d = true ∧ dr_ds c d = dr_it (dr_g1 B c) r n) := by
  refine dr_it_inv (dr_g1 B c) r 256 (fun n s => s ≤ r ∧ (∀ d, d < n → B d = true → s ≤ dr_ds c d) ∧ (s = r ∨ ∃ d, d < 256 ∧ B d = true ∧ dr_ds c d = s)) ⟨Nat.le_refl r, fun d h => absurd h (Nat.not_lt_zero d), Or.inl rfl⟩ ?_
  intro k s hk h
  obtain ⟨h1, h2, h3⟩ := h
  by_cases z : dr_ds c k < s ∧ B k = true
  · have e : dr_g1 B c k s = dr_ds c k := if_pos z
    rw [e]
    refine ⟨by omega, fun d hd hb => ?_, Or.inr ⟨k, hk, z.2, rfl⟩⟩
    by_cases y : d = k
    · rw [y]
      exact Nat.le_refl _
    · have := h2 d (by omega) hb
      omega
  · have e : dr_g1 B c k s = s := if_neg z
    rw [e]
    refine ⟨h1, fun d hd hb => ?_, h3⟩
    by_cases y : d = k
    · rw [y] at hb ⊢
      by_cases x : dr_ds c k < s
      · exact absurd ⟨x, hb⟩ z
      · omega
    · exact h2 d (by omega) hb
def dr_R (A B : Nat → Bool) : Nat := dr_it (dr_g2 A B) 9 256
theorem dr_R_all (A B : Nat → Bool) : dr_R A B ≤ 9 ∧ (∀ c d, c < 256 → d < 256 → A c = false → B d = true → dr_R A B ≤ dr_ds c d) ∧ (dr_R A B = 9 ∨ ∃ c d, c < 256 ∧ d < 256 ∧ A c = false ∧ B d = true ∧ dr_ds c d = dr_R A B) := by
  refine dr_it_inv (dr_g2 A B) 9 256 (fun n s => s ≤ 9 ∧ (∀ c d, c < n → d < 256 → A c = false → B d = true → s ≤ dr_ds c d) ∧ (s = 9 ∨ ∃ c d, c < 256 ∧ d < 256 ∧ A c = false ∧ B d = true ∧ dr_ds c d = s)) ⟨Nat.le_refl 9, fun c d h => absurd h (Nat.not_lt_zero c), Or.inl rfl⟩ ?_ 256 (Nat.le_refl 256)
  intro k s hk h
  obtain ⟨h1, h2, h3⟩ := h
  cases z : A k with
  | true =>
    have e : dr_g2 A B k s = s := if_pos z
    rw [e]
    refine ⟨h1, fun c d hc hd ha hb => ?_, h3⟩
    by_cases y : c = k
    · rw [y, z] at ha
      exact absurd ha (by decide)
    · exact h2 c d (by omega) hd ha hb
  | false =>
    have e : dr_g2 A B k s = dr_it (dr_g1 B k) s 256 := if_neg (by rw [z]; decide)
    rw [e]
    obtain ⟨a1, a2, a3⟩ := dr_g1_all B k s 256 (Nat.le_refl 256)
    generalize dr_it (dr_g1 B k) s 256 = s' at a1 a2 a3
    refine ⟨by omega, fun c d hc hd ha hb => ?_, ?_⟩
    · by_cases y : c = k
      · rw [y]
        exact a2 d hd hb
      · have := h2 c d (by omega) hd ha hb
        omega
    · rcases a3 with a3 | ⟨d, hd, hb, a3⟩
      · rw [a3]
        exact h3
      · exact Or.inr ⟨k, d, hk, hd, z, hb, a3⟩
/-- some cell of B is within m of a cell that A lacks -/
def dr_bad (A B : Nat → Bool) (m : Nat) : Prop := ∃ c d, c < 256 ∧ d < 256 ∧ A c = false ∧ B d = true ∧ dr_ds c d ≤ m
theorem dr_bad_lt {A B : Nat → Bool} {m : Nat} (h : m < dr_R A B) : ¬ dr_bad A B m := by
  intro ⟨c, d, hc, hd, ha, hb, hm⟩
  have := (dr_R_all A B).2.1 c d hc hd ha hb
  omega
theorem dr_bad_R {A B : Nat → Bool} (h : dr_R A B ≤ 8) : dr_bad A B (dr_R A B) := by
  rcases (dr_R_all A B).2.2 with e | ⟨c, d, hc, hd, ha, hb, e⟩
  · omega
  · exact ⟨c, d, hc, hd, ha, hb, by omega⟩
/-! the square of side 2 m + 1 about a cell -/
theorem dr_sq {i m s : Nat} (h : m ≤ i + s) : nI i - nI m + nI s = nI (i + s - m) := by
  rw [← pk_sub h, ← nI_add]
  grind
theorem dr_sqT {i m s : Nat} (hi : i < 1000) (hm : m < 1000) (hs : s < 1000) : (nI i - nI m + nI s).toInt = (i : Int) - m + s := by
  rw [Int32.toInt_add, pk_sub_toInt (by omega) (by omega), nI_toInt (by omega)]
  exact Int.bmod_eq_of_le (by omega) (by omega)
theorem dr_sqN {i m s : Nat} (hi : i < 1000) (hm : m < 1000) (hs : s < 1000) (h : i + s < m) : nI i - nI m + nI s < 0 := by
  rw [Int32.lt_iff_toInt_lt, dr_sqT hi hm hs, show (0 : Int32).toInt = 0 from by decide]
  omega
theorem dr_sqC {i m s : Nat} (hi : i < 16) (hm : m < 9) (hs : s ≤ 2 * m) : ¬ nI i + nI m < nI i - nI m + nI s := by
  rw [Int32.lt_iff_toInt_lt, dr_sqT (by omega) (by omega) (by omega), nI_add, nI_toInt (by omega)]
  omega
theorem dr_sqE {i m s : Nat} (hi : i < 16) (hm : m < 9) (hs : s = 2 * m + 1) : nI i + nI m < nI i - nI m + nI s := by
  rw [Int32.lt_iff_toInt_lt, dr_sqT (by omega) (by omega) (by omega), nI_add, nI_toInt (by omega)]
  omega
/-- the reference's square meets a cell that the set lacks -/
def dr_hole (S : Nat → Bool) (i j m t s : Nat) : Bool := dr_cell (nI i - nI m + nI s) (nI j - nI m + nI t) && !(dr_in S (nI i - nI m + nI s) (nI j - nI m + nI t))
theorem dr_ad_le {a b m : Nat} : dr_ad a b ≤ m ↔ a ≤ b + m ∧ b ≤ a + m := by
  unfold dr_ad
  by_cases h : b < a
  · rw [if_pos h]; omega
  · rw [if_neg h]; omega
theorem dr_ds_le {c d m : Nat} : dr_ds c d ≤ m ↔ dr_ad (c % 16) (d % 16) ≤ m ∧ dr_ad (c / 16) (d / 16) ≤ m := by
  unfold dr_ds
  by_cases h : dr_ad (c / 16) (d / 16) < dr_ad (c % 16) (d % 16)
  · rw [if_pos h]; omega
  · rw [if_neg h]; omega
theorem dr_hole_of {S : Nat → Bool} {d m t s : Nat} (hd : d < 256) (hm : m < 9) (ht : t ≤ 2 * m) (hs : s ≤ 2 * m) (h : dr_hole S (d % 16) (d / 16) m t s = true) :
    ∃ c, c < 256 ∧ S c = false ∧ dr_ds c d ≤ m := by
  unfold dr_hole at h
  rw [Bool.and_eq_true] at h
  obtain ⟨h1, h2⟩ := h
  unfold dr_cell at h1
  rw [Bool.and_eq_true] at h1
  by_cases z : m ≤ d % 16 + s
  · by_cases y : m ≤ d / 16 + t
    · rw [dr_sq z, dr_sq y] at h1 h2
      have x1 : d % 16 + s - m < 16 := by
        by_cases w : d % 16 + s - m < 16
        · exact w
        · rw [dr_ax_o (by omega) (by omega)] at h1
          exact absurd h1.1 (by decide)
      have x2 : d / 16 + t - m < 16 := by
        by_cases w : d / 16 + t - m < 16
        · exact w
        · rw [dr_ax_o (i := d / 16 + t - m) (by omega) (by omega)] at h1
          exact absurd h1.2 (by decide)
      rw [dr_in_n x1 x2] at h2
      refine ⟨16 * (d / 16 + t - m) + (d % 16 + s - m), by omega, ?_, ?_⟩
      · cases e : S (16 * (d / 16 + t - m) + (d % 16 + s - m)) with
        | false => rfl
        | true =>
          rw [e] at h2
          exact absurd h2 (by decide)
      · rw [dr_ds_le, dr_ad_le, dr_ad_le]
        omega
    · rw [dr_ax_l (dr_sqN (by omega) (by omega) (by omega) (Nat.lt_of_not_le y))] at h1
      exact absurd h1.2 (by decide)
  · rw [dr_ax_l (dr_sqN (i := d % 16) (by omega) (by omega) (by omega) (Nat.lt_of_not_le z))] at h1
    exact absurd h1.1 (by decide)
theorem dr_hole_to {S : Nat → Bool} {c d m : Nat} (hc : c < 256) (hd : d < 256) (hs : S c = false) (h : dr_ds c d ≤ m) :
    ∃ t s, t < 2 * m + 1 ∧ s < 2 * m + 1 ∧ dr_hole S (d % 16) (d / 16) m t s = true := by
  rw [dr_ds_le, dr_ad_le, dr_ad_le] at h
  refine ⟨c / 16 + m - d / 16, c % 16 + m - d % 16, by omega, by omega, ?_⟩
  unfold dr_hole
  rw [dr_sq (by omega), dr_sq (by omega), show d % 16 + (c % 16 + m - d % 16) - m = c % 16 by omega, show d / 16 + (c / 16 + m - d / 16) - m = c / 16 by omega,
    dr_cell_n (by omega) (by omega), dr_in_n (by omega) (by omega), show 16 * (c / 16) + c % 16 = c by omega, hs]
  rfl
end
section
/-! the relation's heart: the same counts; each kept rectangle by its numbers on one side, by its four sides on the other -/
theorem dr_up (e : Nat) (A : Nat → Nat → Prop) (hx : ∀ n, A (n + 1) e) (hs : ∀ n i, i < e → A n (i + 1) → A (n + 1) i) : ∃ n, A n 0 := by
  have a : ∀ d i, i + d = e → A (d + 1) i := by
    intro d
    induction d with
    | zero =>
      intro i hi
      have z : i = e := by omega
      rw [z]
      exact hx 0
    | succ d ih => exact fun i hi => hs (d + 1) i (by omega) (ih (i + 1) (by omega))
  exact ⟨e + 1, a e 0 (by omega)⟩
def dr_Q (cs rs le ri bo tp : Nat → Int32) (k : Nat) : Prop :=
  le k = cs k / 32 ∧ ri k = cs k - cs k / 32 * 32 ∧ bo k = rs k / 32 ∧ tp k = rs k - rs k / 32 * 32
def dr_Rel (cn cs rs le ri bo tp : Nat → Int32) : Prop :=
  ∃ c : Nat → Nat, ∀ l, l < 3 → c l ≤ 10 ∧ cn l = nI (c l) ∧ ∀ n, n < c l → dr_Q cs rs le ri bo tp (10 * l + n)
/-- what is covered, as the component keeps it -/
def dr_cx (cs rs : Nat → Int32) (l n : Nat) (i j : Int32) : Bool :=
  dr_any (fun k => dr_box (cs (10 * l + k) / 32) (cs (10 * l + k) - cs (10 * l + k) / 32 * 32) (rs (10 * l + k) / 32) (rs (10 * l + k) - rs (10 * l + k) / 32 * 32) i j) n
/-- what is covered, as the reference keeps it -/
def dr_cy (le ri bo tp : Nat → Int32) (l n : Nat) (i j : Int32) : Bool :=
  dr_any (fun k => dr_box (le (10 * l + k)) (ri (10 * l + k)) (bo (10 * l + k)) (tp (10 * l + k)) i j) n
def dr_HX (cn cs rs : Nat → Int32) (P : Nat → Int32 → Int32 → Bool) : Prop :=
  ∀ l, l < 3 → ∃ c, c ≤ 10 ∧ cn l = nI c ∧ ∀ i j, P l i j = dr_cx cs rs l c i j
def dr_HY (cn le ri bo tp : Nat → Int32) (P : Nat → Int32 → Int32 → Bool) : Prop :=
  ∀ l, l < 3 → ∃ c, c ≤ 10 ∧ cn l = nI c ∧ ∀ i j, P l i j = dr_cy le ri bo tp l c i j
theorem dr_Rel_P {cn cs rs le ri bo tp : Nat → Int32} (h : dr_Rel cn cs rs le ri bo tp) : ∃ P, dr_HX cn cs rs P ∧ dr_HY cn le ri bo tp P := by
  obtain ⟨c, hc⟩ := h
  refine ⟨fun l i j => dr_cx cs rs l (c l) i j, fun l hl => ⟨c l, (hc l hl).1, (hc l hl).2.1, fun i j => rfl⟩, fun l hl => ⟨c l, (hc l hl).1, (hc l hl).2.1, fun i j => ?_⟩⟩
  refine dr_any_c (c l) (fun k hk => ?_)
  obtain ⟨e1, e2, e3, e4⟩ := (hc l hl).2.2 k hk
  try dsimp only
  rw [e1, e2, e3, e4]
theorem dr_Rel_cn {cn cs rs le ri bo tp : Nat → Int32} (h : dr_Rel cn cs rs le ri bo tp) {l : Nat} (hl : l < 3) : ∃ c, c ≤ 10 ∧ cn l = nI c := by
  obtain ⟨c, hc⟩ := h
  exact ⟨c l, (hc l hl).1, (hc l hl).2.1⟩
theorem dr_Rel_0 : dr_Rel (fun _ => 0) (fun _ => 0) (fun _ => 0) (fun _ => 0) (fun _ => 0) (fun _ => 0) (fun _ => 0) :=
  ⟨fun _ => 0, fun l _ => ⟨Nat.zero_le 10, rfl, fun n h => absurd h (Nat.not_lt_zero n)⟩⟩
theorem dr_Rel_add {cn cs rs le ri bo tp : Nat → Int32} (h : dr_Rel cn cs rs le ri bo tp) {l m : Nat} (hl : l < 3) (hm : cn l = nI m) (h10 : m < 10) (x y : Int32) :
    dr_Rel (upd cn l (nI (m + 1))) (upd cs (10 * l + m) x) (upd rs (10 * l + m) y)
      (upd le (10 * l + m) (x / 32)) (upd ri (10 * l + m) (x - x / 32 * 32)) (upd bo (10 * l + m) (y / 32)) (upd tp (10 * l + m) (y - y / 32 * 32)) := by
  obtain ⟨c, hc⟩ := h
  have hcl : c l = m := by
    have a := (hc l hl).2.1
    rw [hm] at a
    have b := (hc l hl).1
    exact ((nI_eq (by omega) (by omega)).mp a).symm
  refine ⟨fun z => if z = l then m + 1 else c z, fun z hz => ?_⟩
  by_cases e : z = l
  · try dsimp only
    rw [if_pos e, e, pk_us]
    refine ⟨by omega, rfl, fun n hn => ?_⟩
    by_cases w : n = m
    · unfold dr_Q
      rw [w, pk_us, pk_us, pk_us, pk_us, pk_us, pk_us]
      exact ⟨rfl, rfl, rfl, rfl⟩
    · have hne : 10 * l + n ≠ 10 * l + m := by omega
      unfold dr_Q
      rw [pk_un hne, pk_un hne, pk_un hne, pk_un hne, pk_un hne, pk_un hne]
      exact (hc l hl).2.2 n (by omega)
  · try dsimp only
    rw [if_neg e, pk_un e]
    refine ⟨(hc z hz).1, (hc z hz).2.1, fun n hn => ?_⟩
    have h10z := (hc z hz).1
    have hne : 10 * z + n ≠ 10 * l + m := by omega
    unfold dr_Q
    rw [pk_un hne, pk_un hne, pk_un hne, pk_un hne, pk_un hne, pk_un hne]
    exact (hc z hz).2.2 n hn
/-- n cells moved down by one, from b on -/
def dr_shf (a : Nat → Int32) (b n : Nat) : Nat → Int32 := fun k => if b ≤ k ∧ k < b + n then a (k + 1) else a k
theorem dr_shf_0 (a : Nat → Int32) (b : Nat) : dr_shf a b 0 = a := by
  funext k
  exact if_neg (by omega)
theorem dr_shf_s (a : Nat → Int32) (b n : Nat) : upd (dr_shf a b n) (b + n) (dr_shf a b n (b + n + 1)) = dr_shf a b (n + 1) := by
  funext k
  by_cases e : k = b + n
  · rw [e, pk_us]
    have e1 : dr_shf a b n (b + n + 1) = a (b + n + 1) := if_neg (by omega)
    have e2 : dr_shf a b (n + 1) (b + n) = a (b + n + 1) := if_pos (by omega)
    rw [e1, e2]
  · rw [pk_un e]
    unfold dr_shf
    by_cases z : b ≤ k ∧ k < b + n
    · rw [if_pos z, if_pos (by omega)]
    · rw [if_neg z, if_neg (by omega)]
theorem dr_shf_in (a : Nat → Int32) {b n k : Nat} (h : k < n) : dr_shf a b n (b + k) = a (b + (k + 1)) := if_pos (by omega)
theorem dr_shf_out (a : Nat → Int32) {b n k : Nat} (h : k < b ∨ b + n ≤ k) : dr_shf a b n k = a k := if_neg (by omega)
theorem dr_Rel_drop {cn cs rs le ri bo tp : Nat → Int32} (h : dr_Rel cn cs rs le ri bo tp) {l m : Nat} (hl : l < 3) (hm : cn l = nI (m + 1)) (h10 : m < 10) :
    dr_Rel (upd cn l (nI m)) (dr_shf cs (10 * l) m) (dr_shf rs (10 * l) m) (dr_shf le (10 * l) 9) (dr_shf ri (10 * l) 9) (dr_shf bo (10 * l) 9) (dr_shf tp (10 * l) 9) := by
  obtain ⟨c, hc⟩ := h
  have hcl : c l = m + 1 := by
    have a := (hc l hl).2.1
    rw [hm] at a
    have b := (hc l hl).1
    exact ((nI_eq (by omega) (by omega)).mp a).symm
  refine ⟨fun z => if z = l then m else c z, fun z hz => ?_⟩
  by_cases e : z = l
  · try dsimp only
    rw [if_pos e, e, pk_us]
    refine ⟨by omega, rfl, fun n hn => ?_⟩
    have h9 : n < 9 := by omega
    unfold dr_Q
    rw [dr_shf_in cs hn, dr_shf_in rs hn, dr_shf_in le h9, dr_shf_in ri h9, dr_shf_in bo h9, dr_shf_in tp h9]
    exact (hc l hl).2.2 (n + 1) (by omega)
  · try dsimp only
    rw [if_neg e, pk_un e]
    refine ⟨(hc z hz).1, (hc z hz).2.1, fun n hn => ?_⟩
    have h10z := (hc z hz).1
    have o1 : 10 * z + n < 10 * l ∨ 10 * l + m ≤ 10 * z + n := by omega
    have o2 : 10 * z + n < 10 * l ∨ 10 * l + 9 ≤ 10 * z + n := by omega
    unfold dr_Q
    rw [dr_shf_out cs o1, dr_shf_out rs o1, dr_shf_out le o2, dr_shf_out ri o2, dr_shf_out bo o2, dr_shf_out tp o2]
    exact (hc z hz).2.2 n hn
end
section
/-! the component's small questions -/
theorem dr_pf {post : Int32 → Prop} {c : Bool} (h : post (dr_b c)) (e : c = false) : post 0 := by
  subst e
  exact h
theorem dr_pt {post : Int32 → Prop} {c : Bool} (h : post (dr_b c)) (e : c = true) : post 1 := by
  subst e
  exact h
theorem dr_lay_l {x : Int32} (h : x < 0) : dr_lay x = false := decide_eq_false (fun z => z.1 h)
theorem dr_lay_h {x : Int32} (h : 3 ≤ x) : dr_lay x = false := decide_eq_false (fun z => z.2 h)
theorem dr_cell_t {x y : Int32} (a : dr_ax x = true) (b : dr_ax y = true) : dr_cell x y = true := by
  unfold dr_cell
  rw [a, b]
  rfl
theorem dr_cell_x {x y : Int32} (a : dr_ax x = false) : dr_cell x y = false := by
  unfold dr_cell
  rw [a]
  rfl
theorem dr_cell_y {x y : Int32} (b : dr_ax y = false) : dr_cell x y = false := by
  unfold dr_cell
  rw [b, Bool.and_false]
theorem dr_cell_of {x y : Int32} (h : dr_cell x y = true) : ∃ i j, i < 16 ∧ j < 16 ∧ x = nI i ∧ y = nI j := by
  unfold dr_cell at h
  rw [Bool.and_eq_true] at h
  obtain ⟨i, hi, ei⟩ := dr_ax_of h.1
  obtain ⟨j, hj, ej⟩ := dr_ax_of h.2
  exact ⟨i, j, hi, hj, ei, ej⟩
theorem dr_go {i : Nat} (h : i < 16) : ¬ (16 : Int32) ≤ nI i := nI_ge (b := 16) h (by decide)
theorem dr_end : (16 : Int32) ≤ nI 16 := by decide
theorem dr_go17 {i : Nat} (h : i < 17) : ¬ (16 : Int32) < nI i := nI_nlt (a := 16) (by omega) (by decide)
theorem dr_end17 : (16 : Int32) < nI 17 := by decide
theorem dr_go256 {i : Nat} (h : i < 256) : ¬ (256 : Int32) ≤ nI i := nI_ge (b := 256) h (by decide)
theorem dr_end256 : (256 : Int32) ≤ nI 256 := by decide
theorem dr_m10 (l : Nat) : nI l * 10 = nI (10 * l) := by
  rw [show (10 : Int32) = nI 10 from rfl, pk_mul, Nat.mul_comm]
theorem dr_10m (l : Nat) : 10 * nI l = nI (10 * l) := by
  rw [show (10 : Int32) = nI 10 from rfl, pk_mul]
theorem dr_ix (j i : Nat) : nI j * 16 + nI i = nI (16 * j + i) := by
  rw [show (16 : Int32) = nI 16 from rfl, pk_mul, nI_add, Nat.mul_comm]
theorem dr_iy (j i : Nat) : 16 * nI j + nI i = nI (16 * j + i) := by
  rw [show (16 : Int32) = nI 16 from rfl, pk_mul, nI_add]
theorem dr_z (s : Int32) : s + dr_b false = s := Int32.add_zero s
def dr_sp (s p : Int32) : Bool := decide (¬ p < s / 32 ∧ ¬ (s - s / 32 * 32) ≤ p)
theorem dr_box_sp (s t i j : Int32) : dr_box (s / 32) (s - s / 32 * 32) (t / 32) (t - t / 32 * 32) i j = (dr_sp s i && dr_sp t j) := by
  simp only [dr_box, dr_sp, Bool.decide_and]
theorem dx_isLayer {post : Int32 → Prop} {l : Int32} (h : post (dr_b (dr_lay l))) : wpX_isLayer post l :=
  br_c (fun a => dr_pf h (dr_lay_l a)) (fun a => br_c (fun b => dr_pf h (dr_lay_h b)) (fun b => dr_pt h (dr_lay_t a b)))
theorem dx_isCell {post : Int32 → Prop} {x y : Int32} (h : post (dr_b (dr_cell x y))) : wpX_isCell post x y :=
  br_c (fun a => dr_pf h (dr_cell_x (dr_ax_l a))) (fun a => br_c (fun b => dr_pf h (dr_cell_x (dr_ax_h b))) (fun b =>
    br_c (fun c => dr_pf h (dr_cell_y (dr_ax_l c))) (fun c => br_c (fun d => dr_pf h (dr_cell_y (dr_ax_h d))) (fun d => dr_pt h (dr_cell_t (dr_ax_t a b) (dr_ax_t c d))))))
theorem dx_isRule {post : Int32 → Prop} {w : Int32} (h : post (dr_b (dr_rul w))) : wpX_isRule post w :=
  br_c (fun a => dr_pf h (decide_eq_false (fun z => z.1 a))) (fun a => br_c (fun b => dr_pf h (decide_eq_false (fun z => z.2 b))) (fun b => dr_pt h (decide_eq_true ⟨a, b⟩)))
theorem dx_isSpan {post : Int32 → Prop} {x : Int32} (h : post (dr_b (dr_spn x))) : wpX_isSpan post x :=
  br_c (fun a => ⟨by decide, nm_e ⟨by decide, nm_e (br_c (fun b => dr_pf h (decide_eq_false (fun z => z.2.1 b))) (fun b =>
      br_c (fun c => dr_pf h (decide_eq_false (fun z => z.2.2 c))) (fun c => dr_pt h (decide_eq_true ⟨Int32.not_lt.mpr a, b, c⟩))))⟩⟩)
    (fun a => dr_pf h (decide_eq_false (fun z => a (Int32.not_lt.mp z.1))))
theorem dx_inSpan {post : Int32 → Prop} {s p : Int32} (h : post (dr_b (dr_sp s p))) : wpX_inSpan post s p :=
  And.intro (by decide) (br_c (fun a => dr_pf h (decide_eq_false (fun z => z.1 a))) (fun a => ⟨by decide, br_c (fun b => dr_pf h (decide_eq_false (fun z => z.2 b))) (fun b => dr_pt h (decide_eq_true ⟨a, b⟩))⟩))
theorem dr_com_h {h a b : Int32} (z : dr_how h = false) : dr_com h a b = false := by
  unfold dr_com
  rw [z]
  rfl
theorem dr_com_a {h a b : Int32} (z : dr_lay a = false) : dr_com h a b = false := by
  unfold dr_com
  rw [z, Bool.false_and, Bool.and_false]
theorem dr_com_b {h a b : Int32} (z : dr_lay b = false) : dr_com h a b = false := by
  unfold dr_com
  rw [z, Bool.and_false, Bool.and_false]
theorem dr_com_t {h a b : Int32} (x : dr_how h = true) (y : dr_lay a = true) (z : dr_lay b = true) : dr_com h a b = true := by
  unfold dr_com
  rw [x, y, z]
  rfl
theorem dr_com_of {h a b : Int32} (x : dr_com h a b = true) : ∃ h' a' b', h' < 3 ∧ a' < 3 ∧ b' < 3 ∧ h = nI h' ∧ a = nI a' ∧ b = nI b' := by
  unfold dr_com at x
  rw [Bool.and_eq_true, Bool.and_eq_true] at x
  obtain ⟨h', h1, e1⟩ := dr_how_of x.1
  obtain ⟨a', h2, e2⟩ := dr_lay_of x.2.1
  obtain ⟨b', h3, e3⟩ := dr_lay_of x.2.2
  exact ⟨h', a', b', h1, h2, h3, e1, e2, e3⟩
theorem dx_isCom {post : Int32 → Prop} {w a b : Int32} (h : post (dr_b (dr_com w a b))) : wpX_isCombination post w a b :=
  br_c (fun x => dr_pf h (dr_com_h (decide_eq_false (fun z => z.1 x)))) (fun x => br_c (fun y => dr_pf h (dr_com_h (decide_eq_false (fun z => z.2 y)))) (fun y =>
    dx_isLayer (dr_if (fun p => dx_isLayer (dr_if (fun q => dr_pt h (dr_com_t (decide_eq_true ⟨x, y⟩) p q)) (fun q => dr_pf h (dr_com_b q)))) (fun p => dr_pf h (dr_com_a p)))))
theorem dx_cov26 {post : Int32 → Prop} {cn cs rs sx : Nat → Int32} {l c : Nat} {i j : Int32} (hl : l < 3) (hc : c ≤ 10) (hn : cn l = nI c)
    (h : post (dr_b (dr_cx cs rs l c i j))) : ∃ n, wX_covers_26 post (nI l) i j (nI (10 * l)) cn cs rs sx n 0 := by
  have hv : vp_in (nI l) 3 := vp_in_nI hl (by decide)
  have hcl : cn (nI l).toNatClampNeg = nI c := by rw [nI_clamp (by omega), hn]
  have hin : ∀ k, k < c → vp_in (nI (10 * l) + nI k) 30 := fun k hk => by
    rw [nI_add]
    exact vp_in_nI (by omega) (by decide)
  have hcl2 : ∀ k, k < c → (nI (10 * l) + nI k).toNatClampNeg = 10 * l + k := fun k hk => by
    rw [nI_add]
    exact nI_clamp (by omega)
  have hlt : ∀ k, k < c → ¬ cn (nI l).toNatClampNeg ≤ nI k := fun k hk => by
    rw [hcl]
    exact nI_ge hk (by omega)
  refine dr_scan (fun k => dr_box (cs (10 * l + k) / 32) (cs (10 * l + k) - cs (10 * l + k) / 32 * 32) (rs (10 * l + k) / 32) (rs (10 * l + k) - rs (10 * l + k) / 32 * 32) i j) c
    (fun n k => wX_covers_26 post (nI l) i j (nI (10 * l)) cn cs rs sx n (nI k)) ?_ ?_ ?_
  · intro hk n
    exact And.intro hv (br_t (by rw [hcl]; exact Int32.le_refl _) (dr_pf h (dr_any_f c hk)))
  · intro n k hk _ hp
    try dsimp only at hp
    rw [dr_box_sp, Bool.and_eq_true] at hp
    refine And.intro hv (br_f (hlt k hk) ⟨hin k hk, dx_inSpan (dr_if (fun a => ⟨hin k hk, dx_inSpan (dr_if (fun b => dr_pt h (dr_any_t (k := k) ?_ c hk)) (fun b => ?_))⟩) (fun a => ?_))⟩)
    · try dsimp only
      rw [dr_box_sp, Bool.and_eq_true]
      exact hp
    · rw [hcl2 k hk, hp.2] at b
      exact absurd b (by decide)
    · rw [hcl2 k hk, hp.1] at a
      exact absurd a (by decide)
  · intro n k hk hp hA
    try dsimp only at hp
    rw [dr_box_sp] at hp
    refine And.intro hv (br_f (hlt k hk) ⟨hin k hk, dx_inSpan (dr_if (fun a => ⟨hin k hk, dx_inSpan (dr_if (fun b => ?_) (fun b => nm_r (nI_1 k) hA))⟩) (fun a => nm_r (nI_1 k) hA))⟩)
    rw [hcl2 k hk] at a b
    rw [a, b] at hp
    exact absurd hp (by decide)
theorem dx_covers {post : Int32 → Prop} {cn cs rs sx : Nat → Int32} {P : Nat → Int32 → Int32 → Bool} {l : Nat} {i j : Int32} (H : dr_HX cn cs rs P) (hl : l < 3)
    (h : post (dr_b (dr_cell i j && P l i j))) : wpX_covers post (cn, cs, rs, sx) (nI l) i j := by
  obtain ⟨c, hc, hn, hP⟩ := H l hl
  unfold wpX_covers
  try dsimp only
  refine dx_isLayer (dr_if (fun _ => dx_isCell (dr_if (fun a => nm_r (dr_m10 l) (dx_cov26 hl hc hn ?_)) (fun a => ?_))) (fun a => ?_))
  · rw [a, Bool.true_and, hP] at h
    exact h
  · rw [a] at h
    exact h
  · rw [dr_lay_n hl] at a
    exact absurd a (by decide)
theorem dx_covers0 {post : Int32 → Prop} {cn cs rs sx : Nat → Int32} {l i j : Int32} (hl : dr_lay l = false) (h : post 0) : wpX_covers post (cn, cs, rs, sx) l i j := by
  unfold wpX_covers
  try dsimp only
  refine dx_isLayer (dr_if (fun a => ?_) (fun _ => h))
  rw [hl] at a
  exact absurd a (by decide)
theorem dx_covN {post : Int32 → Prop} {cn cs rs sx : Nat → Int32} {P : Nat → Int32 → Int32 → Bool} {l i j : Nat} (H : dr_HX cn cs rs P) (hl : l < 3) (hi : i < 16) (hj : j < 16)
    (h : post (dr_b (P l (nI i) (nI j)))) : wpX_covers post (cn, cs, rs, sx) (nI l) (nI i) (nI j) := by
  refine dx_covers H hl ?_
  rw [dr_cell_n hi hj, Bool.true_and]
  exact h
theorem dx_inCmb {post : Int32 → Prop} {how : Nat} {p q : Bool} (hh : how < 3) (h : post (dr_b (dr_cmb how p q))) : wpX_inCombination post (nI how) (dr_b p) (dr_b q) := by
  rcases (show how = 0 ∨ how = 1 ∨ how = 2 by omega) with rfl | rfl | rfl
  · exact br_t rfl (dr_if (fun a => dr_if (fun b => dr_pt h (by rw [a, b]; rfl)) (fun b => dr_pf h (by rw [a, b]; rfl))) (fun a => dr_pf h (by rw [a]; rfl)))
  · exact br_f (by decide) (br_t rfl (dr_if (fun a => dr_pt h (by rw [a]; rfl)) (fun a => dr_if (fun b => dr_pt h (by rw [a, b]; rfl)) (fun b => dr_pf h (by rw [a, b]; rfl)))))
  · exact br_f (by decide) (br_f (by decide) (dr_if (fun a => dr_if (fun b => dr_pf h (by rw [a, b]; rfl)) (fun b => dr_pt h (by rw [a, b]; rfl))) (fun a => dr_pf h (by rw [a]; rfl))))
theorem dr_S_ij (P : Nat → Int32 → Int32 → Bool) (how a b : Nat) {i j : Nat} (hi : i < 16) : dr_S P how a b (16 * j + i) = dr_cmb how (P a (nI i) (nI j)) (P b (nI i) (nI j)) := by
  unfold dr_S
  rw [show (16 * j + i) % 16 = i by omega, show (16 * j + i) / 16 = j by omega]
theorem dx_fill {post : SX → Prop} {cn cs rs sx : Nat → Int32} {P : Nat → Int32 → Int32 → Bool} {how a b : Nat} (H : dr_HX cn cs rs P) (hh : how < 3) (ha : a < 3) (hb : b < 3)
    (h : ∀ sx' : Nat → Int32, (∀ k, k < 256 → sx' k = dr_b (dr_S P how a b k)) → post (cn, cs, rs, sx')) : wpX_fillSet post (cn, cs, rs, sx) (nI how) (nI a) (nI b) := by
  unfold wpX_fillSet
  try dsimp only
  refine dr_nest (fun c (t : Nat → Int32) => upd t c (dr_b (dr_S P how a b c))) sx 16 16
    (fun n j t => wX_fillSet_3 post (nI how) (nI a) (nI b) n (nI j) cn cs rs t)
    (fun n j m i t => wX_fillSet_13 post (wX_fillSet_3 post (nI how) (nI a) (nI b) n) (nI how) (nI a) (nI b) (nI j) m (nI i) cn cs rs t) ?_ ?_ ?_ ?_
  · exact fun n => br_t dr_end (h _ (dr_fill _ sx 256))
  · exact fun n j s hj hB => br_f (dr_go hj) hB
  · exact fun n j m s hj hA => br_t dr_end (nm_r (nI_1 j) hA)
  · intro n j m i s hj hi hB
    try dsimp only at hB
    refine br_f (dr_go hi) (dx_covN H ha hi hj (dx_covN H hb hi hj (dx_inCmb hh ⟨?_, nm_r ?_ (nm_r (nI_1 i) hB)⟩)))
    · rw [dr_ix]
      exact vp_in_nI (by omega) (by decide)
    · rw [dr_ix, nI_clamp (by omega), dr_b_v, dr_S_ij P how a b hi]
theorem dx_inSet {post : Int32 → Prop} {cn cs rs sx : Nat → Int32} {S : Nat → Bool} {x y : Int32} (hs : ∀ k, k < 256 → sx k = dr_b (S k))
    (h : post (dr_b (dr_in S x y))) : wpX_inSet post (cn, cs, rs, sx) x y := by
  unfold wpX_inSet
  try dsimp only
  refine dx_isCell (dr_if (fun c => ?_) (fun c => ?_))
  · obtain ⟨i, j, hi, hj, rfl, rfl⟩ := dr_cell_of c
    rw [dr_in_n hi hj] at h
    rw [dr_ix, nI_clamp (by omega), hs _ (by omega)]
    exact ⟨vp_in_nI (by omega) (by decide), dr_if (fun a => dr_pt h a) (fun a => dr_pf h a)⟩
  · unfold dr_in at h
    rw [c] at h
    exact h
theorem dx_inSetN {post : Int32 → Prop} {cn cs rs sx : Nat → Int32} {S : Nat → Bool} {i j : Nat} (hs : ∀ k, k < 256 → sx k = dr_b (S k)) (hi : i < 16) (hj : j < 16)
    (h : post (dr_b (S (16 * j + i)))) : wpX_inSet post (cn, cs, rs, sx) (nI i) (nI j) := by
  refine dx_inSet hs ?_
  rw [dr_in_n hi hj]
  exact h
end
section
/-! the component's questions: area, outline, corners, thin, gaps, enclosure -/
theorem dx_area25 {post : Int32 → SX → Prop} {cn cs rs sx : Nat → Int32} {S : Nat → Bool} (hs : ∀ k, k < 256 → sx k = dr_b (S k))
    (h : post (dr_it (fun c (s : Int32) => s + dr_b (S c)) 0 256) (cn, cs, rs, sx)) : ∃ n, wX_area_25 post cn cs rs sx n 0 0 := by
  refine dr_nest (fun c (s : Int32) => s + dr_b (S c)) 0 16 16 (fun n j s => wX_area_25 post cn cs rs sx n s (nI j))
    (fun n j m i s => wX_area_35 post (wX_area_25 post cn cs rs sx n) (nI j) cn cs rs sx m s (nI i)) ?_ ?_ ?_ ?_
  · exact fun n => br_t dr_end h
  · exact fun n j s hj hB => br_f (dr_go hj) hB
  · exact fun n j m s hj hA => br_t dr_end (nm_r (nI_1 j) hA)
  · intro n j m i s hj hi hB
    try dsimp only at hB
    refine br_f (dr_go hi) (dx_inSetN hs hi hj (dr_if (fun a => ?_) (fun a => ?_)))
    · rw [a] at hB
      exact nm_e (nm_r (nI_1 i) hB)
    · rw [a, dr_z] at hB
      exact nm_r (nI_1 i) hB
theorem dr_ng {W : Int32 → Prop} (s : Int32) {c : Bool} (h : W (s + dr_b (!c))) : (dr_b c = 0 → ∀ x, x = s + 1 → W x) ∧ (¬ dr_b c = 0 → W s) := by
  cases c
  · exact br_t rfl (nm_e h)
  · have e : s + dr_b (!true) = s := Int32.add_zero s
    rw [e] at h
    exact br_f (by decide) h
/-- the sides of a cell that lie at the edge of the set, added to s -/
def dr_eg (S : Nat → Bool) (x y s : Int32) : Int32 := s + dr_b (!dr_in S (x - 1) y) + dr_b (!dr_in S (x + 1) y) + dr_b (!dr_in S x (y - 1)) + dr_b (!dr_in S x (y + 1))
theorem dr_eg_0 (S : Nat → Bool) (x y s : Int32) : s + dr_eg S x y 0 = dr_eg S x y s := by
  unfold dr_eg
  rw [Int32.zero_add, ← Int32.add_assoc, ← Int32.add_assoc, ← Int32.add_assoc]
theorem dx_edges {post : Int32 → Prop} {cn cs rs sx : Nat → Int32} {S : Nat → Bool} {x y : Int32} (hs : ∀ k, k < 256 → sx k = dr_b (S k))
    (h : post (dr_eg S x y 0)) : wpX_edgesOfCell post (cn, cs, rs, sx) x y := by
  unfold wpX_edgesOfCell
  try dsimp only
  refine dx_inSet hs (dr_ng (W := fun z => wX_edgesOfCell_16 post x y z cn cs rs sx) 0 ?_)
  try dsimp only
  unfold wX_edgesOfCell_16
  refine dx_inSet hs (dr_ng (W := fun z => wX_edgesOfCell_30 post x y z cn cs rs sx) _ ?_)
  try dsimp only
  unfold wX_edgesOfCell_30
  refine dx_inSet hs (dr_ng (W := fun z => wX_edgesOfCell_44 post x y z cn cs rs sx) _ ?_)
  try dsimp only
  unfold wX_edgesOfCell_44
  exact dx_inSet hs (dr_ng (W := post) _ h)
/-- what outline adds for a cell -/
def dr_oc (S : Nat → Bool) (c : Nat) (s : Int32) : Int32 := if S c = true then dr_eg S (nI (c % 16)) (nI (c / 16)) s else s
theorem dr_oc_t {S : Nat → Bool} {i j : Nat} (hi : i < 16) {s : Int32} (h : S (16 * j + i) = true) : dr_oc S (16 * j + i) s = dr_eg S (nI i) (nI j) s := by
  unfold dr_oc
  rw [if_pos h, show (16 * j + i) % 16 = i by omega, show (16 * j + i) / 16 = j by omega]
theorem dr_oc_f {S : Nat → Bool} {c : Nat} {s : Int32} (h : S c = false) : dr_oc S c s = s := by
  unfold dr_oc
  rw [h]
  rfl
theorem dx_outline25 {post : Int32 → SX → Prop} {cn cs rs sx : Nat → Int32} {S : Nat → Bool} (hs : ∀ k, k < 256 → sx k = dr_b (S k))
    (h : post (dr_it (dr_oc S) 0 256) (cn, cs, rs, sx)) : ∃ n, wX_outline_25 post cn cs rs sx n 0 0 := by
  refine dr_nest (dr_oc S) 0 16 16 (fun n j s => wX_outline_25 post cn cs rs sx n s (nI j))
    (fun n j m i s => wX_outline_35 post (wX_outline_25 post cn cs rs sx n) (nI j) cn cs rs sx m s (nI i)) ?_ ?_ ?_ ?_
  · exact fun n => br_t dr_end h
  · exact fun n j s hj hB => br_f (dr_go hj) hB
  · exact fun n j m s hj hA => br_t dr_end (nm_r (nI_1 j) hA)
  · intro n j m i s hj hi hB
    try dsimp only at hB
    refine br_f (dr_go hi) (dx_inSetN hs hi hj (dr_if (fun a => ?_) (fun a => ?_)))
    · rw [dr_oc_t hi a, ← dr_eg_0] at hB
      exact dx_edges hs (nm_e (nm_r (nI_1 i) hB))
    · rw [dr_oc_f a] at hB
      exact nm_r (nI_1 i) hB
/-- four cells about a point, named by row below and row above -/
def dr_p4 (a b c d : Bool) : Bool := ((a != b) != (c != d)) && ((a != c) != (b != d))
def dr_pl (S : Nat → Bool) (x y : Int32) : Bool := dr_p4 (dr_in S (x - 1) (y - 1)) (dr_in S x (y - 1)) (dr_in S (x - 1) y) (dr_in S x y)
theorem dx_p4 {post : Int32 → Prop} {cn cs rs sx : Nat → Int32} (a b c d : Bool) (h : post (dr_b (dr_p4 a b c d))) :
    (dr_b a = dr_b b → wX_isPlainCorner_50 post (dr_b a) (dr_b b) (dr_b c) (dr_b d) 0 cn cs rs sx) ∧ (¬ dr_b a = dr_b b → wX_isPlainCorner_50 post (dr_b a) (dr_b b) (dr_b c) (dr_b d) 1 cn cs rs sx) := by
  refine dr_xor (P := fun z => wX_isPlainCorner_50 post (dr_b a) (dr_b b) (dr_b c) (dr_b d) z cn cs rs sx) ?_
  try dsimp only
  unfold wX_isPlainCorner_50
  refine dr_xor (P := fun z => wX_isPlainCorner_64 post (dr_b a) (dr_b b) (dr_b c) (dr_b d) (dr_b (a != b)) z cn cs rs sx) ?_
  try dsimp only
  unfold wX_isPlainCorner_64
  refine dr_xor (P := fun z => wX_isPlainCorner_77 post (dr_b b) (dr_b d) (dr_b (a != b)) (dr_b (c != d)) z cn cs rs sx) ?_
  try dsimp only
  unfold wX_isPlainCorner_77
  refine dr_xor (P := fun z => wX_isPlainCorner_91 post (dr_b (a != b)) (dr_b (c != d)) (dr_b (a != c)) z cn cs rs sx) ?_
  try dsimp only
  unfold wX_isPlainCorner_91
  refine dr_same (fun e => dr_pf h ?_) (fun e => dr_same (fun f => dr_pf h ?_) (fun f => dr_pt h ?_))
  · unfold dr_p4
    rw [e, bne_self_eq_false]
    rfl
  · unfold dr_p4
    rw [f, bne_self_eq_false, Bool.and_false]
  · unfold dr_p4
    rw [bne_iff_ne.mpr e, bne_iff_ne.mpr f]
    rfl
theorem dx_plain {post : Int32 → Prop} {cn cs rs sx : Nat → Int32} {S : Nat → Bool} {x y : Int32} (hs : ∀ k, k < 256 → sx k = dr_b (S k))
    (h : post (dr_b (dr_pl S x y))) : wpX_isPlainCorner post (cn, cs, rs, sx) x y := by
  unfold wpX_isPlainCorner
  try dsimp only
  exact dx_inSet hs (dx_inSet hs (dx_inSet hs (dx_inSet hs (dx_p4 _ _ _ _ h))))
/-- what corners adds for a point -/
def dr_kc (S : Nat → Bool) (c : Nat) (s : Int32) : Int32 := s + dr_b (dr_pl S (nI (c % 17)) (nI (c / 17)))
theorem dr_kc_ij {S : Nat → Bool} {i j : Nat} (hi : i < 17) {s : Int32} : dr_kc S (17 * j + i) s = s + dr_b (dr_pl S (nI i) (nI j)) := by
  unfold dr_kc
  rw [show (17 * j + i) % 17 = i by omega, show (17 * j + i) / 17 = j by omega]
theorem dx_corners25 {post : Int32 → SX → Prop} {cn cs rs sx : Nat → Int32} {S : Nat → Bool} (hs : ∀ k, k < 256 → sx k = dr_b (S k))
    (h : post (dr_it (dr_kc S) 0 289) (cn, cs, rs, sx)) : ∃ n, wX_corners_25 post cn cs rs sx n 0 0 := by
  refine dr_nest (dr_kc S) 0 17 17 (fun n j s => wX_corners_25 post cn cs rs sx n s (nI j))
    (fun n j m i s => wX_corners_35 post (wX_corners_25 post cn cs rs sx n) (nI j) cn cs rs sx m s (nI i)) ?_ ?_ ?_ ?_
  · exact fun n => br_t dr_end17 h
  · exact fun n j s hj hB => br_f (dr_go17 hj) hB
  · exact fun n j m s hj hA => br_t dr_end17 (nm_r (nI_1 j) hA)
  · intro n j m i s hj hi hB
    try dsimp only at hB
    rw [dr_kc_ij hi] at hB
    refine br_f (dr_go17 hi) (dx_plain hs (dr_if (fun a => ?_) (fun a => ?_)))
    · rw [a] at hB
      exact nm_e (nm_r (nI_1 i) hB)
    · rw [a, dr_z] at hB
      exact nm_r (nI_1 i) hB
theorem dx_steps {post : Int32 → Prop} {cn cs rs sx : Nat → Int32} {S : Nat → Bool} {x y dx dy : Int32} {w : Bool} (hs : ∀ k, k < 256 → sx k = dr_b (S k))
    (h : post (dr_sx S x y dx dy w)) : wpX_stepsTo post (cn, cs, rs, sx) x y dx dy (dr_b w) := by
  unfold wpX_stepsTo
  try dsimp only
  refine dr_scan (fun k => dr_ps S x y dx dy (k + 1) == w) 16 (fun n k => wX_stepsTo_3 post x y dx dy (dr_b w) cn cs rs sx n (nI (k + 1))) ?_ ?_ ?_
  · intro hk n
    have e : dr_ff (fun k => dr_ps S x y dx dy k == w) 16 1 = 17 := by
      refine dr_ff_eq _ 16 1 17 (by omega) (by omega) (fun k h1 h2 => ?_) (fun h => absurd h (by omega))
      have q := hk (k - 1) (by omega)
      try dsimp only at q ⊢
      rw [show k - 1 + 1 = k by omega] at q
      exact q
    have e2 : dr_sx S x y dx dy w = 0 := if_pos e
    rw [e2] at h
    exact br_t dr_end17 h
  · intro n i hi hk hp
    try dsimp only at hp
    have e : dr_ff (fun k => dr_ps S x y dx dy k == w) 16 1 = i + 1 := by
      refine dr_ff_eq _ 16 1 (i + 1) (by omega) (by omega) (fun k h1 h2 => ?_) (fun _ => hp)
      have q := hk (k - 1) (by omega)
      try dsimp only at q ⊢
      rw [show k - 1 + 1 = k by omega] at q
      exact q
    have e2 : dr_sx S x y dx dy w = nI (i + 1) := by
      unfold dr_sx dr_st
      rw [e, if_neg (by omega)]
    rw [e2] at h
    exact br_f (dr_go17 (by omega)) (dx_inSet hs (dr_same (fun _ => h) (fun z => absurd (eq_of_beq hp) z)))
  · intro n i hi hp hA
    try dsimp only at hp
    refine br_f (dr_go17 (by omega)) (dx_inSet hs (dr_same (fun z => ?_) (fun _ => nm_r (nI_1 (i + 1)) hA)))
    have z' : (dr_ps S x y dx dy (i + 1) == w) = true := beq_iff_eq.mpr z
    rw [hp] at z'
    exact absurd z' (by decide)
theorem dx_short {post : Int32 → Prop} {cn cs rs sx : Nat → Int32} {S : Nat → Bool} {x y dx dy lim : Int32} (hs : ∀ k, k < 256 → sx k = dr_b (S k))
    (h : post (dr_b (dr_sh S x y dx dy lim (!dr_in S x y)))) : wpX_inShortRun post (cn, cs, rs, sx) x y dx dy lim := by
  have key : ∀ o : Bool, post (dr_b (dr_sh S x y dx dy lim o)) → wX_inShortRun_14 post x y dx dy lim (dr_b o) cn cs rs sx := by
    intro o h
    unfold wX_inShortRun_14
    exact dx_steps hs (dx_steps hs (br_c (fun a => dr_pf h (decide_eq_false (fun z => z.1 a))) (fun a => br_c (fun b => dr_pf h (decide_eq_false (fun z => z.2.1 b))) (fun b =>
      br_c (fun c => dr_pf h (decide_eq_false (fun z => z.2.2 c))) (fun c => dr_pt h (decide_eq_true ⟨a, b, c⟩))))))
  unfold wpX_inShortRun
  try dsimp only
  refine dx_inSet hs (dr_if (fun a => ?_) (fun a => ?_))
  · rw [a] at h
    exact key false h
  · rw [a] at h
    exact key true h
theorem dx_shortN {post : Int32 → Prop} {cn cs rs sx : Nat → Int32} {S : Nat → Bool} {i j : Nat} {dx dy lim : Int32} (hs : ∀ k, k < 256 → sx k = dr_b (S k)) (hi : i < 16) (hj : j < 16)
    (h : post (dr_b (dr_sh S (nI i) (nI j) dx dy lim (!S (16 * j + i))))) : wpX_inShortRun post (cn, cs, rs, sx) (nI i) (nI j) dx dy lim := by
  refine dx_short hs ?_
  rw [dr_in_n hi hj]
  exact h
theorem dx_runs {post : Int32 → Prop} {cn cs rs sx : Nat → Int32} {S : Nat → Bool} {v : Bool} {lim : Int32} (hs : ∀ k, k < 256 → sx k = dr_b (S k))
    (h : post (dr_it (fun c (s : Int32) => s + dr_b (dr_cnt S v lim c)) 0 256)) : wpX_cellsInShortRuns post (cn, cs, rs, sx) (dr_b v) lim := by
  unfold wpX_cellsInShortRuns
  try dsimp only
  refine dr_nest (fun c (s : Int32) => s + dr_b (dr_cnt S v lim c)) 0 16 16 (fun n j s => wX_cellsInShortRuns_5 post (dr_b v) lim cn cs rs sx n s (nI j))
    (fun n j m i s => wX_cellsInShortRuns_15 post (wX_cellsInShortRuns_5 post (dr_b v) lim cn cs rs sx n) (dr_b v) lim (nI j) cn cs rs sx m s (nI i)) ?_ ?_ ?_ ?_
  · exact fun n => br_t dr_end h
  · exact fun n j s hj hB => br_f (dr_go hj) hB
  · exact fun n j m s hj hA => br_t dr_end (nm_r (nI_1 j) hA)
  · intro n j m i s hj hi hB
    try dsimp only at hB
    have ec : dr_cnt S v lim (16 * j + i) = ((S (16 * j + i) == v) && (dr_sh S (nI i) (nI j) 1 0 lim (!S (16 * j + i)) || dr_sh S (nI i) (nI j) 0 1 lim (!S (16 * j + i)))) := by
      unfold dr_cnt
      rw [show (16 * j + i) % 16 = i by omega, show (16 * j + i) / 16 = j by omega]
    rw [ec] at hB
    refine br_f (dr_go hi) (dx_inSetN hs hi hj (dr_same (fun a => dx_shortN hs hi hj (dr_if (fun b => ?_) (fun b => dx_shortN hs hi hj (dr_if (fun c => ?_) (fun c => ?_))))) (fun a => ?_)))
    · rw [beq_iff_eq.mpr a, b] at hB
      exact nm_e (nm_r (nI_1 i) hB)
    · rw [beq_iff_eq.mpr a, b, c] at hB
      exact nm_e (nm_r (nI_1 i) hB)
    · rw [beq_iff_eq.mpr a, b, c, show (true && (false || false)) = false from rfl, dr_z] at hB
      exact nm_r (nI_1 i) hB
    · rw [beq_eq_false_iff_ne.mpr a, Bool.false_and, dr_z] at hB
      exact nm_r (nI_1 i) hB
theorem dr_adI {W : Int32 → Prop} {i p : Nat} (hi : i < 16) (hp : p < 16) (h : W (nI (dr_ad i p))) : (nI i ≤ nI p → W (nI p - nI i)) ∧ (¬ nI i ≤ nI p → W (nI i - nI p)) := by
  unfold dr_ad at h
  refine pk_le i p (fun z => ?_) (fun z => ?_)
  · rw [if_neg (by omega), ← pk_sub z] at h
    exact h
  · rw [if_pos z, ← pk_sub (Nat.le_of_lt z)] at h
    exact h
theorem dr_mxI {W : Int32 → Prop} {a b : Nat} (ha : a < 100) (hb : b < 100) (h : W (nI (if b < a then a else b))) : (nI a ≤ nI b → W (nI b)) ∧ (¬ nI a ≤ nI b → W (nI a)) := by
  refine pk_le a b (fun z => ?_) (fun z => ?_)
  · rw [if_neg (by omega)] at h
    exact h
  · rw [if_pos z] at h
    exact h
theorem dr_ad_16 {a b : Nat} (ha : a < 16) (hb : b < 16) : dr_ad a b < 16 := by
  unfold dr_ad
  by_cases h : b < a
  · rw [if_pos h]; omega
  · rw [if_neg h]; omega
theorem dr_g1_le (B : Nat → Bool) (c d r : Nat) : dr_g1 B c d r ≤ r := by
  unfold dr_g1
  by_cases h : dr_ds c d < r ∧ B d = true
  · rw [if_pos h]; omega
  · rw [if_neg h]; exact Nat.le_refl r
theorem dr_ds_ij {i j p q : Nat} (hi : i < 16) (hp : p < 16) : dr_ds (16 * j + i) (16 * q + p) = if dr_ad j q < dr_ad i p then dr_ad i p else dr_ad j q := by
  unfold dr_ds
  rw [show (16 * j + i) % 16 = i by omega, show (16 * j + i) / 16 = j by omega, show (16 * q + p) % 16 = p by omega, show (16 * q + p) / 16 = q by omega]
/-- a layer by 16 * row + column -/
def dr_L (P : Nat → Int32 → Int32 → Bool) (l k : Nat) : Bool := P l (nI (k % 16)) (nI (k / 16))
theorem dr_L_ij (P : Nat → Int32 → Int32 → Bool) (l : Nat) {i j : Nat} (hi : i < 16) : dr_L P l (16 * j + i) = P l (nI i) (nI j) := by
  unfold dr_L
  rw [show (16 * j + i) % 16 = i by omega, show (16 * j + i) / 16 = j by omega]
theorem dx_reach {post : Int32 → Prop} {cn cs rs sx : Nat → Int32} {P : Nat → Int32 → Int32 → Bool} {b i j r : Nat} (H : dr_HX cn cs rs P) (hb : b < 3) (hi : i < 16) (hj : j < 16) (hr : r ≤ 9)
    (h : post (nI (dr_it (dr_g1 (dr_L P b) (16 * j + i)) r 256))) : wpX_reachToShape post (cn, cs, rs, sx) (nI b) (nI i) (nI j) (nI r) := by
  unfold wpX_reachToShape
  try dsimp only
  have key : ∃ n, r ≤ 9 → wX_reachToShape_7 post (nI b) (nI i) (nI j) cn cs rs sx n (nI r) (nI 0) := by
    refine dr_nest (dr_g1 (dr_L P b) (16 * j + i)) r 16 16 (fun n q s => s ≤ 9 → wX_reachToShape_7 post (nI b) (nI i) (nI j) cn cs rs sx n (nI s) (nI q))
      (fun n q m p s => s ≤ 9 → wX_reachToShape_17 post (wX_reachToShape_7 post (nI b) (nI i) (nI j) cn cs rs sx n) (nI b) (nI i) (nI j) (nI q) cn cs rs sx m (nI s) (nI p)) ?_ ?_ ?_ ?_
    · exact fun n _ => br_t dr_end h
    · exact fun n q s hq hB hs => br_f (dr_go hq) (hB.elim fun m hm => ⟨m, hm hs⟩)
    · exact fun n q m s hq hA hs => br_t dr_end (nm_r (nI_1 q) (hA hs))
    · intro n q m p s hq hp hB hs
      have hB' := hB (Nat.le_trans (dr_g1_le _ _ _ s) hs)
      try dsimp only at hB'
      refine br_f (dr_go hp) ?_
      refine dr_adI (W := fun z => wX_reachToShape_41 post (wX_reachToShape_7 post (nI b) (nI i) (nI j) cn cs rs sx n) (wX_reachToShape_17 post (wX_reachToShape_7 post (nI b) (nI i) (nI j) cn cs rs sx n) (nI b) (nI i) (nI j) (nI q) cn cs rs sx m) (nI b) (nI i) (nI j) (nI s) (nI q) (nI p) z cn cs rs sx) hi hp ?_
      try dsimp only
      unfold wX_reachToShape_41
      refine dr_adI (W := fun z => wX_reachToShape_60 post (wX_reachToShape_7 post (nI b) (nI i) (nI j) cn cs rs sx n) (wX_reachToShape_17 post (wX_reachToShape_7 post (nI b) (nI i) (nI j) cn cs rs sx n) (nI b) (nI i) (nI j) (nI q) cn cs rs sx m) (nI b) (nI i) (nI j) (nI s) (nI q) (nI p) (nI (dr_ad i p)) z cn cs rs sx) hj hq ?_
      try dsimp only
      unfold wX_reachToShape_60
      have a1 := dr_ad_16 hi hp
      have a2 := dr_ad_16 hj hq
      refine dr_mxI (W := fun z => wX_reachToShape_76 post (wX_reachToShape_7 post (nI b) (nI i) (nI j) cn cs rs sx n) (wX_reachToShape_17 post (wX_reachToShape_7 post (nI b) (nI i) (nI j) cn cs rs sx n) (nI b) (nI i) (nI j) (nI q) cn cs rs sx m) (nI b) (nI i) (nI j) (nI s) (nI q) (nI p) z cn cs rs sx) (by omega) (by omega) ?_
      try dsimp only
      rw [← dr_ds_ij hi hp]
      have a3 : dr_ds (16 * j + i) (16 * q + p) < 16 := by
        rw [dr_ds_ij hi hp]
        by_cases w : dr_ad j q < dr_ad i p
        · rw [if_pos w]; exact a1
        · rw [if_neg w]; exact a2
      unfold wX_reachToShape_76
      unfold dr_g1 at hB'
      refine pk_le s (dr_ds (16 * j + i) (16 * q + p)) (fun z => ?_) (fun z => dx_covN H hb hp hq (dr_if (fun y => ?_) (fun y => ?_)))
      · rw [if_neg (by omega)] at hB'
        exact nm_r (nI_1 p) hB'
      · rw [if_pos ⟨z, by rw [dr_L_ij P b hp]; exact y⟩] at hB'
        exact nm_r (nI_1 p) hB'
      · rw [if_neg (by rw [dr_L_ij P b hp, y]; intro w; exact absurd w.2 (by decide))] at hB'
        exact nm_r (nI_1 p) hB'
  obtain ⟨n, hn⟩ := key
  exact ⟨n, hn hr⟩
theorem dr_g2_le (A B : Nat → Bool) (c r : Nat) : dr_g2 A B c r ≤ r := by
  unfold dr_g2
  by_cases h : A c = true
  · rw [if_pos h]; exact Nat.le_refl r
  · rw [if_neg h]; exact (dr_g1_all B c r 256 (Nat.le_refl 256)).1
theorem dx_enc {post : Int32 → Prop} {cn cs rs sx : Nat → Int32} {P : Nat → Int32 → Int32 → Bool} {a b : Nat} (H : dr_HX cn cs rs P) (ha : a < 3) (hb : b < 3)
    (h : post (nI (dr_R (dr_L P a) (dr_L P b)) - 1)) : ∃ n, wX_enclosure_23 post (nI a) (nI b) cn cs rs sx n 9 0 := by
  have key : ∃ n, 9 ≤ 9 → wX_enclosure_23 post (nI a) (nI b) cn cs rs sx n (nI 9) (nI 0) := by
    refine dr_nest (dr_g2 (dr_L P a) (dr_L P b)) 9 16 16 (fun n j s => s ≤ 9 → wX_enclosure_23 post (nI a) (nI b) cn cs rs sx n (nI s) (nI j))
      (fun n j m i s => s ≤ 9 → wX_enclosure_33 post (wX_enclosure_23 post (nI a) (nI b) cn cs rs sx n) (nI a) (nI b) (nI j) cn cs rs sx m (nI s) (nI i)) ?_ ?_ ?_ ?_
    · exact fun n _ => br_t dr_end h
    · exact fun n j s hj hB hs => br_f (dr_go hj) (hB.elim fun m hm => ⟨m, hm hs⟩)
    · exact fun n j m s hj hA hs => br_t dr_end (nm_r (nI_1 j) (hA hs))
    · intro n j m i s hj hi hB hs
      have hB' := hB (Nat.le_trans (dr_g2_le _ _ _ s) hs)
      try dsimp only at hB'
      unfold dr_g2 at hB'
      refine br_f (dr_go hi) (dx_covN H ha hi hj (dr_if (fun y => ?_) (fun y => ?_)))
      · rw [if_pos (by rw [dr_L_ij P a hi]; exact y)] at hB'
        exact nm_r (nI_1 i) hB'
      · rw [if_neg (by rw [dr_L_ij P a hi, y]; decide)] at hB'
        exact dx_reach H hb hi hj hs (nm_r (nI_1 i) hB')
  obtain ⟨n, hn⟩ := key
  exact ⟨n, hn (Nat.le_refl 9)⟩
end
section
/-! the reference's small questions -/
theorem dr_dv {c : Nat} (h : c < 256) : nI c / 16 = nI (c / 16) := pk_div (d := 16) (by omega) (by decide) (by decide)
theorem dr_rm {c : Nat} (h : c < 256) : nI c - nI c / 16 * 16 = nI (c % 16) := pk_rem (d := 16) (by omega) (by decide) (by decide)
theorem dy_isLayer {post : Int32 → Prop} {cn le ri bo tp sy : Nat → Int32} {l : Int32} (h : post (dr_b (dr_lay l))) : wpY_isLayer post (cn, le, ri, bo, tp, sy) l := by
  unfold wpY_isLayer
  try dsimp only
  exact br_c (fun a => dr_pf h (dr_lay_l a)) (fun a => br_c (fun b => dr_pf h (dr_lay_h ((dr_2 l).mp b))) (fun b => dr_pt h (dr_lay_t a (fun z => b ((dr_2 l).mpr z)))))
theorem dr_box_a {l r b t i j : Int32} (h : i < l) : dr_box l r b t i j = false := decide_eq_false (fun z => z.1.1 h)
theorem dr_box_b {l r b t i j : Int32} (h : r ≤ i) : dr_box l r b t i j = false := decide_eq_false (fun z => z.1.2 h)
theorem dr_box_c {l r b t i j : Int32} (h : j < b) : dr_box l r b t i j = false := decide_eq_false (fun z => z.2.1 h)
theorem dr_box_d {l r b t i j : Int32} (h : t ≤ j) : dr_box l r b t i j = false := decide_eq_false (fun z => z.2.2 h)
theorem dr_box_t {l r b t i j : Int32} (h1 : ¬ i < l) (h2 : ¬ r ≤ i) (h3 : ¬ j < b) (h4 : ¬ t ≤ j) : dr_box l r b t i j = true := decide_eq_true ⟨⟨h1, h2⟩, ⟨h3, h4⟩⟩
theorem dy_has6 {post : Int32 → Prop} {cn le ri bo tp sy : Nat → Int32} {l c : Nat} {i j : Int32} (hl : l < 3) (hc : c ≤ 10) (hn : cn l = nI c)
    (h : post (dr_b (dr_cy le ri bo tp l c i j))) : ∃ n, wY_has_6 post (nI l) i j cn le ri bo tp sy n (nI (10 * l)) := by
  have hv : vp_in (nI l) 3 := vp_in_nI hl (by decide)
  have hcl : 10 * nI l + cn (nI l).toNatClampNeg = nI (10 * l + c) := by rw [nI_clamp (by omega), hn, dr_10m, nI_add]
  have hin : ∀ k, k < c → vp_in (nI (10 * l + k)) 30 := fun k hk => vp_in_nI (by omega) (by decide)
  have hcl2 : ∀ k, k < c → (nI (10 * l + k)).toNatClampNeg = 10 * l + k := fun k hk => nI_clamp (by omega)
  have hlt : ∀ k, k < c → ¬ 10 * nI l + cn (nI l).toNatClampNeg ≤ nI (10 * l + k) := fun k hk => by
    rw [hcl]
    exact nI_ge (by omega) (by omega)
  refine dr_scan (fun k => dr_box (le (10 * l + k)) (ri (10 * l + k)) (bo (10 * l + k)) (tp (10 * l + k)) i j) c
    (fun n k => wY_has_6 post (nI l) i j cn le ri bo tp sy n (nI (10 * l + k))) ?_ ?_ ?_
  · intro hk n
    exact And.intro hv (br_t (by rw [hcl]; exact Int32.le_refl _) (dr_pf h (dr_any_f c hk)))
  · intro n k hk _ hp
    have hp' := of_decide_eq_true hp
    refine And.intro hv (br_f (hlt k hk) ⟨hin k hk, br_f ?_ ⟨hin k hk, br_f ?_ ⟨hin k hk, br_f ?_ ⟨hin k hk, br_f ?_ (dr_pt h (dr_any_t (k := k) hp c hk))⟩⟩⟩⟩)
    · rw [hcl2 k hk]
      exact hp'.1.1
    · rw [hcl2 k hk]
      exact hp'.1.2
    · rw [hcl2 k hk]
      exact hp'.2.1
    · rw [hcl2 k hk]
      exact hp'.2.2
  · intro n k hk hp hA
    refine And.intro hv (br_f (hlt k hk) ⟨hin k hk, br_c (fun _ => nm_r (nI_1 (10 * l + k)) hA) (fun a => ⟨hin k hk, br_c (fun _ => nm_r (nI_1 (10 * l + k)) hA) (fun b => ⟨hin k hk, br_c (fun _ => nm_r (nI_1 (10 * l + k)) hA) (fun c => ⟨hin k hk, br_c (fun _ => nm_r (nI_1 (10 * l + k)) hA) (fun d => ?_)⟩)⟩)⟩)⟩)
    rw [hcl2 k hk] at a b c d
    try dsimp only at hp
    rw [dr_box_t a b c d] at hp
    exact absurd hp (by decide)
theorem dy_has {post : Int32 → Prop} {cn le ri bo tp sy : Nat → Int32} {P : Nat → Int32 → Int32 → Bool} {l : Nat} {i j x y : Int32} (H : dr_HY cn le ri bo tp P) (hl : l < 3) (e1 : x = i) (e2 : y = j)
    (h : post (dr_b (P l i j))) : wpY_has post (cn, le, ri, bo, tp, sy) (nI l) x y := by
  subst e1 e2
  obtain ⟨c, hc, hn, hP⟩ := H l hl
  unfold wpY_has
  try dsimp only
  rw [hP] at h
  exact nm_r (dr_10m l) (dy_has6 hl hc hn h)
theorem dy_covers {post : Int32 → Prop} {cn le ri bo tp sy : Nat → Int32} {P : Nat → Int32 → Int32 → Bool} {l : Nat} {i j : Int32} (H : dr_HY cn le ri bo tp P) (hl : l < 3)
    (h : post (dr_b (dr_cell i j && P l i j))) : wpY_covers post (cn, le, ri, bo, tp, sy) (nI l) i j := by
  have out : dr_cell i j = false → post 0 := fun z => by
    rw [z] at h
    exact h
  unfold wpY_covers
  try dsimp only
  refine dy_isLayer (dr_if (fun _ => br_c (fun a => out (dr_cell_x (dr_ax_l a))) (fun a => br_c (fun b => out (dr_cell_x (dr_ax_h ((dr_15 i).mp b)))) (fun b =>
    br_c (fun c => out (dr_cell_y (dr_ax_l c))) (fun c => br_c (fun d => out (dr_cell_y (dr_ax_h ((dr_15 j).mp d)))) (fun d => dy_has H hl rfl rfl (dr_if (fun e => ?_) (fun e => ?_))))))) (fun z => ?_))
  · refine dr_pt h ?_
    rw [e, dr_cell_t (dr_ax_t a (fun z => b ((dr_15 i).mpr z))) (dr_ax_t c (fun z => d ((dr_15 j).mpr z)))]
    rfl
  · refine dr_pf h ?_
    rw [e, Bool.and_false]
  · rw [dr_lay_n hl] at z
    exact absurd z (by decide)
theorem dy_covers0 {post : Int32 → Prop} {cn le ri bo tp sy : Nat → Int32} {l i j : Int32} (hl : dr_lay l = false) (h : post 0) : wpY_covers post (cn, le, ri, bo, tp, sy) l i j := by
  unfold wpY_covers
  try dsimp only
  refine dy_isLayer (dr_if (fun a => ?_) (fun _ => h))
  rw [hl] at a
  exact absurd a (by decide)
theorem dy_comb30 {post : Int32 → SY → Prop} {cn le ri bo tp sy : Nat → Int32} {P : Nat → Int32 → Int32 → Bool} {how a b : Nat} (H : dr_HY cn le ri bo tp P) (hh : how < 3) (ha : a < 3) (hb : b < 3)
    (h : ∀ sy' : Nat → Int32, (∀ k, k < 256 → sy' k = dr_b (dr_S P how a b k)) → post 1 (cn, le, ri, bo, tp, sy')) : ∃ n, wY_combine_30 post (nI how) (nI a) (nI b) n 0 cn le ri bo tp sy := by
  refine dr_loop (fun c (t : Nat → Int32) => upd t c (dr_b (dr_S P how a b c))) sy 256 (fun n c t => wY_combine_30 post (nI how) (nI a) (nI b) n (nI c) cn le ri bo tp t) ?_ ?_
  · exact fun n => br_t dr_end256 (h _ (dr_fill _ sy 256))
  · intro n c s hc hA
    try dsimp only at hA
    have hv : vp_in (nI c) 256 := vp_in_nI hc (by decide)
    have K : ∀ (v : Int32) (w : Bool), v = dr_b w → dr_S P how a b c = w → (vp_in (nI c) 256 ∧ ∀ t, t = upd s (nI c).toNatClampNeg (vp_nar .boolean v) → ∀ x, x = nI c + 1 → wY_combine_30 post (nI how) (nI a) (nI b) n x cn le ri bo tp t) := by
      intro v w ev ew
      refine ⟨hv, nm_r ?_ (nm_r (nI_1 c) hA)⟩
      rw [ev, dr_b_v, nI_clamp (by omega), ew]
    have E : dr_S P how a b c = dr_cmb how (P a (nI (c % 16)) (nI (c / 16))) (P b (nI (c % 16)) (nI (c / 16))) := rfl
    refine br_f (dr_go256 hc) ⟨by decide, by decide, dy_has H ha (dr_rm hc) (dr_dv hc) ⟨by decide, by decide, dy_has H hb (dr_rm hc) (dr_dv hc) ?_⟩⟩
    generalize P a (nI (c % 16)) (nI (c / 16)) = p at E ⊢
    generalize P b (nI (c % 16)) (nI (c / 16)) = q at E ⊢
    rcases (show how = 0 ∨ how = 1 ∨ how = 2 by omega) with rfl | rfl | rfl
    · exact br_t rfl (dr_if (fun x => dr_if (fun y => K 1 true rfl (by rw [E, x, y]; rfl)) (fun y => K 0 false rfl (by rw [E, x, y]; rfl))) (fun x => K 0 false rfl (by rw [E, x]; rfl)))
    · exact br_f (by decide) (br_t rfl (dr_if (fun x => K 1 true rfl (by rw [E, x]; rfl)) (fun x => dr_if (fun y => K 1 true rfl (by rw [E, x, y]; rfl)) (fun y => K 0 false rfl (by rw [E, x, y]; rfl)))))
    · exact br_f (by decide) (br_f (by decide) (dr_if (fun x => dr_if (fun y => K 0 false rfl (by rw [E, x, y]; rfl)) (fun y => K 1 true rfl (by rw [E, x, y]; rfl))) (fun x => K 0 false rfl (by rw [E, x]; rfl))))
theorem dy_comb {post : Int32 → SY → Prop} {cn le ri bo tp sy : Nat → Int32} {P : Nat → Int32 → Int32 → Bool} {how a b : Nat} (H : dr_HY cn le ri bo tp P) (hh : how < 3) (ha : a < 3) (hb : b < 3)
    (h : ∀ sy' : Nat → Int32, (∀ k, k < 256 → sy' k = dr_b (dr_S P how a b k)) → post 1 (cn, le, ri, bo, tp, sy')) : wpY_combine post (cn, le, ri, bo, tp, sy) (nI how) (nI a) (nI b) := by
  unfold wpY_combine
  try dsimp only
  refine br_f (nI_pos (by omega)) (br_f (nI_nlt (a := 2) (by omega) (by decide)) (dy_isLayer (dr_if (fun _ => dy_isLayer (dr_if (fun _ => dy_comb30 H hh ha hb h) (fun z => ?_))) (fun z => ?_))))
  · rw [dr_lay_n hb] at z
    exact absurd z (by decide)
  · rw [dr_lay_n ha] at z
    exact absurd z (by decide)
theorem dy_comb0 {post : Int32 → SY → Prop} {cn le ri bo tp sy : Nat → Int32} {how a b : Int32} (hc : dr_com how a b = false)
    (h : post 0 (cn, le, ri, bo, tp, sy)) : wpY_combine post (cn, le, ri, bo, tp, sy) how a b := by
  unfold wpY_combine
  try dsimp only
  refine br_c (fun _ => h) (fun x => br_c (fun _ => h) (fun y => dy_isLayer (dr_if (fun p => dy_isLayer (dr_if (fun q => ?_) (fun _ => h))) (fun _ => h))))
  rw [dr_com_t (decide_eq_true ⟨x, y⟩) p q] at hc
  exact absurd hc (by decide)
theorem dy_in {post : Int32 → Prop} {cn le ri bo tp sy : Nat → Int32} {S : Nat → Bool} {x y : Int32} (hs : ∀ k, k < 256 → sy k = dr_b (S k))
    (h : post (dr_b (dr_in S x y))) : wpY_in post (cn, le, ri, bo, tp, sy) x y := by
  have out : dr_cell x y = false → post 0 := fun z => by
    unfold dr_in at h
    rw [z] at h
    exact h
  unfold wpY_in
  try dsimp only
  refine br_c (fun a => out (dr_cell_x (dr_ax_l a))) (fun a => br_c (fun b => out (dr_cell_x (dr_ax_h ((dr_15 x).mp b)))) (fun b =>
    br_c (fun c => out (dr_cell_y (dr_ax_l c))) (fun c => br_c (fun d => out (dr_cell_y (dr_ax_h ((dr_15 y).mp d)))) (fun d => ?_))))
  obtain ⟨i, j, hi, hj, rfl, rfl⟩ := dr_cell_of (dr_cell_t (dr_ax_t a (fun z => b ((dr_15 x).mpr z))) (dr_ax_t c (fun z => d ((dr_15 y).mpr z))))
  rw [dr_in_n hi hj] at h
  rw [dr_iy, nI_clamp (by omega), hs _ (by omega)]
  exact ⟨vp_in_nI (by omega) (by decide), dr_if (fun a => dr_pt h a) (fun a => dr_pf h a)⟩
theorem dy_inN {post : Int32 → Prop} {cn le ri bo tp sy : Nat → Int32} {S : Nat → Bool} {i j : Nat} (hs : ∀ k, k < 256 → sy k = dr_b (S k)) (hi : i < 16) (hj : j < 16)
    (h : post (dr_b (S (16 * j + i)))) : wpY_in post (cn, le, ri, bo, tp, sy) (nI i) (nI j) := by
  refine dy_in hs ?_
  rw [dr_in_n hi hj]
  exact h
end
section
/-! the reference's questions -/
theorem dy_area19 {post : Int32 → SY → Prop} {cn le ri bo tp sy : Nat → Int32} {S : Nat → Bool} (hs : ∀ k, k < 256 → sy k = dr_b (S k))
    (h : post (dr_it (fun c (s : Int32) => s + dr_b (S c)) 0 256) (cn, le, ri, bo, tp, sy)) : ∃ n, wY_area_19 post cn le ri bo tp sy n 0 0 := by
  refine dr_loop (fun c (s : Int32) => s + dr_b (S c)) 0 256 (fun n c s => wY_area_19 post cn le ri bo tp sy n s (nI c)) ?_ ?_
  · exact fun n => br_t dr_end256 h
  · intro n c s hc hA
    try dsimp only at hA
    have e : sy (nI c).toNatClampNeg = dr_b (S c) := by rw [nI_clamp (by omega), hs c hc]
    refine br_f (dr_go256 hc) ⟨vp_in_nI hc (by decide), ?_⟩
    rw [e]
    refine dr_if (fun a => ?_) (fun a => ?_)
    · rw [a] at hA
      exact nm_e (nm_r (nI_1 c) hA)
    · rw [a, dr_z] at hA
      exact nm_r (nI_1 c) hA
theorem dy_outline19 {post : Int32 → SY → Prop} {cn le ri bo tp sy : Nat → Int32} {S : Nat → Bool} (hs : ∀ k, k < 256 → sy k = dr_b (S k))
    (h : post (dr_it (dr_oc S) 0 256) (cn, le, ri, bo, tp, sy)) : ∃ n, wY_outline_19 post cn le ri bo tp sy n 0 0 := by
  refine dr_nest (dr_oc S) 0 16 16 (fun n j s => wY_outline_19 post cn le ri bo tp sy n s (nI j))
    (fun n j m i s => wY_outline_29 post (wY_outline_19 post cn le ri bo tp sy n) (nI j) cn le ri bo tp sy m s (nI i)) ?_ ?_ ?_ ?_
  · exact fun n => br_t dr_end h
  · exact fun n j s hj hB => br_f (dr_go hj) hB
  · exact fun n j m s hj hA => br_t dr_end (nm_r (nI_1 j) hA)
  · intro n j m i s hj hi hB
    try dsimp only at hB
    refine br_f (dr_go hi) (dy_inN hs hi hj (dr_if (fun a => ?_) (fun a => ?_)))
    · rw [dr_oc_t hi a] at hB
      refine dy_in hs (dr_ng (W := fun z => wY_outline_63 post (wY_outline_19 post cn le ri bo tp sy n) (wY_outline_29 post (wY_outline_19 post cn le ri bo tp sy n) (nI j) cn le ri bo tp sy m) z (nI j) (nI i) cn le ri bo tp sy) s ?_)
      try dsimp only
      unfold wY_outline_63
      refine dy_in hs (dr_ng (W := fun z => wY_outline_79 post (wY_outline_19 post cn le ri bo tp sy n) (wY_outline_29 post (wY_outline_19 post cn le ri bo tp sy n) (nI j) cn le ri bo tp sy m) z (nI j) (nI i) cn le ri bo tp sy) _ ?_)
      try dsimp only
      unfold wY_outline_79
      refine dy_in hs (dr_ng (W := fun z => wY_outline_95 post (wY_outline_19 post cn le ri bo tp sy n) (wY_outline_29 post (wY_outline_19 post cn le ri bo tp sy n) (nI j) cn le ri bo tp sy m) z (nI j) (nI i) cn le ri bo tp sy) _ ?_)
      try dsimp only
      unfold wY_outline_95
      refine dy_in hs (dr_ng (W := fun z => ∀ x, x = nI i + 1 → wY_outline_29 post (wY_outline_19 post cn le ri bo tp sy n) (nI j) cn le ri bo tp sy m z x) _ ?_)
      try dsimp only
      exact nm_r (nI_1 i) hB
    · rw [dr_oc_f a] at hB
      exact nm_r (nI_1 i) hB
theorem dr_p4y (a b c d : Bool) : (((c != d) != (a != b)) && ((c != a) != (d != b))) = dr_p4 a b c d := by
  cases a <;> cases b <;> cases c <;> cases d <;> rfl
theorem dy_corners19 {post : Int32 → SY → Prop} {cn le ri bo tp sy : Nat → Int32} {S : Nat → Bool} (hs : ∀ k, k < 256 → sy k = dr_b (S k))
    (h : post (dr_it (dr_kc S) 0 289) (cn, le, ri, bo, tp, sy)) : ∃ n, wY_corners_19 post cn le ri bo tp sy n 0 0 := by
  refine dr_nest (dr_kc S) 0 17 17 (fun n j s => wY_corners_19 post cn le ri bo tp sy n s (nI j))
    (fun n j m i s => wY_corners_29 post (wY_corners_19 post cn le ri bo tp sy n) (nI j) cn le ri bo tp sy m s (nI i)) ?_ ?_ ?_ ?_
  · exact fun n => br_t dr_end17 h
  · exact fun n j s hj hB => br_f (dr_go17 hj) hB
  · exact fun n j m s hj hA => br_t dr_end17 (nm_r (nI_1 j) hA)
  · intro n j m i s hj hi hB
    try dsimp only at hB
    rw [dr_kc_ij hi] at hB
    unfold dr_pl at hB
    rw [← dr_p4y] at hB
    refine br_f (dr_go17 hi) (dy_in hs (dy_in hs (dr_xor (P := fun z => wY_corners_62 post (wY_corners_19 post cn le ri bo tp sy n) (wY_corners_29 post (wY_corners_19 post cn le ri bo tp sy n) (nI j) cn le ri bo tp sy m) s (nI j) (nI i) z cn le ri bo tp sy) ?_)))
    try dsimp only
    unfold wY_corners_62
    refine dy_in hs (dy_in hs (dr_xor (P := fun z => wY_corners_94 post (wY_corners_19 post cn le ri bo tp sy n) (wY_corners_29 post (wY_corners_19 post cn le ri bo tp sy n) (nI j) cn le ri bo tp sy m) s (nI j) (nI i) (dr_b (dr_in S (nI i - 1) (nI j) != dr_in S (nI i) (nI j))) z cn le ri bo tp sy) ?_))
    try dsimp only
    unfold wY_corners_94
    refine dy_in hs (dy_in hs (dr_xor (P := fun z => wY_corners_126 post (wY_corners_19 post cn le ri bo tp sy n) (wY_corners_29 post (wY_corners_19 post cn le ri bo tp sy n) (nI j) cn le ri bo tp sy m) s (nI j) (nI i) (dr_b (dr_in S (nI i - 1) (nI j) != dr_in S (nI i) (nI j))) (dr_b (dr_in S (nI i - 1) (nI j - 1) != dr_in S (nI i) (nI j - 1))) z cn le ri bo tp sy) ?_))
    try dsimp only
    unfold wY_corners_126
    refine dy_in hs (dy_in hs (dr_xor (P := fun z => wY_corners_154 post (wY_corners_19 post cn le ri bo tp sy n) (wY_corners_29 post (wY_corners_19 post cn le ri bo tp sy n) (nI j) cn le ri bo tp sy m) s (nI j) (nI i) (dr_b (dr_in S (nI i - 1) (nI j) != dr_in S (nI i) (nI j))) (dr_b (dr_in S (nI i - 1) (nI j - 1) != dr_in S (nI i) (nI j - 1))) (dr_b (dr_in S (nI i - 1) (nI j) != dr_in S (nI i - 1) (nI j - 1))) z cn le ri bo tp sy) ?_))
    try dsimp only
    unfold wY_corners_154
    refine dr_same (fun e => ?_) (fun e => dr_same (fun f => ?_) (fun f => ?_))
    · rw [e, bne_self_eq_false, Bool.false_and, dr_z] at hB
      exact nm_r (nI_1 i) hB
    · rw [f, bne_self_eq_false, Bool.and_false, dr_z] at hB
      exact nm_r (nI_1 i) hB
    · rw [bne_iff_ne.mpr e, bne_iff_ne.mpr f] at hB
      exact nm_e (nm_r (nI_1 i) hB)
theorem dr_adv (x dx : Int32) (k : Nat) : x + nI k * dx + dx = x + nI (k + 1) * dx := by
  rw [← nI_1, Int32.add_mul, Int32.one_mul, Int32.add_assoc]
theorem dr_stop_c {S : Nat → Bool} {x y dx dy : Int32} {w : Bool} {k : Nat} (h : dr_pc x y dx dy k = false) : dr_stop S x y dx dy w k = true := by
  unfold dr_stop
  rw [h]
  rfl
theorem dy_run {post : Int32 → Prop} {cn le ri bo tp sy : Nat → Int32} {S : Nat → Bool} {x y dx dy : Int32} {w : Bool} (hs : ∀ k, k < 256 → sy k = dr_b (S k))
    (h : post (nI (dr_rn S x y dx dy w))) : wpY_run post (cn, le, ri, bo, tp, sy) x y dx dy (dr_b w) := by
  unfold wpY_run
  try dsimp only
  have key : ∃ n, wY_run_12 post dx dy (dr_b w) cn le ri bo tp sy n (nI 0) (x + nI 0 * dx) (y + nI 0 * dy) (nI 0) := by
    refine dr_scan (dr_stop S x y dx dy w) 16 (fun n k => wY_run_12 post dx dy (dr_b w) cn le ri bo tp sy n (nI k) (x + nI k * dx) (y + nI k * dy) (nI k)) ?_ ?_ ?_
    · intro hk n
      have e : dr_rn S x y dx dy w = 16 := dr_ff_eq _ 16 0 16 (by omega) (by omega) (fun k _ h2 => hk k h2) (fun h => absurd h (by omega))
      rw [e] at h
      exact br_t dr_end h
    · intro n i hi hk hp
      have e : dr_rn S x y dx dy w = i := dr_ff_eq _ 16 0 i (by omega) (by omega) (fun k _ h2 => hk k h2) (fun _ => hp)
      rw [e] at h
      refine br_f (dr_go hi) (br_c (fun _ => h) (fun a => br_c (fun _ => h) (fun b => br_c (fun _ => h) (fun c => br_c (fun _ => h) (fun d => dy_in hs (dr_same (fun f => ?_) (fun _ => h)))))))
      have c1 : dr_pc x y dx dy i = true := dr_cell_t (dr_ax_t a (fun z => b ((dr_15 _).mpr z))) (dr_ax_t c (fun z => d ((dr_15 _).mpr z)))
      have c2 : dr_ps S x y dx dy i = w := f
      unfold dr_stop at hp
      rw [c1, c2, beq_self_eq_true] at hp
      exact absurd hp (by decide)
    · intro n i hi hp hA
      have c1 : dr_pc x y dx dy i = true := by
        cases hc : dr_pc x y dx dy i with
        | true => rfl
        | false =>
          rw [dr_stop_c hc] at hp
          exact absurd hp (by decide)
      have c2 : dr_in S (x + nI i * dx) (y + nI i * dy) = w := by
        unfold dr_stop at hp
        rw [c1, Bool.true_and] at hp
        by_cases z : dr_ps S x y dx dy i = w
        · exact z
        · rw [beq_eq_false_iff_ne.mpr z] at hp
          exact absurd hp (by decide)
      have c3 := c1
      unfold dr_pc dr_cell at c3
      rw [Bool.and_eq_true] at c3
      have a1 := of_decide_eq_true c3.1
      have a2 := of_decide_eq_true c3.2
      refine br_f (dr_go hi) (br_f a1.1 (br_f (fun z => a1.2 ((dr_15 _).mp z)) (br_f a2.1 (br_f (fun z => a2.2 ((dr_15 _).mp z)) (dy_in hs (dr_same (fun _ => ?_) (fun f => absurd c2 f)))))))
      exact nm_r (nI_1 i) (nm_r (dr_adv x dx i) (nm_r (dr_adv y dy i) (nm_r (nI_1 i) hA)))
  obtain ⟨n, hn⟩ := key
  rw [nI_0, Int32.zero_mul, Int32.zero_mul, Int32.add_zero, Int32.add_zero] at hn
  exact ⟨n, hn⟩
theorem dr_n0 : (-0 : Int32) = 0 := by decide
theorem dr_nn1 : (- -1 : Int32) = 1 := by decide
/-- thin, as the reference counts -/
def dr_yt (S : Nat → Bool) (lim : Int32) (c : Nat) : Bool :=
  S c && (decide (nI (dr_rn S (nI (c % 16)) (nI (c / 16)) (-1) 0 true) + nI (dr_rn S (nI (c % 16)) (nI (c / 16)) 1 0 true) - 1 < lim)
    || decide (¬ lim ≤ nI (dr_rn S (nI (c % 16)) (nI (c / 16)) 0 (-1) true) + nI (dr_rn S (nI (c % 16)) (nI (c / 16)) 0 1 true) - 1))
theorem dr_yt_eq {S : Nat → Bool} {lim : Int32} {c : Nat} (hc : c < 256) : dr_cnt S true lim c = dr_yt S lim c := by
  cases e : S c with
  | false =>
    unfold dr_cnt dr_yt
    rw [e, show (false == true) = false from rfl, Bool.false_and, Bool.false_and]
  | true =>
    have h0 : dr_in S (nI (c % 16)) (nI (c / 16)) = true := by
      rw [dr_in_n (by omega) (by omega), show 16 * (c / 16) + c % 16 = c by omega]
      exact e
    have i1 : c % 16 < 16 := by omega
    have i2 : c / 16 < 16 := by omega
    unfold dr_cnt dr_yt
    rw [e]
    show (true && (dr_sh S (nI (c % 16)) (nI (c / 16)) 1 0 lim false || dr_sh S (nI (c % 16)) (nI (c / 16)) 0 1 lim false)) = _
    rw [dr_sh_thin (dr_LnR i1 i2) (by rw [dr_n0]; exact dr_LnL i1 i2) h0, dr_sh_thin (dr_LnU i1 i2) (by rw [dr_n0]; exact dr_LnD i1 i2) h0]
    unfold dr_yth
    rw [dr_n0]
    simp only [Int32.not_le]
theorem dy_thin29 {post : Int32 → SY → Prop} {cn le ri bo tp sy : Nat → Int32} {S : Nat → Bool} {lim : Int32} (hs : ∀ k, k < 256 → sy k = dr_b (S k))
    (h : post (dr_it (fun c (s : Int32) => s + dr_b (dr_cnt S true lim c)) 0 256) (cn, le, ri, bo, tp, sy)) : ∃ n, wY_thin_29 post lim cn le ri bo tp sy n 0 0 := by
  refine dr_nest (fun c (s : Int32) => s + dr_b (dr_cnt S true lim c)) 0 16 16 (fun n j s => wY_thin_29 post lim cn le ri bo tp sy n s (nI j))
    (fun n j m i s => wY_thin_39 post (wY_thin_29 post lim cn le ri bo tp sy n) lim (nI j) cn le ri bo tp sy m s (nI i)) ?_ ?_ ?_ ?_
  · exact fun n => br_t dr_end h
  · exact fun n j s hj hB => br_f (dr_go hj) hB
  · exact fun n j m s hj hA => br_t dr_end (nm_r (nI_1 j) hA)
  · intro n j m i s hj hi hB
    try dsimp only at hB
    rw [dr_yt_eq (by omega)] at hB
    unfold dr_yt at hB
    rw [show (16 * j + i) % 16 = i by omega, show (16 * j + i) / 16 = j by omega] at hB
    refine br_f (dr_go hi) (dy_inN hs hi hj (dr_if (fun a => ?_) (fun a => ?_)))
    · rw [a, Bool.true_and] at hB
      refine dy_run (w := true) hs (dy_run (w := true) hs (nm_e (dy_run (w := true) hs (dy_run (w := true) hs (nm_e (br_c (fun x => ?_) (fun x => br_c (fun y => ?_) (fun y => ?_))))))))
      · rw [decide_eq_true x, Bool.true_or] at hB
        exact nm_e (nm_r (nI_1 i) hB)
      · rw [decide_eq_false x, Bool.false_or, decide_eq_false (fun z => z y), dr_z] at hB
        exact nm_r (nI_1 i) hB
      · rw [decide_eq_false x, Bool.false_or, decide_eq_true y] at hB
        exact nm_e (nm_r (nI_1 i) hB)
    · rw [a, Bool.false_and, dr_z] at hB
      exact nm_r (nI_1 i) hB
theorem dr_sn (x r d : Int32) : x - r * d = x + r * (-d) := by
  rw [Int32.mul_neg, Int32.sub_eq_add_neg]
theorem dy_between {post : Int32 → Prop} {cn le ri bo tp sy : Nat → Int32} {S : Nat → Bool} {x y dx dy lim : Int32} (hs : ∀ k, k < 256 → sy k = dr_b (S k))
    (h : post (dr_b (dr_ygp S x y dx dy lim))) : wpY_between post (cn, le, ri, bo, tp, sy) x y dx dy lim := by
  unfold wpY_between
  try dsimp only
  unfold dr_ygp at h
  refine dy_run (w := false) hs (dy_run (w := false) hs (dy_in hs (dr_if (fun a => ?_) (fun a => ?_))))
  · have a' : dr_ps S x y dx dy (dr_rn S x y dx dy false) = true := a
    rw [dr_sn, dr_sn]
    rw [a', Bool.true_and] at h
    refine dy_in hs (dr_if (fun b => ?_) (fun b => ?_))
    · have b' : dr_ps S x y (-dx) (-dy) (dr_rn S x y (-dx) (-dy) false) = true := b
      rw [b', Bool.true_and] at h
      exact br_c (fun c => dr_pf h (decide_eq_false (fun z => z c))) (fun c => dr_pt h (decide_eq_true c))
    · have b' : dr_ps S x y (-dx) (-dy) (dr_rn S x y (-dx) (-dy) false) = false := b
      rw [b'] at h
      exact h
  · have a' : dr_ps S x y dx dy (dr_rn S x y dx dy false) = false := a
    rw [a'] at h
    exact h
theorem dr_yg_eq {S : Nat → Bool} {lim : Int32} {i j : Nat} (hi : i < 16) (hj : j < 16) : dr_cnt S false lim (16 * j + i) = (!(S (16 * j + i)) && (dr_ygp S (nI i) (nI j) 1 0 lim || dr_ygp S (nI i) (nI j) 0 1 lim)) := by
  unfold dr_cnt
  rw [show (16 * j + i) % 16 = i by omega, show (16 * j + i) / 16 = j by omega]
  cases e : S (16 * j + i) with
  | true => rw [show (true == false) = false from rfl, show (!true) = false from rfl, Bool.false_and, Bool.false_and]
  | false =>
    have h0 : dr_in S (nI i) (nI j) = false := by
      rw [dr_in_n hi hj]
      exact e
    show (true && (dr_sh S (nI i) (nI j) 1 0 lim true || dr_sh S (nI i) (nI j) 0 1 lim true)) = _
    rw [dr_sh_gap (dr_LnR hi hj) (by rw [dr_n0]; exact dr_LnL hi hj) h0, dr_sh_gap (dr_LnU hi hj) (by rw [dr_n0]; exact dr_LnD hi hj) h0]
    rfl
theorem dy_gaps29 {post : Int32 → SY → Prop} {cn le ri bo tp sy : Nat → Int32} {S : Nat → Bool} {lim : Int32} (hs : ∀ k, k < 256 → sy k = dr_b (S k))
    (h : post (dr_it (fun c (s : Int32) => s + dr_b (dr_cnt S false lim c)) 0 256) (cn, le, ri, bo, tp, sy)) : ∃ n, wY_gaps_29 post lim cn le ri bo tp sy n 0 0 := by
  refine dr_nest (fun c (s : Int32) => s + dr_b (dr_cnt S false lim c)) 0 16 16 (fun n j s => wY_gaps_29 post lim cn le ri bo tp sy n s (nI j))
    (fun n j m i s => wY_gaps_39 post (wY_gaps_29 post lim cn le ri bo tp sy n) lim (nI j) cn le ri bo tp sy m s (nI i)) ?_ ?_ ?_ ?_
  · exact fun n => br_t dr_end h
  · exact fun n j s hj hB => br_f (dr_go hj) hB
  · exact fun n j m s hj hA => br_t dr_end (nm_r (nI_1 j) hA)
  · intro n j m i s hj hi hB
    try dsimp only at hB
    rw [dr_yg_eq hi hj] at hB
    refine br_f (dr_go hi) (dy_inN hs hi hj (dr_if (fun a => ?_) (fun a => dy_between hs (dr_if (fun b => ?_) (fun b => dy_between hs (dr_if (fun c => ?_) (fun c => ?_)))))))
    · rw [a, show (!true) = false from rfl, Bool.false_and, dr_z] at hB
      exact nm_r (nI_1 i) hB
    · rw [a, b] at hB
      exact nm_e (nm_r (nI_1 i) hB)
    · rw [a, b, c] at hB
      exact nm_e (nm_r (nI_1 i) hB)
    · rw [a, b, c, show (!false && (false || false)) = false from rfl, dr_z] at hB
      exact nm_r (nI_1 i) hB
end
section
/-! the reference's enclosure -/
theorem dr_scanP (p : Nat → Prop) (e : Nat) (A : Nat → Nat → Prop)
    (hx : (∀ k, k < e → ¬ p k) → ∀ n, A (n + 1) e)
    (ht : ∀ n i, i < e → (∀ k, k < i → ¬ p k) → p i → A (n + 1) i)
    (hf : ∀ n i, i < e → ¬ p i → A n (i + 1) → A (n + 1) i) : ∃ n, A n 0 := by
  have a : ∀ d i, i + d = e → (∀ k, k < i → ¬ p k) → A (d + 1) i := by
    intro d
    induction d with
    | zero =>
      intro i hi hk
      have z : i = e := by omega
      rw [z]
      rw [z] at hk
      exact hx hk 0
    | succ d ih =>
      intro i hi hk
      by_cases hp : p i
      · exact ht (d + 1) i (by omega) hk hp
      · exact hf (d + 1) i (by omega) hp (ih (i + 1) (by omega) (lt_s hk hp))
  exact ⟨e + 1, a e 0 (by omega) (fun k hk => absurd hk (Nat.not_lt_zero k))⟩
theorem dr_sq0 (i m : Nat) : nI i - nI m = nI i - nI m + nI 0 := by rw [nI_0, Int32.add_zero]
theorem dr_sq1 (i m s : Nat) : nI i - nI m + nI s + 1 = nI i - nI m + nI (s + 1) := by rw [Int32.add_assoc, nI_1]
theorem dy_around {post : Int32 → Prop} {cn le ri bo tp sy : Nat → Int32} {S : Nat → Bool} {i j m : Nat} (hs : ∀ k, k < 256 → sy k = dr_b (S k)) (hi : i < 16) (hj : j < 16) (hm : m < 9)
    (h0 : ∀ t s, t < 2 * m + 1 → s < 2 * m + 1 → dr_hole S i j m t s = true → post 0)
    (h1 : (∀ t s, t < 2 * m + 1 → s < 2 * m + 1 → dr_hole S i j m t s = false) → post 1) {x y : Int32} (ex : x = nI i) (ey : y = nI j) : wpY_around post (cn, le, ri, bo, tp, sy) x y (nI m) := by
  subst ex ey
  unfold wpY_around
  try dsimp only
  refine nm_r (dr_sq0 j m) ?_
  refine dr_scan2 (dr_hole S i j m) (2 * m + 1) (2 * m + 1) (fun n t => wY_around_5 post (nI i) (nI j) (nI m) cn le ri bo tp sy n (nI j - nI m + nI t))
    (fun n t k s => wY_around_18 post (wY_around_5 post (nI i) (nI j) (nI m) cn le ri bo tp sy n) (nI i) (nI j) (nI m) (nI j - nI m + nI t) cn le ri bo tp sy k (nI i - nI m + nI s)) ?_ ?_ ?_ ?_ ?_
  · exact fun hk n => br_t (dr_sqE hj hm rfl) (h1 hk)
  · exact fun n t ht hB => br_f (dr_sqC hj hm (by omega)) (nm_r (dr_sq0 i m) hB)
  · exact fun n t k ht hA => br_t (dr_sqE hi hm rfl) (nm_r (dr_sq1 j m t) hA)
  · intro n t k s ht hs' hp
    have z := h0 t s ht hs' hp
    unfold dr_hole at hp
    rw [Bool.and_eq_true] at hp
    obtain ⟨c1, c2⟩ := hp
    unfold dr_cell at c1
    rw [Bool.and_eq_true] at c1
    have a1 := of_decide_eq_true c1.1
    have a2 := of_decide_eq_true c1.2
    refine br_f (dr_sqC hi hm (by omega)) (br_f a1.1 (br_f (fun w => a1.2 ((dr_15 _).mp w)) (br_f a2.1 (br_f (fun w => a2.2 ((dr_15 _).mp w)) (dy_in hs (dr_if (fun f => ?_) (fun _ => z)))))))
    rw [f] at c2
    exact absurd c2 (by decide)
  · intro n t k s ht hs' hp hB
    have go : ∀ x, x = nI i - nI m + nI s + 1 → wY_around_18 post (wY_around_5 post (nI i) (nI j) (nI m) cn le ri bo tp sy n) (nI i) (nI j) (nI m) (nI j - nI m + nI t) cn le ri bo tp sy k x := nm_r (dr_sq1 i m s) hB
    refine br_f (dr_sqC hi hm (by omega)) (br_c (fun _ => go) (fun a => br_c (fun _ => go) (fun b => br_c (fun _ => go) (fun c => br_c (fun _ => go) (fun d => dy_in hs (dr_if (fun _ => go) (fun f => ?_)))))))
    unfold dr_hole at hp
    rw [f, dr_cell_t (dr_ax_t a (fun z => b ((dr_15 _).mpr z))) (dr_ax_t c (fun z => d ((dr_15 _).mpr z)))] at hp
    exact absurd hp (by decide)
theorem dy_encl {post : Int32 → Prop} {cn le ri bo tp sy : Nat → Int32} {P : Nat → Int32 → Int32 → Bool} {S : Nat → Bool} {b m : Nat} (H : dr_HY cn le ri bo tp P) (hs : ∀ k, k < 256 → sy k = dr_b (S k)) (hb : b < 3) (hm : m < 9)
    (h0 : dr_bad S (dr_L P b) m → post 0) (h1 : ¬ dr_bad S (dr_L P b) m → post 1) : wpY_encloses post (cn, le, ri, bo, tp, sy) (nI b) (nI m) := by
  unfold wpY_encloses
  try dsimp only
  refine dr_scanP (fun d => dr_L P b d = true ∧ ∃ c, c < 256 ∧ S c = false ∧ dr_ds c d ≤ m) 256 (fun n d => wY_encloses_2 post (nI b) (nI m) cn le ri bo tp sy n (nI d)) ?_ ?_ ?_
  · intro hk n
    refine br_t dr_end256 (h1 ?_)
    intro ⟨c, d, hc, hd, ha, hb, hm⟩
    exact hk d hd ⟨hb, c, hc, ha, hm⟩
  · intro n d hd _ hp
    obtain ⟨hB, c, hc, hS, hds⟩ := hp
    refine br_f (dr_go256 hd) ⟨by decide, by decide, dy_has H hb (dr_rm hd) (dr_dv hd) (dr_if (fun _ => ⟨by decide, by decide, dy_around hs (i := d % 16) (j := d / 16) (by omega) (by omega) hm (fun t s ht hs' hh => ?_) (fun hn => ?_) (dr_rm hd) (dr_dv hd)⟩) (fun z => ?_))⟩
    · exact br_t rfl (h0 ⟨c, d, hc, hd, hS, hB, hds⟩)
    · obtain ⟨t, s, ht, hs', hh⟩ := dr_hole_to hc hd hS hds
      rw [hn t s ht hs'] at hh
      exact absurd hh (by decide)
    · have z' : dr_L P b d = false := z
      rw [hB] at z'
      exact absurd z' (by decide)
  · intro n d hd hp hA
    refine br_f (dr_go256 hd) ⟨by decide, by decide, dy_has H hb (dr_rm hd) (dr_dv hd) (dr_if (fun z => ⟨by decide, by decide, dy_around hs (i := d % 16) (j := d / 16) (by omega) (by omega) hm (fun t s ht hs' hh => ?_) (fun hn => ?_) (dr_rm hd) (dr_dv hd)⟩) (fun z => nm_r (nI_1 d) hA))⟩
    · obtain ⟨c, hc, hS, hds⟩ := dr_hole_of hd hm (by omega) (by omega) hh
      exact absurd ⟨z, c, hc, hS, hds⟩ hp
    · exact br_f (by decide) (nm_r (nI_1 d) hA)
theorem dy_enc {post : Int32 → SY → Prop} {cn le ri bo tp sy : Nat → Int32} {P : Nat → Int32 → Int32 → Bool} {S : Nat → Bool} {b : Nat} (H : dr_HY cn le ri bo tp P) (hs : ∀ k, k < 256 → sy k = dr_b (S k)) (hb : b < 3)
    (h : post (nI (dr_R S (dr_L P b)) - 1) (cn, le, ri, bo, tp, sy)) : ∃ n, wY_enclosure_23 post (nI b) cn le ri bo tp sy n 0 := by
  have R := dr_R_all S (dr_L P b)
  refine dr_scanP (dr_bad S (dr_L P b)) 9 (fun n m => wY_enclosure_23 post (nI b) cn le ri bo tp sy n (nI m)) ?_ ?_ ?_
  · intro hk n
    have e : dr_R S (dr_L P b) = 9 := by
      by_cases z : dr_R S (dr_L P b) ≤ 8
      · exact absurd (dr_bad_R z) (hk _ (by omega))
      · omega
    rw [e] at h
    exact br_t (by decide) h
  · intro n m hm hk hp
    have e : dr_R S (dr_L P b) = m := by
      by_cases z : m < dr_R S (dr_L P b)
      · exact absurd hp (dr_bad_lt z)
      · by_cases y : dr_R S (dr_L P b) < m
        · exact absurd (dr_bad_R (by omega)) (hk _ y)
        · omega
    rw [e] at h
    exact br_f (nI_nlt (a := 8) (by omega) (by decide)) (dy_encl H hs hb hm (fun _ => br_t rfl h) (fun z => absurd hp z))
  · intro n m hm hp hA
    exact br_f (nI_nlt (a := 8) (by omega) (by decide)) (dy_encl H hs hb hm (fun z => absurd z hp) (fun _ => br_f (by decide) (nm_r (nI_1 m) hA)))
end
section
/-! add and drop, each side -/
theorem dx_addT {post : Int32 → SX → Prop} {cn cs rs sx : Nat → Int32} {l m : Nat} {x y : Int32} (hl : l < 3) (hn : cn l = nI m) (hm : m < 10) (s1 : dr_spn x = true) (s2 : dr_spn y = true)
    (h : post (nI (m + 1)) (upd cn l (nI (m + 1)), upd cs (10 * l + m) x, upd rs (10 * l + m) y, sx)) : wpX_add post (cn, cs, rs, sx) (nI l) x y := by
  have hv : vp_in (nI l) 3 := vp_in_nI hl (by decide)
  have hcl : (nI l).toNatClampNeg = l := nI_clamp (by omega)
  have he : nI l * 10 + cn (nI l).toNatClampNeg = nI (10 * l + m) := by rw [hcl, hn, dr_m10, nI_add]
  have hv2 : vp_in (nI (10 * l + m)) 30 := vp_in_nI (by omega) (by decide)
  have hc2 : (nI (10 * l + m)).toNatClampNeg = 10 * l + m := nI_clamp (by omega)
  unfold wpX_add
  try dsimp only
  refine dx_isLayer (dr_if (fun _ => dx_isSpan (dr_if (fun _ => dx_isSpan (dr_if (fun _ => ⟨hv, br_t ?_ ⟨hv, nm_r he ⟨hv2, nm_r (e' := upd cs (10 * l + m) x) ?_ ⟨hv2, nm_r (e' := upd rs (10 * l + m) y) ?_ ⟨hv, hv, nm_r (e' := upd cn l (nI (m + 1))) ?_ ⟨hv, ?_⟩⟩⟩⟩⟩⟩) (fun z => ?_))) (fun z => ?_))) (fun z => ?_))
  · rw [hcl, hn]
    exact nI_lt (b := 10) hm (by decide)
  · rw [hc2]
  · rw [hc2]
  · rw [hcl, hn, nI_1]
  · rw [hcl, pk_us]
    exact h
  · rw [s2] at z
    exact absurd z (by decide)
  · rw [s1] at z
    exact absurd z (by decide)
  · rw [dr_lay_n hl] at z
    exact absurd z (by decide)
theorem dx_addF {post : Int32 → SX → Prop} {cn cs rs sx : Nat → Int32} {l : Nat} {x y : Int32} (hl : l < 3) (hn : cn l = nI 10) (s1 : dr_spn x = true) (s2 : dr_spn y = true)
    (h : post (-3) (cn, cs, rs, sx)) : wpX_add post (cn, cs, rs, sx) (nI l) x y := by
  have hv : vp_in (nI l) 3 := vp_in_nI hl (by decide)
  have hcl : (nI l).toNatClampNeg = l := nI_clamp (by omega)
  unfold wpX_add
  try dsimp only
  refine dx_isLayer (dr_if (fun _ => dx_isSpan (dr_if (fun _ => dx_isSpan (dr_if (fun _ => ⟨hv, br_f ?_ h⟩) (fun z => ?_))) (fun z => ?_))) (fun z => ?_))
  · rw [hcl, hn]
    decide
  · rw [s2] at z
    exact absurd z (by decide)
  · rw [s1] at z
    exact absurd z (by decide)
  · rw [dr_lay_n hl] at z
    exact absurd z (by decide)
theorem dx_addB {post : Int32 → SX → Prop} {cn cs rs sx : Nat → Int32} {l x y : Int32} (hb : dr_lay l = false ∨ dr_spn x = false ∨ dr_spn y = false)
    (h : post (-2) (cn, cs, rs, sx)) : wpX_add post (cn, cs, rs, sx) l x y := by
  unfold wpX_add
  try dsimp only
  refine dx_isLayer (dr_if (fun a => dx_isSpan (dr_if (fun b => dx_isSpan (dr_if (fun c => ?_) (fun _ => h))) (fun _ => h))) (fun _ => h))
  rcases hb with z | z | z
  · rw [a] at z
    exact absurd z (by decide)
  · rw [b] at z
    exact absurd z (by decide)
  · rw [c] at z
    exact absurd z (by decide)
theorem dy_addT {post : Int32 → SY → Prop} {cn le ri bo tp sy : Nat → Int32} {l m : Nat} {x y : Int32} (hl : l < 3) (hn : cn l = nI m) (hm : m < 10) (s1 : dr_spn x = true) (s2 : dr_spn y = true)
    (h : post (nI (m + 1)) (upd cn l (nI (m + 1)), upd le (10 * l + m) (x / 32), upd ri (10 * l + m) (x - x / 32 * 32), upd bo (10 * l + m) (y / 32), upd tp (10 * l + m) (y - y / 32 * 32), sy)) : wpY_add post (cn, le, ri, bo, tp, sy) (nI l) x y := by
  have hv : vp_in (nI l) 3 := vp_in_nI hl (by decide)
  have hcl : (nI l).toNatClampNeg = l := nI_clamp (by omega)
  have he : 10 * nI l + cn (nI l).toNatClampNeg = nI (10 * l + m) := by rw [hcl, hn, dr_10m, nI_add]
  have hv2 : vp_in (nI (10 * l + m)) 30 := vp_in_nI (by omega) (by decide)
  have hc2 : (nI (10 * l + m)).toNatClampNeg = 10 * l + m := nI_clamp (by omega)
  have t1 := of_decide_eq_true s1
  have t2 := of_decide_eq_true s2
  unfold wpY_add
  try dsimp only
  refine dy_isLayer (dr_if (fun _ => br_f t1.1 (br_t (Int32.not_lt.mp t2.1) ⟨by decide, by decide, br_f t1.2.1 ⟨by decide, br_f t1.2.2 ⟨by decide, by decide, br_f t2.2.1 ⟨by decide, br_t (Int32.not_lt.mp t2.2.2) ⟨hv, br_f ?_ ⟨hv, nm_r he ⟨by decide, hv2, nm_r (e' := upd le (10 * l + m) (x / 32)) ?_ ⟨by decide, hv2, nm_r (e' := upd ri (10 * l + m) (x - x / 32 * 32)) ?_ ⟨by decide, hv2, nm_r (e' := upd bo (10 * l + m) (y / 32)) ?_ ⟨by decide, hv2, nm_r (e' := upd tp (10 * l + m) (y - y / 32 * 32)) ?_ ⟨hv, hv, nm_r (e' := upd cn l (nI (m + 1))) ?_ ⟨hv, ?_⟩⟩⟩⟩⟩⟩⟩⟩⟩⟩⟩⟩)) (fun z => ?_))
  · rw [hcl, hn]
    intro z
    have z' := (nI_eq (b := 10) (by omega) (by decide)).mp z
    omega
  · rw [hc2]
  · rw [hc2]
  · rw [hc2]
  · rw [hc2]
  · rw [hcl, hn, nI_1]
  · rw [hcl, pk_us]
    exact h
  · rw [dr_lay_n hl] at z
    exact absurd z (by decide)
theorem dy_addF {post : Int32 → SY → Prop} {cn le ri bo tp sy : Nat → Int32} {l : Nat} {x y : Int32} (hl : l < 3) (hn : cn l = nI 10) (s1 : dr_spn x = true) (s2 : dr_spn y = true)
    (h : post (-3) (cn, le, ri, bo, tp, sy)) : wpY_add post (cn, le, ri, bo, tp, sy) (nI l) x y := by
  have hv : vp_in (nI l) 3 := vp_in_nI hl (by decide)
  have hcl : (nI l).toNatClampNeg = l := nI_clamp (by omega)
  have t1 := of_decide_eq_true s1
  have t2 := of_decide_eq_true s2
  unfold wpY_add
  try dsimp only
  refine dy_isLayer (dr_if (fun _ => br_f t1.1 (br_t (Int32.not_lt.mp t2.1) ⟨by decide, by decide, br_f t1.2.1 ⟨by decide, br_f t1.2.2 ⟨by decide, by decide, br_f t2.2.1 ⟨by decide, br_t (Int32.not_lt.mp t2.2.2) ⟨hv, br_t ?_ h⟩⟩⟩⟩⟩)) (fun z => ?_))
  · rw [hcl, hn]
    rfl
  · rw [dr_lay_n hl] at z
    exact absurd z (by decide)
theorem dy_addB {post : Int32 → SY → Prop} {cn le ri bo tp sy : Nat → Int32} {l x y : Int32} (hb : dr_lay l = false ∨ dr_spn x = false ∨ dr_spn y = false)
    (h : post (-2) (cn, le, ri, bo, tp, sy)) : wpY_add post (cn, le, ri, bo, tp, sy) l x y := by
  unfold wpY_add
  try dsimp only
  refine dy_isLayer (dr_if (fun a => br_c (fun _ => h) (fun b => br_c (fun c => ⟨by decide, by decide, br_c (fun _ => h) (fun d => ⟨by decide, br_c (fun _ => h) (fun e => ⟨by decide, by decide, br_c (fun _ => h) (fun f => ⟨by decide, br_c (fun g => ?_) (fun _ => h)⟩)⟩)⟩)⟩) (fun _ => h))) (fun _ => h))
  have q1 : dr_spn x = true := decide_eq_true ⟨b, d, e⟩
  have q2 : dr_spn y = true := decide_eq_true ⟨Int32.not_lt.mpr c, f, Int32.not_lt.mpr g⟩
  rcases hb with z | z | z
  · rw [a] at z
    exact absurd z (by decide)
  · rw [q1] at z
    exact absurd z (by decide)
  · rw [q2] at z
    exact absurd z (by decide)
theorem dx_drop36 {post : Int32 → SX → Prop} {cn cs rs sx : Nat → Int32} {l m : Nat} (hl : l < 3) (hm : m < 10)
    (h : post (nI m) (upd cn l (nI m), dr_shf cs (10 * l) m, dr_shf rs (10 * l) m, sx)) : ∃ n, wX_drop_36 post (nI l) (nI m) (nI (10 * l)) n 0 cn cs rs sx := by
  have key : ∃ n, wX_drop_36 post (nI l) (nI m) (nI (10 * l)) n (nI 0) cn (dr_shf cs (10 * l) 0) (dr_shf rs (10 * l) 0) sx := by
    refine dr_up m (fun n k => wX_drop_36 post (nI l) (nI m) (nI (10 * l)) n (nI k) cn (dr_shf cs (10 * l) k) (dr_shf rs (10 * l) k) sx) ?_ ?_
    · exact fun n => br_t (Int32.le_refl _) ⟨vp_in_nI hl (by decide), nm_r (e' := upd cn l (nI m)) (by rw [nI_clamp (by omega)]) h⟩
    · intro n k hk hA
      have v1 : vp_in (nI (10 * l) + nI k + 1) 30 := by
        rw [nI_add, nI_1]
        exact vp_in_nI (by omega) (by decide)
      have v2 : vp_in (nI (10 * l) + nI k) 30 := by
        rw [nI_add]
        exact vp_in_nI (by omega) (by decide)
      have c1 : (nI (10 * l) + nI k + 1).toNatClampNeg = 10 * l + k + 1 := by
        rw [nI_add, nI_1]
        exact nI_clamp (by omega)
      have c2 : (nI (10 * l) + nI k).toNatClampNeg = 10 * l + k := by
        rw [nI_add]
        exact nI_clamp (by omega)
      refine br_f (nI_ge hk (by omega)) ⟨v1, v2, nm_r (e' := dr_shf cs (10 * l) (k + 1)) ?_ ⟨v1, v2, nm_r (e' := dr_shf rs (10 * l) (k + 1)) ?_ (nm_r (nI_1 k) hA)⟩⟩
      · rw [c1, c2, dr_shf_s]
      · rw [c1, c2, dr_shf_s]
  obtain ⟨n, hn⟩ := key
  rw [dr_shf_0, dr_shf_0] at hn
  exact ⟨n, hn⟩
theorem dy_drop25 {post : Int32 → SY → Prop} {cn le ri bo tp sy : Nat → Int32} {l m : Nat} (hl : l < 3) (hm : m < 10) (hn : cn l = nI (m + 1))
    (h : post (nI m) (upd cn l (nI m), dr_shf le (10 * l) 9, dr_shf ri (10 * l) 9, dr_shf bo (10 * l) 9, dr_shf tp (10 * l) 9, sy)) : ∃ n, wY_drop_25 post (nI l) n (nI (10 * l)) cn le ri bo tp sy := by
  have hv : vp_in (nI l) 3 := vp_in_nI hl (by decide)
  have hcl : (nI l).toNatClampNeg = l := nI_clamp (by omega)
  have e9 : 10 * nI l + 9 = nI (10 * l + 9) := by rw [dr_10m, show (9 : Int32) = nI 9 from rfl, nI_add]
  have key : ∃ n, wY_drop_25 post (nI l) n (nI (10 * l + 0)) cn (dr_shf le (10 * l) 0) (dr_shf ri (10 * l) 0) (dr_shf bo (10 * l) 0) (dr_shf tp (10 * l) 0) sy := by
    refine dr_up 9 (fun n k => wY_drop_25 post (nI l) n (nI (10 * l + k)) cn (dr_shf le (10 * l) k) (dr_shf ri (10 * l) k) (dr_shf bo (10 * l) k) (dr_shf tp (10 * l) k) sy) ?_ ?_
    · intro n
      refine br_t (by rw [e9]; exact Int32.le_refl _) ⟨hv, hv, nm_r (e' := upd cn l (nI m)) ?_ ⟨hv, ?_⟩⟩
      · rw [hcl, hn, nI_pred]
      · rw [hcl, pk_us]
        exact h
    · intro n k hk hA
      have v1 : vp_in (nI (10 * l + k) + 1) 30 := by
        rw [nI_1]
        exact vp_in_nI (by omega) (by decide)
      have v2 : vp_in (nI (10 * l + k)) 30 := vp_in_nI (by omega) (by decide)
      have c1 : (nI (10 * l + k) + 1).toNatClampNeg = 10 * l + k + 1 := by
        rw [nI_1]
        exact nI_clamp (by omega)
      have c2 : (nI (10 * l + k)).toNatClampNeg = 10 * l + k := nI_clamp (by omega)
      refine br_f (by rw [e9]; exact nI_ge (by omega) (by omega)) ⟨v1, v2, nm_r (e' := dr_shf le (10 * l) (k + 1)) ?_ ⟨v1, v2, nm_r (e' := dr_shf ri (10 * l) (k + 1)) ?_ ⟨v1, v2, nm_r (e' := dr_shf bo (10 * l) (k + 1)) ?_ ⟨v1, v2, nm_r (e' := dr_shf tp (10 * l) (k + 1)) ?_ (nm_r (nI_1 (10 * l + k)) hA)⟩⟩⟩⟩
      · rw [c1, c2, dr_shf_s]
      · rw [c1, c2, dr_shf_s]
      · rw [c1, c2, dr_shf_s]
      · rw [c1, c2, dr_shf_s]
  obtain ⟨n, hn⟩ := key
  rw [dr_shf_0, dr_shf_0, dr_shf_0, dr_shf_0] at hn
  exact ⟨n, hn⟩
end
section
/-! each question, whole, each side -/
theorem dr_com_n {h a b : Nat} (x : h < 3) (y : a < 3) (z : b < 3) : dr_com (nI h) (nI a) (nI b) = true :=
  dr_com_t (decide_eq_true ⟨nI_pos (by omega), nI_nlt (a := 2) (by omega) (by decide)⟩) (dr_lay_n y) (dr_lay_n z)
theorem dx_areaT {post : Int32 → SX → Prop} {cn cs rs sx : Nat → Int32} {P : Nat → Int32 → Int32 → Bool} {how a b : Nat} (H : dr_HX cn cs rs P) (hh : how < 3) (ha : a < 3) (hb : b < 3)
    (h : ∀ sx' : Nat → Int32, post (dr_it (fun c (s : Int32) => s + dr_b (dr_S P how a b c)) 0 256) (cn, cs, rs, sx')) : wpX_area post (cn, cs, rs, sx) (nI how) (nI a) (nI b) := by
  unfold wpX_area
  try dsimp only
  refine dx_isCom (dr_if (fun _ => dx_fill H hh ha hb (fun sx' hs => dx_area25 hs (h sx'))) (fun z => ?_))
  rw [dr_com_n hh ha hb] at z
  exact absurd z (by decide)
theorem dx_areaF {post : Int32 → SX → Prop} {cn cs rs sx : Nat → Int32} {how a b : Int32} (hc : dr_com how a b = false)
    (h : post (-2) (cn, cs, rs, sx)) : wpX_area post (cn, cs, rs, sx) how a b := by
  unfold wpX_area
  try dsimp only
  refine dx_isCom (dr_if (fun z => ?_) (fun _ => h))
  rw [hc] at z
  exact absurd z (by decide)
theorem dy_areaT {post : Int32 → SY → Prop} {cn le ri bo tp sy : Nat → Int32} {P : Nat → Int32 → Int32 → Bool} {how a b : Nat} (H : dr_HY cn le ri bo tp P) (hh : how < 3) (ha : a < 3) (hb : b < 3)
    (h : ∀ sy' : Nat → Int32, post (dr_it (fun c (s : Int32) => s + dr_b (dr_S P how a b c)) 0 256) (cn, le, ri, bo, tp, sy')) : wpY_area post (cn, le, ri, bo, tp, sy) (nI how) (nI a) (nI b) := by
  unfold wpY_area
  try dsimp only
  exact dy_comb H hh ha hb (fun sy' hs => br_f (by decide) (dy_area19 hs (h sy')))
theorem dy_areaF {post : Int32 → SY → Prop} {cn le ri bo tp sy : Nat → Int32} {how a b : Int32} (hc : dr_com how a b = false)
    (h : post (-2) (cn, le, ri, bo, tp, sy)) : wpY_area post (cn, le, ri, bo, tp, sy) how a b := by
  unfold wpY_area
  try dsimp only
  exact dy_comb0 hc (br_t rfl h)
theorem dx_outlineT {post : Int32 → SX → Prop} {cn cs rs sx : Nat → Int32} {P : Nat → Int32 → Int32 → Bool} {how a b : Nat} (H : dr_HX cn cs rs P) (hh : how < 3) (ha : a < 3) (hb : b < 3)
    (h : ∀ sx' : Nat → Int32, post (dr_it (dr_oc (dr_S P how a b)) 0 256) (cn, cs, rs, sx')) : wpX_outline post (cn, cs, rs, sx) (nI how) (nI a) (nI b) := by
  unfold wpX_outline
  try dsimp only
  refine dx_isCom (dr_if (fun _ => dx_fill H hh ha hb (fun sx' hs => dx_outline25 hs (h sx'))) (fun z => ?_))
  rw [dr_com_n hh ha hb] at z
  exact absurd z (by decide)
theorem dx_outlineF {post : Int32 → SX → Prop} {cn cs rs sx : Nat → Int32} {how a b : Int32} (hc : dr_com how a b = false)
    (h : post (-2) (cn, cs, rs, sx)) : wpX_outline post (cn, cs, rs, sx) how a b := by
  unfold wpX_outline
  try dsimp only
  refine dx_isCom (dr_if (fun z => ?_) (fun _ => h))
  rw [hc] at z
  exact absurd z (by decide)
theorem dy_outlineT {post : Int32 → SY → Prop} {cn le ri bo tp sy : Nat → Int32} {P : Nat → Int32 → Int32 → Bool} {how a b : Nat} (H : dr_HY cn le ri bo tp P) (hh : how < 3) (ha : a < 3) (hb : b < 3)
    (h : ∀ sy' : Nat → Int32, post (dr_it (dr_oc (dr_S P how a b)) 0 256) (cn, le, ri, bo, tp, sy')) : wpY_outline post (cn, le, ri, bo, tp, sy) (nI how) (nI a) (nI b) := by
  unfold wpY_outline
  try dsimp only
  exact dy_comb H hh ha hb (fun sy' hs => br_f (by decide) (dy_outline19 hs (h sy')))
theorem dy_outlineF {post : Int32 → SY → Prop} {cn le ri bo tp sy : Nat → Int32} {how a b : Int32} (hc : dr_com how a b = false)
    (h : post (-2) (cn, le, ri, bo, tp, sy)) : wpY_outline post (cn, le, ri, bo, tp, sy) how a b := by
  unfold wpY_outline
  try dsimp only
  exact dy_comb0 hc (br_t rfl h)
theorem dx_cornersT {post : Int32 → SX → Prop} {cn cs rs sx : Nat → Int32} {P : Nat → Int32 → Int32 → Bool} {how a b : Nat} (H : dr_HX cn cs rs P) (hh : how < 3) (ha : a < 3) (hb : b < 3)
    (h : ∀ sx' : Nat → Int32, post (dr_it (dr_kc (dr_S P how a b)) 0 289) (cn, cs, rs, sx')) : wpX_corners post (cn, cs, rs, sx) (nI how) (nI a) (nI b) := by
  unfold wpX_corners
  try dsimp only
  refine dx_isCom (dr_if (fun _ => dx_fill H hh ha hb (fun sx' hs => dx_corners25 hs (h sx'))) (fun z => ?_))
  rw [dr_com_n hh ha hb] at z
  exact absurd z (by decide)
theorem dx_cornersF {post : Int32 → SX → Prop} {cn cs rs sx : Nat → Int32} {how a b : Int32} (hc : dr_com how a b = false)
    (h : post (-2) (cn, cs, rs, sx)) : wpX_corners post (cn, cs, rs, sx) how a b := by
  unfold wpX_corners
  try dsimp only
  refine dx_isCom (dr_if (fun z => ?_) (fun _ => h))
  rw [hc] at z
  exact absurd z (by decide)
theorem dy_cornersT {post : Int32 → SY → Prop} {cn le ri bo tp sy : Nat → Int32} {P : Nat → Int32 → Int32 → Bool} {how a b : Nat} (H : dr_HY cn le ri bo tp P) (hh : how < 3) (ha : a < 3) (hb : b < 3)
    (h : ∀ sy' : Nat → Int32, post (dr_it (dr_kc (dr_S P how a b)) 0 289) (cn, le, ri, bo, tp, sy')) : wpY_corners post (cn, le, ri, bo, tp, sy) (nI how) (nI a) (nI b) := by
  unfold wpY_corners
  try dsimp only
  exact dy_comb H hh ha hb (fun sy' hs => br_f (by decide) (dy_corners19 hs (h sy')))
theorem dy_cornersF {post : Int32 → SY → Prop} {cn le ri bo tp sy : Nat → Int32} {how a b : Int32} (hc : dr_com how a b = false)
    (h : post (-2) (cn, le, ri, bo, tp, sy)) : wpY_corners post (cn, le, ri, bo, tp, sy) how a b := by
  unfold wpY_corners
  try dsimp only
  exact dy_comb0 hc (br_t rfl h)
theorem dx_thinT {post : Int32 → SX → Prop} {cn cs rs sx : Nat → Int32} {P : Nat → Int32 → Int32 → Bool} {l : Nat} {w : Int32} (H : dr_HX cn cs rs P) (hl : l < 3) (hw : dr_rul w = true)
    (h : ∀ sx' : Nat → Int32, post (dr_it (fun c (s : Int32) => s + dr_b (dr_cnt (dr_L P l) true w c)) 0 256) (cn, cs, rs, sx')) : wpX_thin post (cn, cs, rs, sx) (nI l) w := by
  unfold wpX_thin
  try dsimp only
  refine dx_isLayer (dr_if (fun _ => dx_isRule (dr_if (fun _ => dx_fill (how := 1) H (by decide) hl hl (fun sx' hs => dx_runs (v := true) (S := dr_L P l) (fun k hk => ?_) (h sx'))) (fun z => ?_))) (fun z => ?_))
  · exact (hs k hk).trans (by rw [dr_S_1]; rfl)
  · rw [hw] at z
    exact absurd z (by decide)
  · rw [dr_lay_n hl] at z
    exact absurd z (by decide)
theorem dx_thinF {post : Int32 → SX → Prop} {cn cs rs sx : Nat → Int32} {l w : Int32} (hb : dr_lay l = false ∨ dr_rul w = false)
    (h : post (-2) (cn, cs, rs, sx)) : wpX_thin post (cn, cs, rs, sx) l w := by
  unfold wpX_thin
  try dsimp only
  refine dx_isLayer (dr_if (fun a => dx_isRule (dr_if (fun b => ?_) (fun _ => h))) (fun _ => h))
  rcases hb with z | z
  · rw [a] at z
    exact absurd z (by decide)
  · rw [b] at z
    exact absurd z (by decide)
theorem dy_thinT {post : Int32 → SY → Prop} {cn le ri bo tp sy : Nat → Int32} {P : Nat → Int32 → Int32 → Bool} {l : Nat} {w : Int32} (H : dr_HY cn le ri bo tp P) (hl : l < 3) (hw : dr_rul w = true)
    (h : ∀ sy' : Nat → Int32, post (dr_it (fun c (s : Int32) => s + dr_b (dr_cnt (dr_L P l) true w c)) 0 256) (cn, le, ri, bo, tp, sy')) : wpY_thin post (cn, le, ri, bo, tp, sy) (nI l) w := by
  have t := of_decide_eq_true hw
  unfold wpY_thin
  try dsimp only
  refine dy_comb (how := 0) H (by decide) hl hl (fun sy' hs => br_f (by decide) (br_f t.1 (br_t (Int32.not_lt.mp t.2) (dy_thin29 (S := dr_L P l) (fun k hk => ?_) (h sy')))))
  exact (hs k hk).trans (by rw [dr_S_0]; rfl)
theorem dy_thinL {post : Int32 → SY → Prop} {cn le ri bo tp sy : Nat → Int32} {l w : Int32} (hb : dr_lay l = false)
    (h : post (-2) (cn, le, ri, bo, tp, sy)) : wpY_thin post (cn, le, ri, bo, tp, sy) l w := by
  unfold wpY_thin
  try dsimp only
  exact dy_comb0 (dr_com_a hb) (br_t rfl h)
theorem dy_thinW {post : Int32 → SY → Prop} {cn le ri bo tp sy : Nat → Int32} {P : Nat → Int32 → Int32 → Bool} {l : Nat} {w : Int32} (H : dr_HY cn le ri bo tp P) (hl : l < 3) (hb : dr_rul w = false)
    (h : ∀ sy' : Nat → Int32, post (-2) (cn, le, ri, bo, tp, sy')) : wpY_thin post (cn, le, ri, bo, tp, sy) (nI l) w := by
  unfold wpY_thin
  try dsimp only
  refine dy_comb (how := 0) H (by decide) hl hl (fun sy' hs => br_f (by decide) (br_c (fun _ => h sy') (fun a => br_c (fun b => ?_) (fun _ => h sy'))))
  have q : dr_rul w = true := decide_eq_true ⟨a, Int32.not_lt.mpr b⟩
  rw [q] at hb
  exact absurd hb (by decide)
theorem dx_gapsT {post : Int32 → SX → Prop} {cn cs rs sx : Nat → Int32} {P : Nat → Int32 → Int32 → Bool} {l : Nat} {w : Int32} (H : dr_HX cn cs rs P) (hl : l < 3) (hw : dr_rul w = true)
    (h : ∀ sx' : Nat → Int32, post (dr_it (fun c (s : Int32) => s + dr_b (dr_cnt (dr_L P l) false w c)) 0 256) (cn, cs, rs, sx')) : wpX_gaps post (cn, cs, rs, sx) (nI l) w := by
  unfold wpX_gaps
  try dsimp only
  refine dx_isLayer (dr_if (fun _ => dx_isRule (dr_if (fun _ => dx_fill (how := 1) H (by decide) hl hl (fun sx' hs => dx_runs (v := false) (S := dr_L P l) (fun k hk => ?_) (h sx'))) (fun z => ?_))) (fun z => ?_))
  · exact (hs k hk).trans (by rw [dr_S_1]; rfl)
  · rw [hw] at z
    exact absurd z (by decide)
  · rw [dr_lay_n hl] at z
    exact absurd z (by decide)
theorem dx_gapsF {post : Int32 → SX → Prop} {cn cs rs sx : Nat → Int32} {l w : Int32} (hb : dr_lay l = false ∨ dr_rul w = false)
    (h : post (-2) (cn, cs, rs, sx)) : wpX_gaps post (cn, cs, rs, sx) l w := by
  unfold wpX_gaps
  try dsimp only
  refine dx_isLayer (dr_if (fun a => dx_isRule (dr_if (fun b => ?_) (fun _ => h))) (fun _ => h))
  rcases hb with z | z
  · rw [a] at z
    exact absurd z (by decide)
  · rw [b] at z
    exact absurd z (by decide)
theorem dy_gapsT {post : Int32 → SY → Prop} {cn le ri bo tp sy : Nat → Int32} {P : Nat → Int32 → Int32 → Bool} {l : Nat} {w : Int32} (H : dr_HY cn le ri bo tp P) (hl : l < 3) (hw : dr_rul w = true)
    (h : ∀ sy' : Nat → Int32, post (dr_it (fun c (s : Int32) => s + dr_b (dr_cnt (dr_L P l) false w c)) 0 256) (cn, le, ri, bo, tp, sy')) : wpY_gaps post (cn, le, ri, bo, tp, sy) (nI l) w := by
  have t := of_decide_eq_true hw
  unfold wpY_gaps
  try dsimp only
  refine dy_comb (how := 0) H (by decide) hl hl (fun sy' hs => br_f (by decide) (br_f t.1 (br_t (Int32.not_lt.mp t.2) (dy_gaps29 (S := dr_L P l) (fun k hk => ?_) (h sy')))))
  exact (hs k hk).trans (by rw [dr_S_0]; rfl)
theorem dy_gapsL {post : Int32 → SY → Prop} {cn le ri bo tp sy : Nat → Int32} {l w : Int32} (hb : dr_lay l = false)
    (h : post (-2) (cn, le, ri, bo, tp, sy)) : wpY_gaps post (cn, le, ri, bo, tp, sy) l w := by
  unfold wpY_gaps
  try dsimp only
  exact dy_comb0 (dr_com_a hb) (br_t rfl h)
theorem dy_gapsW {post : Int32 → SY → Prop} {cn le ri bo tp sy : Nat → Int32} {P : Nat → Int32 → Int32 → Bool} {l : Nat} {w : Int32} (H : dr_HY cn le ri bo tp P) (hl : l < 3) (hb : dr_rul w = false)
    (h : ∀ sy' : Nat → Int32, post (-2) (cn, le, ri, bo, tp, sy')) : wpY_gaps post (cn, le, ri, bo, tp, sy) (nI l) w := by
  unfold wpY_gaps
  try dsimp only
  refine dy_comb (how := 0) H (by decide) hl hl (fun sy' hs => br_f (by decide) (br_c (fun _ => h sy') (fun a => br_c (fun b => ?_) (fun _ => h sy'))))
  have q : dr_rul w = true := decide_eq_true ⟨a, Int32.not_lt.mpr b⟩
  rw [q] at hb
  exact absurd hb (by decide)
theorem dx_encT {post : Int32 → Prop} {cn cs rs sx : Nat → Int32} {P : Nat → Int32 → Int32 → Bool} {a b : Nat} (H : dr_HX cn cs rs P) (ha : a < 3) (hb : b < 3)
    (h : post (nI (dr_R (dr_L P a) (dr_L P b)) - 1)) : wpX_enclosure post (cn, cs, rs, sx) (nI a) (nI b) := by
  unfold wpX_enclosure
  try dsimp only
  refine dx_isLayer (dr_if (fun _ => dx_isLayer (dr_if (fun _ => dx_enc H ha hb h) (fun z => ?_))) (fun z => ?_))
  · rw [dr_lay_n hb] at z
    exact absurd z (by decide)
  · rw [dr_lay_n ha] at z
    exact absurd z (by decide)
theorem dx_encF {post : Int32 → Prop} {cn cs rs sx : Nat → Int32} {a b : Int32} (hb : dr_lay a = false ∨ dr_lay b = false) (h : post (-2)) : wpX_enclosure post (cn, cs, rs, sx) a b := by
  unfold wpX_enclosure
  try dsimp only
  refine dx_isLayer (dr_if (fun p => dx_isLayer (dr_if (fun q => ?_) (fun _ => h))) (fun _ => h))
  rcases hb with z | z
  · rw [p] at z
    exact absurd z (by decide)
  · rw [q] at z
    exact absurd z (by decide)
theorem dy_encT {post : Int32 → SY → Prop} {cn le ri bo tp sy : Nat → Int32} {P : Nat → Int32 → Int32 → Bool} {a b : Nat} (H : dr_HY cn le ri bo tp P) (ha : a < 3) (hb : b < 3)
    (h : ∀ sy' : Nat → Int32, post (nI (dr_R (dr_L P a) (dr_L P b)) - 1) (cn, le, ri, bo, tp, sy')) : wpY_enclosure post (cn, le, ri, bo, tp, sy) (nI a) (nI b) := by
  unfold wpY_enclosure
  try dsimp only
  refine dy_isLayer (dr_if (fun _ => dy_comb (how := 0) H (by decide) ha ha (fun sy' hs => br_f (by decide) (dy_enc (S := dr_L P a) H (fun k hk => ?_) hb (h sy')))) (fun z => ?_))
  · exact (hs k hk).trans (by rw [dr_S_0]; rfl)
  · rw [dr_lay_n hb] at z
    exact absurd z (by decide)
theorem dy_encF {post : Int32 → SY → Prop} {cn le ri bo tp sy : Nat → Int32} {a b : Int32} (hb : dr_lay a = false ∨ dr_lay b = false)
    (h : post (-2) (cn, le, ri, bo, tp, sy)) : wpY_enclosure post (cn, le, ri, bo, tp, sy) a b := by
  unfold wpY_enclosure
  try dsimp only
  refine dy_isLayer (dr_if (fun p => ?_) (fun _ => h))
  rcases hb with z | z
  · exact dy_comb0 (dr_com_a z) (br_t rfl h)
  · rw [p] at z
    exact absurd z (by decide)
end
section
/-! what is owed -/
def i_Rel (_ : Nat) (u : SX) (v : SY) : Prop := v.1 = u.1 ∧ dr_Rel u.1 u.2.1 u.2.2.1 v.2.1 v.2.2.1 v.2.2.2.1 v.2.2.2.2.1
theorem dr_mk {k : Nat} {cn cs rs sx le ri bo tp sy : Nat → Int32} (R : dr_Rel cn cs rs le ri bo tp) : i_Rel k (cn, cs, rs, sx) (cn, le, ri, bo, tp, sy) := And.intro rfl R
theorem dr_un {k : Nat} {u : SX} {v : SY} (I : i_Rel k u v) : ∃ cn cs rs sx le ri bo tp sy, u = (cn, cs, rs, sx) ∧ v = (cn, le, ri, bo, tp, sy) ∧ dr_Rel cn cs rs le ri bo tp := by
  obtain ⟨cn, cs, rs, sx⟩ := u
  obtain ⟨cn', le, ri, bo, tp, sy⟩ := v
  have e : cn' = cn := I.1
  subst e
  exact ⟨_, _, _, _, _, _, _, _, _, rfl, rfl, I.2⟩
theorem i_up {k : Nat} {u : SX} {v : SY} (h : i_Rel k u v) : i_Rel (k + 4) u v := h
theorem i_vc0 : wpX_init (fun u => wpY_init (fun v => i_Rel 0 u v)) := dr_mk (k := 0) dr_Rel_0
theorem i_vc_add {k : Nat} {u : SX} {v : SY} (I : i_Rel k u v) (hk : k + 4 ≤ 2048) (v1 : Int32) (v2 : Int32) (v3 : Int32) : wpX_add (fun r u' => wpY_add (fun r' v' => r' = r ∧ i_Rel (k + 4) u' v') v v1 v2 v3) u v1 v2 v3 := by
  obtain ⟨cn, cs, rs, sx, le, ri, bo, tp, sy, rfl, rfl, R⟩ := dr_un I
  cases h1 : dr_lay v1 with
  | false => exact dx_addB (Or.inl h1) (dy_addB (Or.inl h1) ⟨rfl, dr_mk R⟩)
  | true =>
    cases h2 : dr_spn v2 with
    | false => exact dx_addB (Or.inr (Or.inl h2)) (dy_addB (Or.inr (Or.inl h2)) ⟨rfl, dr_mk R⟩)
    | true =>
      cases h3 : dr_spn v3 with
      | false => exact dx_addB (Or.inr (Or.inr h3)) (dy_addB (Or.inr (Or.inr h3)) ⟨rfl, dr_mk R⟩)
      | true =>
        obtain ⟨l, hl, rfl⟩ := dr_lay_of h1
        obtain ⟨m, hm, hn⟩ := dr_Rel_cn R hl
        by_cases z : m < 10
        · exact dx_addT hl hn z h2 h3 (dy_addT hl hn z h2 h3 ⟨rfl, dr_mk (dr_Rel_add R hl hn z v2 v3)⟩)
        · have e : m = 10 := by omega
          rw [e] at hn
          exact dx_addF hl hn h2 h3 (dy_addF hl hn h2 h3 ⟨rfl, dr_mk R⟩)
theorem i_vc_drop {k : Nat} {u : SX} {v : SY} (I : i_Rel k u v) (hk : k + 4 ≤ 2048) (v1 : Int32) : wpX_drop (fun r u' => wpY_drop (fun r' v' => r' = r ∧ i_Rel (k + 4) u' v') v v1) u v1 := by
  obtain ⟨cn, cs, rs, sx, le, ri, bo, tp, sy, rfl, rfl, R⟩ := dr_un I
  unfold wpX_drop wpY_drop
  try dsimp only
  cases h1 : dr_lay v1 with
  | false =>
    refine dx_isLayer (dr_if (fun z => ?_) (fun _ => dy_isLayer (dr_if (fun z => ?_) (fun _ => ⟨rfl, dr_mk R⟩))))
    · rw [h1] at z
      exact absurd z (by decide)
    · rw [h1] at z
      exact absurd z (by decide)
  | true =>
    obtain ⟨l, hl, rfl⟩ := dr_lay_of h1
    obtain ⟨c, hc, hn⟩ := dr_Rel_cn R hl
    have hv : vp_in (nI l) 3 := vp_in_nI hl (by decide)
    have hcl : (nI l).toNatClampNeg = l := nI_clamp (by omega)
    cases c with
    | zero =>
      have e : cn (nI l).toNatClampNeg = 0 := by rw [hcl, hn]; rfl
      refine dx_isLayer (dr_if (fun _ => ⟨hv, br_t e (dy_isLayer (dr_if (fun _ => ⟨hv, br_t e ⟨rfl, dr_mk R⟩⟩) (fun z => ?_)))⟩) (fun z => ?_))
      · rw [h1] at z
        exact absurd z (by decide)
      · rw [h1] at z
        exact absurd z (by decide)
    | succ m =>
      have e : ¬ cn (nI l).toNatClampNeg = 0 := by rw [hcl, hn]; exact nI_ne0 (by omega) (by omega)
      have e1 : cn (nI l).toNatClampNeg - 1 = nI m := by rw [hcl, hn, nI_pred]
      refine dx_isLayer (dr_if (fun _ => ⟨hv, br_f e ⟨hv, nm_r e1 (nm_r (dr_m10 l) (dx_drop36 hl (by omega) (dy_isLayer (dr_if (fun _ => ⟨hv, br_f e (nm_r (dr_10m l) (dy_drop25 hl (by omega) hn ⟨rfl, dr_mk (dr_Rel_drop R hl hn (by omega))⟩))⟩) (fun z => ?_)))))⟩⟩) (fun z => ?_))
      · rw [h1] at z
        exact absurd z (by decide)
      · rw [h1] at z
        exact absurd z (by decide)
theorem i_vc_covers {k : Nat} {u : SX} {v : SY} (I : i_Rel k u v) (hk : k + 4 ≤ 2048) (v1 : Int32) (v2 : Int32) (v3 : Int32) : wpX_covers (fun r => wpY_covers (fun r' => r' = r ∧ i_Rel (k + 4) u v) v v1 v2 v3) u v1 v2 v3 := by
  obtain ⟨cn, cs, rs, sx, le, ri, bo, tp, sy, rfl, rfl, R⟩ := dr_un I
  obtain ⟨P, HX, HY⟩ := dr_Rel_P R
  cases h1 : dr_lay v1 with
  | false => exact dx_covers0 h1 (dy_covers0 h1 ⟨rfl, dr_mk R⟩)
  | true =>
    obtain ⟨l, hl, rfl⟩ := dr_lay_of h1
    exact dx_covers HX hl (dy_covers HY hl ⟨rfl, dr_mk R⟩)
theorem i_vc_area {k : Nat} {u : SX} {v : SY} (I : i_Rel k u v) (hk : k + 4 ≤ 2048) (v1 : Int32) (v2 : Int32) (v3 : Int32) : wpX_area (fun r u' => wpY_area (fun r' v' => r' = r ∧ i_Rel (k + 4) u' v') v v1 v2 v3) u v1 v2 v3 := by
  obtain ⟨cn, cs, rs, sx, le, ri, bo, tp, sy, rfl, rfl, R⟩ := dr_un I
  obtain ⟨P, HX, HY⟩ := dr_Rel_P R
  cases h1 : dr_com v1 v2 v3 with
  | false => exact dx_areaF h1 (dy_areaF h1 ⟨rfl, dr_mk R⟩)
  | true =>
    obtain ⟨how, a, b, hh, ha, hb, rfl, rfl, rfl⟩ := dr_com_of h1
    exact dx_areaT HX hh ha hb (fun sx' => dy_areaT HY hh ha hb (fun sy' => ⟨rfl, dr_mk R⟩))
theorem i_vc_outline {k : Nat} {u : SX} {v : SY} (I : i_Rel k u v) (hk : k + 4 ≤ 2048) (v1 : Int32) (v2 : Int32) (v3 : Int32) : wpX_outline (fun r u' => wpY_outline (fun r' v' => r' = r ∧ i_Rel (k + 4) u' v') v v1 v2 v3) u v1 v2 v3 := by
  obtain ⟨cn, cs, rs, sx, le, ri, bo, tp, sy, rfl, rfl, R⟩ := dr_un I
  obtain ⟨P, HX, HY⟩ := dr_Rel_P R
  cases h1 : dr_com v1 v2 v3 with
  | false => exact dx_outlineF h1 (dy_outlineF h1 ⟨rfl, dr_mk R⟩)
  | true =>
    obtain ⟨how, a, b, hh, ha, hb, rfl, rfl, rfl⟩ := dr_com_of h1
    exact dx_outlineT HX hh ha hb (fun sx' => dy_outlineT HY hh ha hb (fun sy' => ⟨rfl, dr_mk R⟩))
theorem i_vc_corners {k : Nat} {u : SX} {v : SY} (I : i_Rel k u v) (hk : k + 4 ≤ 2048) (v1 : Int32) (v2 : Int32) (v3 : Int32) : wpX_corners (fun r u' => wpY_corners (fun r' v' => r' = r ∧ i_Rel (k + 4) u' v') v v1 v2 v3) u v1 v2 v3 := by
  obtain ⟨cn, cs, rs, sx, le, ri, bo, tp, sy, rfl, rfl, R⟩ := dr_un I
  obtain ⟨P, HX, HY⟩ := dr_Rel_P R
  cases h1 : dr_com v1 v2 v3 with
  | false => exact dx_cornersF h1 (dy_cornersF h1 ⟨rfl, dr_mk R⟩)
  | true =>
    obtain ⟨how, a, b, hh, ha, hb, rfl, rfl, rfl⟩ := dr_com_of h1
    exact dx_cornersT HX hh ha hb (fun sx' => dy_cornersT HY hh ha hb (fun sy' => ⟨rfl, dr_mk R⟩))
theorem i_vc_thin {k : Nat} {u : SX} {v : SY} (I : i_Rel k u v) (hk : k + 4 ≤ 2048) (v1 : Int32) (v2 : Int32) : wpX_thin (fun r u' => wpY_thin (fun r' v' => r' = r ∧ i_Rel (k + 4) u' v') v v1 v2) u v1 v2 := by
  obtain ⟨cn, cs, rs, sx, le, ri, bo, tp, sy, rfl, rfl, R⟩ := dr_un I
  obtain ⟨P, HX, HY⟩ := dr_Rel_P R
  cases h1 : dr_lay v1 with
  | false => exact dx_thinF (Or.inl h1) (dy_thinL h1 ⟨rfl, dr_mk R⟩)
  | true =>
    obtain ⟨l, hl, rfl⟩ := dr_lay_of h1
    cases h2 : dr_rul v2 with
    | false => exact dx_thinF (Or.inr h2) (dy_thinW HY hl h2 (fun sy' => ⟨rfl, dr_mk R⟩))
    | true => exact dx_thinT HX hl h2 (fun sx' => dy_thinT HY hl h2 (fun sy' => ⟨rfl, dr_mk R⟩))
theorem i_vc_gaps {k : Nat} {u : SX} {v : SY} (I : i_Rel k u v) (hk : k + 4 ≤ 2048) (v1 : Int32) (v2 : Int32) : wpX_gaps (fun r u' => wpY_gaps (fun r' v' => r' = r ∧ i_Rel (k + 4) u' v') v v1 v2) u v1 v2 := by
  obtain ⟨cn, cs, rs, sx, le, ri, bo, tp, sy, rfl, rfl, R⟩ := dr_un I
  obtain ⟨P, HX, HY⟩ := dr_Rel_P R
  cases h1 : dr_lay v1 with
  | false => exact dx_gapsF (Or.inl h1) (dy_gapsL h1 ⟨rfl, dr_mk R⟩)
  | true =>
    obtain ⟨l, hl, rfl⟩ := dr_lay_of h1
    cases h2 : dr_rul v2 with
    | false => exact dx_gapsF (Or.inr h2) (dy_gapsW HY hl h2 (fun sy' => ⟨rfl, dr_mk R⟩))
    | true => exact dx_gapsT HX hl h2 (fun sx' => dy_gapsT HY hl h2 (fun sy' => ⟨rfl, dr_mk R⟩))
theorem i_vc_enclosure {k : Nat} {u : SX} {v : SY} (I : i_Rel k u v) (hk : k + 4 ≤ 2048) (v1 : Int32) (v2 : Int32) : wpX_enclosure (fun r => wpY_enclosure (fun r' v' => r' = r ∧ i_Rel (k + 4) u v') v v1 v2) u v1 v2 := by
  obtain ⟨cn, cs, rs, sx, le, ri, bo, tp, sy, rfl, rfl, R⟩ := dr_un I
  obtain ⟨P, HX, HY⟩ := dr_Rel_P R
  cases h1 : dr_lay v1 with
  | false => exact dx_encF (Or.inl h1) (dy_encF (Or.inl h1) ⟨rfl, dr_mk R⟩)
  | true =>
    cases h2 : dr_lay v2 with
    | false => exact dx_encF (Or.inr h2) (dy_encF (Or.inr h2) ⟨rfl, dr_mk R⟩)
    | true =>
      obtain ⟨a, ha, rfl⟩ := dr_lay_of h1
      obtain ⟨b, hb, rfl⟩ := dr_lay_of h2
      exact dx_encT HX ha hb (dy_encT HY ha hb (fun sy' => ⟨rfl, dr_mk R⟩))
end
