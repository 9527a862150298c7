theorem pk_us {f : Nat → Int32} {k : Nat} {x : Int32} : upd f k x k = x := if_pos rfl
theorem pk_un {f : Nat → Int32} {k j : Nat} {x : Int32} (h : j ≠ k) : upd f k x j = f j := if_neg h
theorem pk_sub {a b : Nat} (h : b ≤ a) : nI a - nI b = nI (a - b) := by
  obtain ⟨c, rfl⟩ : ∃ c, a = c + b := ⟨a - b, by omega⟩
  rw [← nI_add, Int32.add_sub_cancel, Nat.add_sub_cancel]
theorem pk_m1 (n : Nat) : nI (n + 1) + (-1) = nI n := by
  rw [← nI_1, Int32.add_assoc, show (1 : Int32) + (-1) = 0 from rfl, Int32.add_zero]
theorem pk_mul (a b : Nat) : nI a * nI b = nI (a * b) := (Int32.ofNat_mul a b).symm
theorem pk_div {a d : Nat} (ha : a < 2 ^ 31) (h0 : 0 < d) (hd : d < 2 ^ 31) : nI a / nI d = nI (a / d) := by
  apply Int32.toInt_inj.mp
  rw [lg_idiv_nonneg (by rw [nI_toInt ha]; omega) (by rw [nI_toInt hd]; omega), nI_toInt ha, nI_toInt hd, nI_toInt (Nat.lt_of_le_of_lt (Nat.div_le_self a d) ha)]
  first | rfl | exact (Int.natCast_ediv _ _).symm
theorem pk_rem {a d : Nat} (ha : a < 2 ^ 31) (h0 : 0 < d) (hd : d < 2 ^ 31) : nI a - nI a / nI d * nI d = nI (a % d) := by
  rw [pk_div ha h0 hd, pk_mul, pk_sub (Nat.div_mul_le_self a d)]
  exact congrArg nI (by have := Nat.div_add_mod' a d; omega)
theorem pk_sub_toInt {a b : Nat} (ha : a < 2 ^ 30) (hb : b < 2 ^ 30) : (nI a - nI b).toInt = (a : Int) - b := by
  rw [Int32.toInt_sub, nI_toInt (by omega), nI_toInt (by omega)]
  exact Int.bmod_eq_of_le (by omega) (by omega)
theorem pk_sneg {a b : Nat} (hb : b < 2 ^ 30) (h : a < b) : nI a - nI b < 0 := by
  rw [Int32.lt_iff_toInt_lt, pk_sub_toInt (by omega) hb, show (0 : Int32).toInt = 0 from by decide]
  omega
theorem pk_ix (x : Int32) {n : Nat} (hn : n < 2 ^ 31) : x < 0 ∨ nI n ≤ x ∨ ∃ j : Nat, j < n ∧ x = nI j := by
  by_cases h : x < 0
  · exact Or.inl h
  · obtain ⟨j, hj, rfl⟩ := nI_of h
    by_cases h2 : j < n
    · exact Or.inr (Or.inr ⟨j, h2, rfl⟩)
    · exact Or.inr (Or.inl (nI_le (by omega) hj))
theorem pk_le {x y : Int32} {A B : Prop} (a b : Nat) (f : a ≤ b → A) (g : b < a → B) (hx : x = nI a := by rfl) (hy : y = nI b := by rfl) (ha : a < 2 ^ 31 := by omega) (hb : b < 2 ^ 31 := by omega) : (x ≤ y → A) ∧ (¬ x ≤ y → B) := by
  subst hx hy
  rw [nI_leI ha hb]
  exact ⟨f, fun z => g (by omega)⟩
theorem pk_lt {x y : Int32} {A B : Prop} (a b : Nat) (f : a < b → A) (g : b ≤ a → B) (hx : x = nI a := by rfl) (hy : y = nI b := by rfl) (ha : a < 2 ^ 31 := by omega) (hb : b < 2 ^ 31 := by omega) : (x < y → A) ∧ (¬ x < y → B) := by
  subst hx hy
  rw [nI_ltI ha hb]
  exact ⟨f, fun z => g (by omega)⟩
theorem pk_eq {x y : Int32} {A B : Prop} (a b : Nat) (f : a = b → A) (g : a ≠ b → B) (hx : x = nI a := by rfl) (hy : y = nI b := by rfl) (ha : a < 2 ^ 31 := by omega) (hb : b < 2 ^ 31 := by omega) : (x = y → A) ∧ (¬ x = y → B) := by
  subst hx hy
  rw [nI_eq ha hb]
  exact ⟨f, g⟩
theorem pk_in {x : Int32} (n N : Nat) (h : n < N) (hx : x = nI n := by rfl) (hN : N < 2 ^ 31 := by omega) : vp_in x N := by
  subst hx
  exact vp_in_nI h hN
theorem pk_cl {x : Int32} (n : Nat) (hx : x = nI n := by rfl) (h : n < 2 ^ 31 := by omega) : x.toNatClampNeg = n := by
  subst hx
  exact nI_clamp h
theorem pk_least (P : Nat → Prop) (h : ∃ k, P k) : ∃ k, P k ∧ ∀ j, j < k → ¬ P j := by
  obtain ⟨k, hk⟩ := h
  induction k using Nat.strongRecOn with
  | ind k ih =>
    by_cases e : ∃ j, j < k ∧ P j
    · obtain ⟨j, hj, pj⟩ := e
      exact ih j hj pj
    · exact ⟨k, hk, fun j hj pj => e ⟨j, hj, pj⟩⟩
/-! truth values as ints -/
def dr_b : Bool → Int32
  | true => 1
  | false => 0
theorem dr_b_n (c : Bool) : narrow .boolean (.int (dr_b c)) = .int (dr_b c) := by cases c <;> rfl
theorem dr_b_v (c : Bool) : vp_nar .boolean (dr_b c) = dr_b c := by cases c <;> rfl
theorem dr_b_f (c : Bool) : fits .boolean (.int (dr_b c)) = true := by cases c <;> rfl
theorem dr_if {c : Bool} {A B : Prop} (t : c = true → B) (f : c = false → A) : (dr_b c = 0 → A) ∧ (¬ dr_b c = 0 → B) := by
  cases c
  · exact br_t rfl (f rfl)
  · exact br_f (by decide) (t rfl)
theorem dr_inj {a b : Bool} : dr_b a = dr_b b ↔ a = b := by cases a <;> cases b <;> decide
theorem dr_same {a b : Bool} {A B : Prop} (t : a = b → A) (f : ¬ a = b → B) : (dr_b a = dr_b b → A) ∧ (¬ dr_b a = dr_b b → B) := by
  rw [dr_inj]
  exact ⟨t, f⟩
theorem dr_xor {a b : Bool} {P : Int32 → Prop} (h : P (dr_b (a != b))) : (dr_b a = dr_b b → P 0) ∧ (¬ dr_b a = dr_b b → P 1) := by
  cases a <;> cases b
  · exact br_t rfl h
  · exact br_f (by decide) h
  · exact br_f (by decide) h
  · exact br_t rfl h
/-! loops -/
def dr_it {σ : Type} (g : Nat → σ → σ) (s0 : σ) : Nat → σ
  | 0 => s0
  | n + 1 => g n (dr_it g s0 n)
theorem dr_it_inv {σ : Type} (g : Nat → σ → σ) (s0 : σ) (N : Nat) (P : Nat → σ → Prop) (h0 : P 0 s0)
    (hs : ∀ k s, k < N → P k s → P (k + 1) (g k s)) : ∀ n, n ≤ N → P n (dr_it g s0 n) := by
  intro n
  induction n with
  | zero => exact fun _ => h0
  | succ n ih => exact fun h => hs n _ (by omega) (ih (by omega))
theorem dr_it_c {σ : Type} (g g' : Nat → σ → σ) (s0 : σ) (N : Nat) (h : ∀ k s, k < N → g k s = g' k s) : dr_it g s0 N = dr_it g' s0 N := by
  have a : ∀ n, n ≤ N → dr_it g s0 n = dr_it g' s0 n := by
    intro n
    induction n with
    | zero => exact fun _ => rfl
    | succ n ih =>
      intro hn
      show g n (dr_it g s0 n) = g' n (dr_it g' s0 n)
      rw [ih (by omega), h n _ (by omega)]
  exact a N (Nat.le_refl N)
theorem dr_loop {σ : Type} (g : Nat → σ → σ) (s0 : σ) (e : Nat) (A : Nat → Nat → σ → Prop)
    (hx : ∀ n, A (n + 1) e (dr_it g s0 e))
    (hs : ∀ n i s, i < e → A n (i + 1) (g i s) → A (n + 1) i s) : ∃ n, A n 0 s0 := by
  have a : ∀ d j, j + d = e → A (d + 1) j (dr_it g s0 j) := by
    intro d
    induction d with
    | zero =>
      intro j hj
      have z : j = e := by omega
      rw [z]
      exact hx 0
    | succ d ih =>
      intro j hj
      exact hs (d + 1) j _ (by omega) (ih (j + 1) (by omega))
  exact ⟨e + 1, a e 0 (by omega)⟩
theorem dr_nest {σ : Type} (g : Nat → σ → σ) (s0 : σ) (w h : Nat) (A : Nat → Nat → σ → Prop) (B : Nat → Nat → Nat → Nat → σ → Prop)
    (hAx : ∀ n, A (n + 1) h (dr_it g s0 (w * h)))
    (hAs : ∀ n j s, j < h → (∃ m, B n j m 0 s) → A (n + 1) j s)
    (hBx : ∀ n j m s, j < h → A n (j + 1) s → B n j (m + 1) w s)
    (hBs : ∀ n j m i s, j < h → i < w → B n j m (i + 1) (g (w * j + i) s) → B n j (m + 1) i s) : ∃ n, A n 0 s0 := by
  have b : ∀ n j, j < h → A n (j + 1) (dr_it g s0 (w * (j + 1))) → ∀ d i, i + d = w → B n j (d + 1) i (dr_it g s0 (w * j + i)) := by
    intro n j hj ha d
    induction d with
    | zero =>
      intro i hi
      have e : i = w := by omega
      rw [e]
      exact hBx n j 0 _ hj ha
    | succ d ih =>
      intro i hi
      exact hBs n j (d + 1) i _ hj (by omega) (ih (i + 1) (by omega))
  have a : ∀ d j, j + d = h → A (d + 1) j (dr_it g s0 (w * j)) := by
    intro d
    induction d with
    | zero =>
      intro j hj
      have e : j = h := by omega
      rw [e]
      exact hAx 0
    | succ d ih =>
      intro j hj
      exact hAs (d + 1) j _ (by omega) ⟨w + 1, b (d + 1) j (by omega) (ih (j + 1) (by omega)) w 0 (by omega)⟩
  exact ⟨h + 1, a h 0 (by omega)⟩
theorem dr_scan (p : Nat → Bool) (e : Nat) (A : Nat → Nat → Prop)
    (hx : (∀ k, k < e → p k = false) → ∀ n, A (n + 1) e)
    (ht : ∀ n i, i < e → (∀ k, k < i → p k = false) → p i = true → A (n + 1) i)
    (hf : ∀ n i, i < e → p i = false → A n (i + 1) → A (n + 1) i) : ∃ n, A n 0 := by
  have a : ∀ d i, i + d = e → (∀ k, k < i → p k = false) → A (d + 1) i := by
    intro d
    induction d with
    | zero =>
      intro i hi hk
      have z : i = e := by omega
      rw [z]
      rw [z] at hk
      exact hx hk 0
    | succ d ih =>
      intro i hi hk
      cases hp : p i with
      | true => exact ht (d + 1) i (by omega) hk hp
      | false => exact hf (d + 1) i (by omega) hp (ih (i + 1) (by omega) (lt_s hk hp))
  exact ⟨e + 1, a e 0 (by omega) (fun k hk => absurd hk (Nat.not_lt_zero k))⟩
theorem dr_scan2 (p : Nat → Nat → Bool) (w h : Nat) (A : Nat → Nat → Prop) (B : Nat → Nat → Nat → Nat → Prop)
    (hAx : (∀ j i, j < h → i < w → p j i = false) → ∀ n, A (n + 1) h)
    (hAs : ∀ n j, j < h → (∃ m, B n j m 0) → A (n + 1) j)
    (hBx : ∀ n j m, j < h → A n (j + 1) → B n j (m + 1) w)
    (hBt : ∀ n j m i, j < h → i < w → p j i = true → B n j (m + 1) i)
    (hBf : ∀ n j m i, j < h → i < w → p j i = false → B n j m (i + 1) → B n j (m + 1) i) : ∃ n, A n 0 := by
  have b : ∀ n j, j < h → ((∀ i, i < w → p j i = false) → A n (j + 1)) → ∀ d i, i + d = w → (∀ k, k < i → p j k = false) → B n j (d + 1) i := by
    intro n j hj ha d
    induction d with
    | zero =>
      intro i hi hk
      have z : i = w := by omega
      rw [z]
      rw [z] at hk
      exact hBx n j 0 hj (ha hk)
    | succ d ih =>
      intro i hi hk
      cases hp : p j i with
      | true => exact hBt n j (d + 1) i hj (by omega) hp
      | false => exact hBf n j (d + 1) i hj (by omega) hp (ih (i + 1) (by omega) (lt_s hk hp))
  have a : ∀ d j, j + d = h → (∀ k i, k < j → i < w → p k i = false) → A (d + 1) j := by
    intro d
    induction d with
    | zero =>
      intro j hj hk
      have z : j = h := by omega
      rw [z]
      rw [z] at hk
      exact hAx hk 0
    | succ d ih =>
      intro j hj hk
      refine hAs (d + 1) j (by omega) ⟨w + 1, b (d + 1) j (by omega) (fun hr => ih (j + 1) (by omega) ?_) w 0 (by omega) (fun k hk => absurd hk (Nat.not_lt_zero k))⟩
      intro k i hkj hi
      by_cases e : k = j
      · rw [e]
        exact hr i hi
      · exact hk k i (by omega) hi
  exact ⟨h + 1, a h 0 (by omega) (fun k i hk => absurd hk (Nat.not_lt_zero k))⟩
/-! one of the first n -/
def dr_any (f : Nat → Bool) : Nat → Bool
  | 0 => false
  | n + 1 => dr_any f n || f n
theorem dr_any_t {f : Nat → Bool} {k : Nat} (e : f k = true) : ∀ n, k < n → dr_any f n = true := by
  intro n
  induction n with
  | zero => exact fun h => absurd h (Nat.not_lt_zero k)
  | succ n ih =>
    intro h
    show (dr_any f n || f n) = true
    by_cases z : k = n
    · rw [← z, e, Bool.or_true]
    · rw [ih (by omega), Bool.true_or]
theorem dr_any_f {f : Nat → Bool} : ∀ n, (∀ k, k < n → f k = false) → dr_any f n = false := by
  intro n
  induction n with
  | zero => exact fun _ => rfl
  | succ n ih =>
    intro h
    show (dr_any f n || f n) = false
    rw [ih (fun k hk => h k (by omega)), h n (by omega)]
    rfl
theorem dr_any_c {f g : Nat → Bool} : ∀ n, (∀ k, k < n → f k = g k) → dr_any f n = dr_any g n := by
  intro n
  induction n with
  | zero => exact fun _ => rfl
  | succ n ih =>
    intro h
    show (dr_any f n || f n) = (dr_any g n || g n)
    rw [ih (fun k hk => h k (by omega)), h n (by omega)]
/-! what is asked of numbers -/
def dr_ax (x : Int32) : Bool := decide (¬ x < 0 ∧ ¬ 16 ≤ x)
def dr_cell (x y : Int32) : Bool := dr_ax x && dr_ax y
def dr_lay (l : Int32) : Bool := decide (¬ l < 0 ∧ ¬ 3 ≤ l)
def dr_rul (w : Int32) : Bool := decide (¬ w < 1 ∧ ¬ 8 < w)
def dr_how (h : Int32) : Bool := decide (¬ h < 0 ∧ ¬ 2 < h)
def dr_com (h a b : Int32) : Bool := dr_how h && (dr_lay a && dr_lay b)
def dr_spn (x : Int32) : Bool := decide (¬ x < 0 ∧ ¬ (x - x / 32 * 32) ≤ x / 32 ∧ ¬ 16 < (x - x / 32 * 32))
def dr_box (l r b t i j : Int32) : Bool := decide ((¬ i < l ∧ ¬ r ≤ i) ∧ (¬ j < b ∧ ¬ t ≤ j))
theorem dr_15 (x : Int32) : 15 < x ↔ 16 ≤ x := by
  rw [Int32.lt_iff_toInt_lt, Int32.le_iff_toInt_le, show (15 : Int32).toInt = 15 from by decide, show (16 : Int32).toInt = 16 from by decide]
  omega
theorem dr_2 (x : Int32) : 2 < x ↔ 3 ≤ x := by
  rw [Int32.lt_iff_toInt_lt, Int32.le_iff_toInt_le, show (2 : Int32).toInt = 2 from by decide, show (3 : Int32).toInt = 3 from by decide]
  omega
theorem dr_ax_t {x : Int32} (h0 : ¬ x < 0) (h1 : ¬ 16 ≤ x) : dr_ax x = true := decide_eq_true ⟨h0, h1⟩
theorem dr_ax_l {x : Int32} (h : x < 0) : dr_ax x = false := decide_eq_false (fun z => z.1 h)
theorem dr_ax_h {x : Int32} (h : 16 ≤ x) : dr_ax x = false := decide_eq_false (fun z => z.2 h)
theorem dr_ax_n {i : Nat} (h : i < 16) : dr_ax (nI i) = true :=
  dr_ax_t (nI_pos (by omega)) (nI_ge (b := 16) h (by decide))
theorem dr_ax_o {i : Nat} (h : 16 ≤ i) (hi : i < 2 ^ 31) : dr_ax (nI i) = false :=
  dr_ax_h (nI_le (a := 16) h hi)
theorem dr_ax_of {x : Int32} (h : dr_ax x = true) : ∃ i, i < 16 ∧ x = nI i := by
  have z := of_decide_eq_true h
  obtain ⟨j, hj, rfl⟩ := nI_of z.1
  refine ⟨j, ?_, rfl⟩
  by_cases e : j < 16
  · exact e
  · exact absurd (nI_le (a := 16) (by omega) hj) z.2
theorem dr_lay_t {x : Int32} (h0 : ¬ x < 0) (h1 : ¬ 3 ≤ x) : dr_lay x = true := decide_eq_true ⟨h0, h1⟩
theorem dr_lay_of {x : Int32} (h : dr_lay x = true) : ∃ i, i < 3 ∧ x = nI i := by
  have z := of_decide_eq_true h
  obtain ⟨j, hj, rfl⟩ := nI_of z.1
  refine ⟨j, ?_, rfl⟩
  by_cases e : j < 3
  · exact e
  · exact absurd (nI_le (a := 3) (by omega) hj) z.2
theorem dr_lay_n {i : Nat} (h : i < 3) : dr_lay (nI i) = true :=
  dr_lay_t (nI_pos (by omega)) (nI_ge (b := 3) h (by decide))
theorem dr_how_of {x : Int32} (h : dr_how x = true) : ∃ i, i < 3 ∧ x = nI i := by
  have z := of_decide_eq_true h
  exact dr_lay_of (dr_lay_t z.1 (fun y => z.2 ((dr_2 x).mpr y)))
theorem dr_cell_n {i j : Nat} (hi : i < 16) (hj : j < 16) : dr_cell (nI i) (nI j) = true := by
  unfold dr_cell
  rw [dr_ax_n hi, dr_ax_n hj]
  rfl
/-- the cell (x, y) of a set that is given by 16 * row + column -/
def dr_in (S : Nat → Bool) (x y : Int32) : Bool := dr_cell x y && S (16 * y.toNatClampNeg + x.toNatClampNeg)
theorem dr_in_n {S : Nat → Bool} {i j : Nat} (hi : i < 16) (hj : j < 16) : dr_in S (nI i) (nI j) = S (16 * j + i) := by
  unfold dr_in
  rw [dr_cell_n hi hj, nI_clamp (by omega), nI_clamp (by omega), Bool.true_and]
/-- two sets in one, as how says -/
def dr_cmb (how : Nat) (p q : Bool) : Bool := if how = 0 then p && q else if how = 1 then p || q else p && !q
def dr_S (P : Nat → Int32 → Int32 → Bool) (how a b k : Nat) : Bool := dr_cmb how (P a (nI (k % 16)) (nI (k / 16))) (P b (nI (k % 16)) (nI (k / 16)))
theorem dr_S_1 (P : Nat → Int32 → Int32 → Bool) (l : Nat) : dr_S P 1 l l = fun k => P l (nI (k % 16)) (nI (k / 16)) := by
  funext k
  exact Bool.or_self _
theorem dr_S_0 (P : Nat → Int32 → Int32 → Bool) (l : Nat) : dr_S P 0 l l = fun k => P l (nI (k % 16)) (nI (k / 16)) := by
  funext k
  exact Bool.and_self _
theorem dr_fill (S : Nat → Bool) (a : Nat → Int32) : ∀ n k, k < n → dr_it (fun c (t : Nat → Int32) => upd t c (dr_b (S c))) a n k = dr_b (S k) := by
  intro n
  induction n with
  | zero => exact fun k h => absurd h (Nat.not_lt_zero k)
  | succ n ih =>
    intro k h
    show upd (dr_it (fun c (t : Nat → Int32) => upd t c (dr_b (S c))) a n) n (dr_b (S n)) k = _
    by_cases z : k = n
    · rw [z, pk_us]
    · rw [pk_un z]
      exact ih k (by omega)
