/-! the relation's heart: the same counts; each kept rectangle by its numbers on one side, by its four sides on the other -/
theorem dr_up (e : Nat) (A : Nat → Nat → Prop) (hx : ∀ n, A (n + 1) e) (hs : ∀ n i, i < e → A n (i + 1) → A (n + 1) i) : ∃ n, A n 0 := by
  have a : ∀ d i, i + d = e → A (d + 1) i := by
    intro d
    induction d with
    | zero =>
      intro i hi
      have z : i = e := by omega
      rw [z]
      exact hx 0
    | succ d ih => exact fun i hi => hs (d + 1) i (by omega) (ih (i + 1) (by omega))
  exact ⟨e + 1, a e 0 (by omega)⟩
def dr_Q (cs rs le ri bo tp : Nat → Int32) (k : Nat) : Prop :=
  le k = cs k / 32 ∧ ri k = cs k - cs k / 32 * 32 ∧ bo k = rs k / 32 ∧ tp k = rs k - rs k / 32 * 32
def dr_Rel (cn cs rs le ri bo tp : Nat → Int32) : Prop :=
  ∃ c : Nat → Nat, ∀ l, l < 3 → c l ≤ 10 ∧ cn l = nI (c l) ∧ ∀ n, n < c l → dr_Q cs rs le ri bo tp (10 * l + n)
/-- what is covered, as the component keeps it -/
def dr_cx (cs rs : Nat → Int32) (l n : Nat) (i j : Int32) : Bool :=
  dr_any (fun k => dr_box (cs (10 * l + k) / 32) (cs (10 * l + k) - cs (10 * l + k) / 32 * 32) (rs (10 * l + k) / 32) (rs (10 * l + k) - rs (10 * l + k) / 32 * 32) i j) n
/-- what is covered, as the reference keeps it -/
def dr_cy (le ri bo tp : Nat → Int32) (l n : Nat) (i j : Int32) : Bool :=
  dr_any (fun k => dr_box (le (10 * l + k)) (ri (10 * l + k)) (bo (10 * l + k)) (tp (10 * l + k)) i j) n
def dr_HX (cn cs rs : Nat → Int32) (P : Nat → Int32 → Int32 → Bool) : Prop :=
  ∀ l, l < 3 → ∃ c, c ≤ 10 ∧ cn l = nI c ∧ ∀ i j, P l i j = dr_cx cs rs l c i j
def dr_HY (cn le ri bo tp : Nat → Int32) (P : Nat → Int32 → Int32 → Bool) : Prop :=
  ∀ l, l < 3 → ∃ c, c ≤ 10 ∧ cn l = nI c ∧ ∀ i j, P l i j = dr_cy le ri bo tp l c i j
theorem dr_Rel_P {cn cs rs le ri bo tp : Nat → Int32} (h : dr_Rel cn cs rs le ri bo tp) : ∃ P, dr_HX cn cs rs P ∧ dr_HY cn le ri bo tp P := by
  obtain ⟨c, hc⟩ := h
  refine ⟨fun l i j => dr_cx cs rs l (c l) i j, fun l hl => ⟨c l, (hc l hl).1, (hc l hl).2.1, fun i j => rfl⟩, fun l hl => ⟨c l, (hc l hl).1, (hc l hl).2.1, fun i j => ?_⟩⟩
  refine dr_any_c (c l) (fun k hk => ?_)
  obtain ⟨e1, e2, e3, e4⟩ := (hc l hl).2.2 k hk
  try dsimp only
  rw [e1, e2, e3, e4]
theorem dr_Rel_cn {cn cs rs le ri bo tp : Nat → Int32} (h : dr_Rel cn cs rs le ri bo tp) {l : Nat} (hl : l < 3) : ∃ c, c ≤ 10 ∧ cn l = nI c := by
  obtain ⟨c, hc⟩ := h
  exact ⟨c l, (hc l hl).1, (hc l hl).2.1⟩
theorem dr_Rel_0 : dr_Rel (fun _ => 0) (fun _ => 0) (fun _ => 0) (fun _ => 0) (fun _ => 0) (fun _ => 0) (fun _ => 0) :=
  ⟨fun _ => 0, fun l _ => ⟨Nat.zero_le 10, rfl, fun n h => absurd h (Nat.not_lt_zero n)⟩⟩
theorem dr_Rel_add {cn cs rs le ri bo tp : Nat → Int32} (h : dr_Rel cn cs rs le ri bo tp) {l m : Nat} (hl : l < 3) (hm : cn l = nI m) (h10 : m < 10) (x y : Int32) :
    dr_Rel (upd cn l (nI (m + 1))) (upd cs (10 * l + m) x) (upd rs (10 * l + m) y)
      (upd le (10 * l + m) (x / 32)) (upd ri (10 * l + m) (x - x / 32 * 32)) (upd bo (10 * l + m) (y / 32)) (upd tp (10 * l + m) (y - y / 32 * 32)) := by
  obtain ⟨c, hc⟩ := h
  have hcl : c l = m := by
    have a := (hc l hl).2.1
    rw [hm] at a
    have b := (hc l hl).1
    exact ((nI_eq (by omega) (by omega)).mp a).symm
  refine ⟨fun z => if z = l then m + 1 else c z, fun z hz => ?_⟩
  by_cases e : z = l
  · try dsimp only
    rw [if_pos e, e, pk_us]
    refine ⟨by omega, rfl, fun n hn => ?_⟩
    by_cases w : n = m
    · unfold dr_Q
      rw [w, pk_us, pk_us, pk_us, pk_us, pk_us, pk_us]
      exact ⟨rfl, rfl, rfl, rfl⟩
    · have hne : 10 * l + n ≠ 10 * l + m := by omega
      unfold dr_Q
      rw [pk_un hne, pk_un hne, pk_un hne, pk_un hne, pk_un hne, pk_un hne]
      exact (hc l hl).2.2 n (by omega)
  · try dsimp only
    rw [if_neg e, pk_un e]
    refine ⟨(hc z hz).1, (hc z hz).2.1, fun n hn => ?_⟩
    have h10z := (hc z hz).1
    have hne : 10 * z + n ≠ 10 * l + m := by omega
    unfold dr_Q
    rw [pk_un hne, pk_un hne, pk_un hne, pk_un hne, pk_un hne, pk_un hne]
    exact (hc z hz).2.2 n hn
/-- n cells moved down by one, from b on -/
def dr_shf (a : Nat → Int32) (b n : Nat) : Nat → Int32 := fun k => if b ≤ k ∧ k < b + n then a (k + 1) else a k
theorem dr_shf_0 (a : Nat → Int32) (b : Nat) : dr_shf a b 0 = a := by
  funext k
  exact if_neg (by omega)
theorem dr_shf_s (a : Nat → Int32) (b n : Nat) : upd (dr_shf a b n) (b + n) (dr_shf a b n (b + n + 1)) = dr_shf a b (n + 1) := by
  funext k
  by_cases e : k = b + n
  · rw [e, pk_us]
    have e1 : dr_shf a b n (b + n + 1) = a (b + n + 1) := if_neg (by omega)
    have e2 : dr_shf a b (n + 1) (b + n) = a (b + n + 1) := if_pos (by omega)
    rw [e1, e2]
  · rw [pk_un e]
    unfold dr_shf
    by_cases z : b ≤ k ∧ k < b + n
    · rw [if_pos z, if_pos (by omega)]
    · rw [if_neg z, if_neg (by omega)]
theorem dr_shf_in (a : Nat → Int32) {b n k : Nat} (h : k < n) : dr_shf a b n (b + k) = a (b + (k + 1)) := if_pos (by omega)
theorem dr_shf_out (a : Nat → Int32) {b n k : Nat} (h : k < b ∨ b + n ≤ k) : dr_shf a b n k = a k := if_neg (by omega)
theorem dr_Rel_drop {cn cs rs le ri bo tp : Nat → Int32} (h : dr_Rel cn cs rs le ri bo tp) {l m : Nat} (hl : l < 3) (hm : cn l = nI (m + 1)) (h10 : m < 10) :
    dr_Rel (upd cn l (nI m)) (dr_shf cs (10 * l) m) (dr_shf rs (10 * l) m) (dr_shf le (10 * l) 9) (dr_shf ri (10 * l) 9) (dr_shf bo (10 * l) 9) (dr_shf tp (10 * l) 9) := by
  obtain ⟨c, hc⟩ := h
  have hcl : c l = m + 1 := by
    have a := (hc l hl).2.1
    rw [hm] at a
    have b := (hc l hl).1
    exact ((nI_eq (by omega) (by omega)).mp a).symm
  refine ⟨fun z => if z = l then m else c z, fun z hz => ?_⟩
  by_cases e : z = l
  · try dsimp only
    rw [if_pos e, e, pk_us]
    refine ⟨by omega, rfl, fun n hn => ?_⟩
    have h9 : n < 9 := by omega
    unfold dr_Q
    rw [dr_shf_in cs hn, dr_shf_in rs hn, dr_shf_in le h9, dr_shf_in ri h9, dr_shf_in bo h9, dr_shf_in tp h9]
    exact (hc l hl).2.2 (n + 1) (by omega)
  · try dsimp only
    rw [if_neg e, pk_un e]
    refine ⟨(hc z hz).1, (hc z hz).2.1, fun n hn => ?_⟩
    have h10z := (hc z hz).1
    have o1 : 10 * z + n < 10 * l ∨ 10 * l + m ≤ 10 * z + n := by omega
    have o2 : 10 * z + n < 10 * l ∨ 10 * l + 9 ≤ 10 * z + n := by omega
    unfold dr_Q
    rw [dr_shf_out cs o1, dr_shf_out rs o1, dr_shf_out le o2, dr_shf_out ri o2, dr_shf_out bo o2, dr_shf_out tp o2]
    exact (hc z hz).2.2 n hn
