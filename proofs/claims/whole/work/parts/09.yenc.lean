/-! the reference's enclosure -/
theorem dr_scanP (p : Nat → Prop) (e : Nat) (A : Nat → Nat → Prop)
    (hx : (∀ k, k < e → ¬ p k) → ∀ n, A (n + 1) e)
    (ht : ∀ n i, i < e → (∀ k, k < i → ¬ p k) → p i → A (n + 1) i)
    (hf : ∀ n i, i < e → ¬ p i → A n (i + 1) → A (n + 1) i) : ∃ n, A n 0 := by
  have a : ∀ d i, i + d = e → (∀ k, k < i → ¬ p k) → A (d + 1) i := by
    intro d
    induction d with
    | zero =>
      intro i hi hk
      have z : i = e := by omega
      rw [z]
      rw [z] at hk
      exact hx hk 0
    | succ d ih =>
      intro i hi hk
      by_cases hp : p i
      · exact ht (d + 1) i (by omega) hk hp
      · exact hf (d + 1) i (by omega) hp (ih (i + 1) (by omega) (lt_s hk hp))
  exact ⟨e + 1, a e 0 (by omega) (fun k hk => absurd hk (Nat.not_lt_zero k))⟩
theorem dr_sq0 (i m : Nat) : nI i - nI m = nI i - nI m + nI 0 := by rw [nI_0, Int32.add_zero]
theorem dr_sq1 (i m s : Nat) : nI i - nI m + nI s + 1 = nI i - nI m + nI (s + 1) := by rw [Int32.add_assoc, nI_1]
theorem dy_around {post : Int32 → Prop} {cn le ri bo tp sy : Nat → Int32} {S : Nat → Bool} {i j m : Nat} (hs : ∀ k, k < 256 → sy k = dr_b (S k)) (hi : i < 16) (hj : j < 16) (hm : m < 9)
    (h0 : ∀ t s, t < 2 * m + 1 → s < 2 * m + 1 → dr_hole S i j m t s = true → post 0)
    (h1 : (∀ t s, t < 2 * m + 1 → s < 2 * m + 1 → dr_hole S i j m t s = false) → post 1) {x y : Int32} (ex : x = nI i) (ey : y = nI j) : wpY_around post (cn, le, ri, bo, tp, sy) x y (nI m) := by
  subst ex ey
  unfold wpY_around
  try dsimp only
  refine nm_r (dr_sq0 j m) ?_
  refine dr_scan2 (dr_hole S i j m) (2 * m + 1) (2 * m + 1) (fun n t => wY_around_5 post (nI i) (nI j) (nI m) cn le ri bo tp sy n (nI j - nI m + nI t))
    (fun n t k s => wY_around_18 post (wY_around_5 post (nI i) (nI j) (nI m) cn le ri bo tp sy n) (nI i) (nI j) (nI m) (nI j - nI m + nI t) cn le ri bo tp sy k (nI i - nI m + nI s)) ?_ ?_ ?_ ?_ ?_
  · exact fun hk n => br_t (dr_sqE hj hm rfl) (h1 hk)
  · exact fun n t ht hB => br_f (dr_sqC hj hm (by omega)) (nm_r (dr_sq0 i m) hB)
  · exact fun n t k ht hA => br_t (dr_sqE hi hm rfl) (nm_r (dr_sq1 j m t) hA)
  · intro n t k s ht hs' hp
    have z := h0 t s ht hs' hp
    unfold dr_hole at hp
    rw [Bool.and_eq_true] at hp
    obtain ⟨c1, c2⟩ := hp
    unfold dr_cell at c1
    rw [Bool.and_eq_true] at c1
    have a1 := of_decide_eq_true c1.1
    have a2 := of_decide_eq_true c1.2
    refine br_f (dr_sqC hi hm (by omega)) (br_f a1.1 (br_f (fun w => a1.2 ((dr_15 _).mp w)) (br_f a2.1 (br_f (fun w => a2.2 ((dr_15 _).mp w)) (dy_in hs (dr_if (fun f => ?_) (fun _ => z)))))))
    rw [f] at c2
    exact absurd c2 (by decide)
  · intro n t k s ht hs' hp hB
    have go : ∀ x, x = nI i - nI m + nI s + 1 → wY_around_18 post (wY_around_5 post (nI i) (nI j) (nI m) cn le ri bo tp sy n) (nI i) (nI j) (nI m) (nI j - nI m + nI t) cn le ri bo tp sy k x := nm_r (dr_sq1 i m s) hB
    refine br_f (dr_sqC hi hm (by omega)) (br_c (fun _ => go) (fun a => br_c (fun _ => go) (fun b => br_c (fun _ => go) (fun c => br_c (fun _ => go) (fun d => dy_in hs (dr_if (fun _ => go) (fun f => ?_)))))))
    unfold dr_hole at hp
    rw [f, dr_cell_t (dr_ax_t a (fun z => b ((dr_15 _).mpr z))) (dr_ax_t c (fun z => d ((dr_15 _).mpr z)))] at hp
    exact absurd hp (by decide)
theorem dy_encl {post : Int32 → Prop} {cn le ri bo tp sy : Nat → Int32} {P : Nat → Int32 → Int32 → Bool} {S : Nat → Bool} {b m : Nat} (H : dr_HY cn le ri bo tp P) (hs : ∀ k, k < 256 → sy k = dr_b (S k)) (hb : b < 3) (hm : m < 9)
    (h0 : dr_bad S (dr_L P b) m → post 0) (h1 : ¬ dr_bad S (dr_L P b) m → post 1) : wpY_encloses post (cn, le, ri, bo, tp, sy) (nI b) (nI m) := by
  unfold wpY_encloses
  try dsimp only
  refine dr_scanP (fun d => dr_L P b d = true ∧ ∃ c, c < 256 ∧ S c = false ∧ dr_ds c d ≤ m) 256 (fun n d => wY_encloses_2 post (nI b) (nI m) cn le ri bo tp sy n (nI d)) ?_ ?_ ?_
  · intro hk n
    refine br_t dr_end256 (h1 ?_)
    intro ⟨c, d, hc, hd, ha, hb, hm⟩
    exact hk d hd ⟨hb, c, hc, ha, hm⟩
  · intro n d hd _ hp
    obtain ⟨hB, c, hc, hS, hds⟩ := hp
    refine br_f (dr_go256 hd) ⟨by decide, by decide, dy_has H hb (dr_rm hd) (dr_dv hd) (dr_if (fun _ => ⟨by decide, by decide, dy_around hs (i := d % 16) (j := d / 16) (by omega) (by omega) hm (fun t s ht hs' hh => ?_) (fun hn => ?_) (dr_rm hd) (dr_dv hd)⟩) (fun z => ?_))⟩
    · exact br_t rfl (h0 ⟨c, d, hc, hd, hS, hB, hds⟩)
    · obtain ⟨t, s, ht, hs', hh⟩ := dr_hole_to hc hd hS hds
      rw [hn t s ht hs'] at hh
      exact absurd hh (by decide)
    · have z' : dr_L P b d = false := z
      rw [hB] at z'
      exact absurd z' (by decide)
  · intro n d hd hp hA
    refine br_f (dr_go256 hd) ⟨by decide, by decide, dy_has H hb (dr_rm hd) (dr_dv hd) (dr_if (fun z => ⟨by decide, by decide, dy_around hs (i := d % 16) (j := d / 16) (by omega) (by omega) hm (fun t s ht hs' hh => ?_) (fun hn => ?_) (dr_rm hd) (dr_dv hd)⟩) (fun z => nm_r (nI_1 d) hA))⟩
    · obtain ⟨c, hc, hS, hds⟩ := dr_hole_of hd hm (by omega) (by omega) hh
      exact absurd ⟨z, c, hc, hS, hds⟩ hp
    · exact br_f (by decide) (nm_r (nI_1 d) hA)
theorem dy_enc {post : Int32 → SY → Prop} {cn le ri bo tp sy : Nat → Int32} {P : Nat → Int32 → Int32 → Bool} {S : Nat → Bool} {b : Nat} (H : dr_HY cn le ri bo tp P) (hs : ∀ k, k < 256 → sy k = dr_b (S k)) (hb : b < 3)
    (h : post (nI (dr_R S (dr_L P b)) - 1) (cn, le, ri, bo, tp, sy)) : ∃ n, wY_enclosure_23 post (nI b) cn le ri bo tp sy n 0 := by
  have R := dr_R_all S (dr_L P b)
  refine dr_scanP (dr_bad S (dr_L P b)) 9 (fun n m => wY_enclosure_23 post (nI b) cn le ri bo tp sy n (nI m)) ?_ ?_ ?_
  · intro hk n
    have e : dr_R S (dr_L P b) = 9 := by
      by_cases z : dr_R S (dr_L P b) ≤ 8
      · exact absurd (dr_bad_R z) (hk _ (by omega))
      · omega
    rw [e] at h
    exact br_t (by decide) h
  · intro n m hm hk hp
    have e : dr_R S (dr_L P b) = m := by
      by_cases z : m < dr_R S (dr_L P b)
      · exact absurd hp (dr_bad_lt z)
      · by_cases y : dr_R S (dr_L P b) < m
        · exact absurd (dr_bad_R (by omega)) (hk _ y)
        · omega
    rw [e] at h
    exact br_f (nI_nlt (a := 8) (by omega) (by decide)) (dy_encl H hs hb hm (fun _ => br_t rfl h) (fun z => absurd hp z))
  · intro n m hm hp hA
    exact br_f (nI_nlt (a := 8) (by omega) (by decide)) (dy_encl H hs hb hm (fun z => absurd z hp) (fun _ => br_f (by decide) (nm_r (nI_1 m) hA)))
