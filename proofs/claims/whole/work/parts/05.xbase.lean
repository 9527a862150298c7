/-! the component's small questions -/
theorem dr_pf {post : Int32 → Prop} {c : Bool} (h : post (dr_b c)) (e : c = false) : post 0 := by
  subst e
  exact h
theorem dr_pt {post : Int32 → Prop} {c : Bool} (h : post (dr_b c)) (e : c = true) : post 1 := by
  subst e
  exact h
theorem dr_lay_l {x : Int32} (h : x < 0) : dr_lay x = false := decide_eq_false (fun z => z.1 h)
theorem dr_lay_h {x : Int32} (h : 3 ≤ x) : dr_lay x = false := decide_eq_false (fun z => z.2 h)
theorem dr_cell_t {x y : Int32} (a : dr_ax x = true) (b : dr_ax y = true) : dr_cell x y = true := by
  unfold dr_cell
  rw [a, b]
  rfl
theorem dr_cell_x {x y : Int32} (a : dr_ax x = false) : dr_cell x y = false := by
  unfold dr_cell
  rw [a]
  rfl
theorem dr_cell_y {x y : Int32} (b : dr_ax y = false) : dr_cell x y = false := by
  unfold dr_cell
  rw [b, Bool.and_false]
theorem dr_cell_of {x y : Int32} (h : dr_cell x y = true) : ∃ i j, i < 16 ∧ j < 16 ∧ x = nI i ∧ y = nI j := by
  unfold dr_cell at h
  rw [Bool.and_eq_true] at h
  obtain ⟨i, hi, ei⟩ := dr_ax_of h.1
  obtain ⟨j, hj, ej⟩ := dr_ax_of h.2
  exact ⟨i, j, hi, hj, ei, ej⟩
theorem dr_go {i : Nat} (h : i < 16) : ¬ (16 : Int32) ≤ nI i := nI_ge (b := 16) h (by decide)
theorem dr_end : (16 : Int32) ≤ nI 16 := by decide
theorem dr_go17 {i : Nat} (h : i < 17) : ¬ (16 : Int32) < nI i := nI_nlt (a := 16) (by omega) (by decide)
theorem dr_end17 : (16 : Int32) < nI 17 := by decide
theorem dr_go256 {i : Nat} (h : i < 256) : ¬ (256 : Int32) ≤ nI i := nI_ge (b := 256) h (by decide)
theorem dr_end256 : (256 : Int32) ≤ nI 256 := by decide
theorem dr_m10 (l : Nat) : nI l * 10 = nI (10 * l) := by
  rw [show (10 : Int32) = nI 10 from rfl, pk_mul, Nat.mul_comm]
theorem dr_10m (l : Nat) : 10 * nI l = nI (10 * l) := by
  rw [show (10 : Int32) = nI 10 from rfl, pk_mul]
theorem dr_ix (j i : Nat) : nI j * 16 + nI i = nI (16 * j + i) := by
  rw [show (16 : Int32) = nI 16 from rfl, pk_mul, nI_add, Nat.mul_comm]
theorem dr_iy (j i : Nat) : 16 * nI j + nI i = nI (16 * j + i) := by
  rw [show (16 : Int32) = nI 16 from rfl, pk_mul, nI_add]
theorem dr_z (s : Int32) : s + dr_b false = s := Int32.add_zero s
def dr_sp (s p : Int32) : Bool := decide (¬ p < s / 32 ∧ ¬ (s - s / 32 * 32) ≤ p)
theorem dr_box_sp (s t i j : Int32) : dr_box (s / 32) (s - s / 32 * 32) (t / 32) (t - t / 32 * 32) i j = (dr_sp s i && dr_sp t j) := by
  simp only [dr_box, dr_sp, Bool.decide_and]
theorem dx_isLayer {post : Int32 → Prop} {l : Int32} (h : post (dr_b (dr_lay l))) : wpX_isLayer post l :=
  br_c (fun a => dr_pf h (dr_lay_l a)) (fun a => br_c (fun b => dr_pf h (dr_lay_h b)) (fun b => dr_pt h (dr_lay_t a b)))
theorem dx_isCell {post : Int32 → Prop} {x y : Int32} (h : post (dr_b (dr_cell x y))) : wpX_isCell post x y :=
  br_c (fun a => dr_pf h (dr_cell_x (dr_ax_l a))) (fun a => br_c (fun b => dr_pf h (dr_cell_x (dr_ax_h b))) (fun b =>
    br_c (fun c => dr_pf h (dr_cell_y (dr_ax_l c))) (fun c => br_c (fun d => dr_pf h (dr_cell_y (dr_ax_h d))) (fun d => dr_pt h (dr_cell_t (dr_ax_t a b) (dr_ax_t c d))))))
theorem dx_isRule {post : Int32 → Prop} {w : Int32} (h : post (dr_b (dr_rul w))) : wpX_isRule post w :=
  br_c (fun a => dr_pf h (decide_eq_false (fun z => z.1 a))) (fun a => br_c (fun b => dr_pf h (decide_eq_false (fun z => z.2 b))) (fun b => dr_pt h (decide_eq_true ⟨a, b⟩)))
theorem dx_isSpan {post : Int32 → Prop} {x : Int32} (h : post (dr_b (dr_spn x))) : wpX_isSpan post x :=
  br_c (fun a => ⟨by decide, nm_e ⟨by decide, nm_e (br_c (fun b => dr_pf h (decide_eq_false (fun z => z.2.1 b))) (fun b =>
      br_c (fun c => dr_pf h (decide_eq_false (fun z => z.2.2 c))) (fun c => dr_pt h (decide_eq_true ⟨Int32.not_lt.mpr a, b, c⟩))))⟩⟩)
    (fun a => dr_pf h (decide_eq_false (fun z => a (Int32.not_lt.mp z.1))))
theorem dx_inSpan {post : Int32 → Prop} {s p : Int32} (h : post (dr_b (dr_sp s p))) : wpX_inSpan post s p :=
  And.intro (by decide) (br_c (fun a => dr_pf h (decide_eq_false (fun z => z.1 a))) (fun a => ⟨by decide, br_c (fun b => dr_pf h (decide_eq_false (fun z => z.2 b))) (fun b => dr_pt h (decide_eq_true ⟨a, b⟩))⟩))
theorem dr_com_h {h a b : Int32} (z : dr_how h = false) : dr_com h a b = false := by
  unfold dr_com
  rw [z]
  rfl
theorem dr_com_a {h a b : Int32} (z : dr_lay a = false) : dr_com h a b = false := by
  unfold dr_com
  rw [z, Bool.false_and, Bool.and_false]
theorem dr_com_b {h a b : Int32} (z : dr_lay b = false) : dr_com h a b = false := by
  unfold dr_com
  rw [z, Bool.and_false, Bool.and_false]
theorem dr_com_t {h a b : Int32} (x : dr_how h = true) (y : dr_lay a = true) (z : dr_lay b = true) : dr_com h a b = true := by
  unfold dr_com
  rw [x, y, z]
  rfl
theorem dr_com_of {h a b : Int32} (x : dr_com h a b = true) : ∃ h' a' b', h' < 3 ∧ a' < 3 ∧ b' < 3 ∧ h = nI h' ∧ a = nI a' ∧ b = nI b' := by
  unfold dr_com at x
  rw [Bool.and_eq_true, Bool.and_eq_true] at x
  obtain ⟨h', h1, e1⟩ := dr_how_of x.1
  obtain ⟨a', h2, e2⟩ := dr_lay_of x.2.1
  obtain ⟨b', h3, e3⟩ := dr_lay_of x.2.2
  exact ⟨h', a', b', h1, h2, h3, e1, e2, e3⟩
theorem dx_isCom {post : Int32 → Prop} {w a b : Int32} (h : post (dr_b (dr_com w a b))) : wpX_isCombination post w a b :=
  br_c (fun x => dr_pf h (dr_com_h (decide_eq_false (fun z => z.1 x)))) (fun x => br_c (fun y => dr_pf h (dr_com_h (decide_eq_false (fun z => z.2 y)))) (fun y =>
    dx_isLayer (dr_if (fun p => dx_isLayer (dr_if (fun q => dr_pt h (dr_com_t (decide_eq_true ⟨x, y⟩) p q)) (fun q => dr_pf h (dr_com_b q)))) (fun p => dr_pf h (dr_com_a p)))))
theorem dx_cov26 {post : Int32 → Prop} {cn cs rs sx : Nat → Int32} {l c : Nat} {i j : Int32} (hl : l < 3) (hc : c ≤ 10) (hn : cn l = nI c)
    (h : post (dr_b (dr_cx cs rs l c i j))) : ∃ n, wX_covers_26 post (nI l) i j (nI (10 * l)) cn cs rs sx n 0 := by
  have hv : vp_in (nI l) 3 := vp_in_nI hl (by decide)
  have hcl : cn (nI l).toNatClampNeg = nI c := by rw [nI_clamp (by omega), hn]
  have hin : ∀ k, k < c → vp_in (nI (10 * l) + nI k) 30 := fun k hk => by
    rw [nI_add]
    exact vp_in_nI (by omega) (by decide)
  have hcl2 : ∀ k, k < c → (nI (10 * l) + nI k).toNatClampNeg = 10 * l + k := fun k hk => by
    rw [nI_add]
    exact nI_clamp (by omega)
  have hlt : ∀ k, k < c → ¬ cn (nI l).toNatClampNeg ≤ nI k := fun k hk => by
    rw [hcl]
    exact nI_ge hk (by omega)
  refine dr_scan (fun k => dr_box (cs (10 * l + k) / 32) (cs (10 * l + k) - cs (10 * l + k) / 32 * 32) (rs (10 * l + k) / 32) (rs (10 * l + k) - rs (10 * l + k) / 32 * 32) i j) c
    (fun n k => wX_covers_26 post (nI l) i j (nI (10 * l)) cn cs rs sx n (nI k)) ?_ ?_ ?_
  · intro hk n
    exact And.intro hv (br_t (by rw [hcl]; exact Int32.le_refl _) (dr_pf h (dr_any_f c hk)))
  · intro n k hk _ hp
    try dsimp only at hp
    rw [dr_box_sp, Bool.and_eq_true] at hp
    refine And.intro hv (br_f (hlt k hk) ⟨hin k hk, dx_inSpan (dr_if (fun a => ⟨hin k hk, dx_inSpan (dr_if (fun b => dr_pt h (dr_any_t (k := k) ?_ c hk)) (fun b => ?_))⟩) (fun a => ?_))⟩)
    · try dsimp only
      rw [dr_box_sp, Bool.and_eq_true]
      exact hp
    · rw [hcl2 k hk, hp.2] at b
      exact absurd b (by decide)
    · rw [hcl2 k hk, hp.1] at a
      exact absurd a (by decide)
  · intro n k hk hp hA
    try dsimp only at hp
    rw [dr_box_sp] at hp
    refine And.intro hv (br_f (hlt k hk) ⟨hin k hk, dx_inSpan (dr_if (fun a => ⟨hin k hk, dx_inSpan (dr_if (fun b => ?_) (fun b => nm_r (nI_1 k) hA))⟩) (fun a => nm_r (nI_1 k) hA))⟩)
    rw [hcl2 k hk] at a b
    rw [a, b] at hp
    exact absurd hp (by decide)
theorem dx_covers {post : Int32 → Prop} {cn cs rs sx : Nat → Int32} {P : Nat → Int32 → Int32 → Bool} {l : Nat} {i j : Int32} (H : dr_HX cn cs rs P) (hl : l < 3)
    (h : post (dr_b (dr_cell i j && P l i j))) : wpX_covers post (cn, cs, rs, sx) (nI l) i j := by
  obtain ⟨c, hc, hn, hP⟩ := H l hl
  unfold wpX_covers
  try dsimp only
  refine dx_isLayer (dr_if (fun _ => dx_isCell (dr_if (fun a => nm_r (dr_m10 l) (dx_cov26 hl hc hn ?_)) (fun a => ?_))) (fun a => ?_))
  · rw [a, Bool.true_and, hP] at h
    exact h
  · rw [a] at h
    exact h
  · rw [dr_lay_n hl] at a
    exact absurd a (by decide)
theorem dx_covers0 {post : Int32 → Prop} {cn cs rs sx : Nat → Int32} {l i j : Int32} (hl : dr_lay l = false) (h : post 0) : wpX_covers post (cn, cs, rs, sx) l i j := by
  unfold wpX_covers
  try dsimp only
  refine dx_isLayer (dr_if (fun a => ?_) (fun _ => h))
  rw [hl] at a
  exact absurd a (by decide)
theorem dx_covN {post : Int32 → Prop} {cn cs rs sx : Nat → Int32} {P : Nat → Int32 → Int32 → Bool} {l i j : Nat} (H : dr_HX cn cs rs P) (hl : l < 3) (hi : i < 16) (hj : j < 16)
    (h : post (dr_b (P l (nI i) (nI j)))) : wpX_covers post (cn, cs, rs, sx) (nI l) (nI i) (nI j) := by
  refine dx_covers H hl ?_
  rw [dr_cell_n hi hj, Bool.true_and]
  exact h
theorem dx_inCmb {post : Int32 → Prop} {how : Nat} {p q : Bool} (hh : how < 3) (h : post (dr_b (dr_cmb how p q))) : wpX_inCombination post (nI how) (dr_b p) (dr_b q) := by
  rcases (show how = 0 ∨ how = 1 ∨ how = 2 by omega) with rfl | rfl | rfl
  · exact br_t rfl (dr_if (fun a => dr_if (fun b => dr_pt h (by rw [a, b]; rfl)) (fun b => dr_pf h (by rw [a, b]; rfl))) (fun a => dr_pf h (by rw [a]; rfl)))
  · exact br_f (by decide) (br_t rfl (dr_if (fun a => dr_pt h (by rw [a]; rfl)) (fun a => dr_if (fun b => dr_pt h (by rw [a, b]; rfl)) (fun b => dr_pf h (by rw [a, b]; rfl)))))
  · exact br_f (by decide) (br_f (by decide) (dr_if (fun a => dr_if (fun b => dr_pf h (by rw [a, b]; rfl)) (fun b => dr_pt h (by rw [a, b]; rfl))) (fun a => dr_pf h (by rw [a]; rfl))))
theorem dr_S_ij (P : Nat → Int32 → Int32 → Bool) (how a b : Nat) {i j : Nat} (hi : i < 16) : dr_S P how a b (16 * j + i) = dr_cmb how (P a (nI i) (nI j)) (P b (nI i) (nI j)) := by
  unfold dr_S
  rw [show (16 * j + i) % 16 = i by omega, show (16 * j + i) / 16 = j by omega]
theorem dx_fill {post : SX → Prop} {cn cs rs sx : Nat → Int32} {P : Nat → Int32 → Int32 → Bool} {how a b : Nat} (H : dr_HX cn cs rs P) (hh : how < 3) (ha : a < 3) (hb : b < 3)
    (h : ∀ sx' : Nat → Int32, (∀ k, k < 256 → sx' k = dr_b (dr_S P how a b k)) → post (cn, cs, rs, sx')) : wpX_fillSet post (cn, cs, rs, sx) (nI how) (nI a) (nI b) := by
  unfold wpX_fillSet
  try dsimp only
  refine dr_nest (fun c (t : Nat → Int32) => upd t c (dr_b (dr_S P how a b c))) sx 16 16
    (fun n j t => wX_fillSet_3 post (nI how) (nI a) (nI b) n (nI j) cn cs rs t)
    (fun n j m i t => wX_fillSet_13 post (wX_fillSet_3 post (nI how) (nI a) (nI b) n) (nI how) (nI a) (nI b) (nI j) m (nI i) cn cs rs t) ?_ ?_ ?_ ?_
  · exact fun n => br_t dr_end (h _ (dr_fill _ sx 256))
  · exact fun n j s hj hB => br_f (dr_go hj) hB
  · exact fun n j m s hj hA => br_t dr_end (nm_r (nI_1 j) hA)
  · intro n j m i s hj hi hB
    try dsimp only at hB
    refine br_f (dr_go hi) (dx_covN H ha hi hj (dx_covN H hb hi hj (dx_inCmb hh ⟨?_, nm_r ?_ (nm_r (nI_1 i) hB)⟩)))
    · rw [dr_ix]
      exact vp_in_nI (by omega) (by decide)
    · rw [dr_ix, nI_clamp (by omega), dr_b_v, dr_S_ij P how a b hi]
theorem dx_inSet {post : Int32 → Prop} {cn cs rs sx : Nat → Int32} {S : Nat → Bool} {x y : Int32} (hs : ∀ k, k < 256 → sx k = dr_b (S k))
    (h : post (dr_b (dr_in S x y))) : wpX_inSet post (cn, cs, rs, sx) x y := by
  unfold wpX_inSet
  try dsimp only
  refine dx_isCell (dr_if (fun c => ?_) (fun c => ?_))
  · obtain ⟨i, j, hi, hj, rfl, rfl⟩ := dr_cell_of c
    rw [dr_in_n hi hj] at h
    rw [dr_ix, nI_clamp (by omega), hs _ (by omega)]
    exact ⟨vp_in_nI (by omega) (by decide), dr_if (fun a => dr_pt h a) (fun a => dr_pf h a)⟩
  · unfold dr_in at h
    rw [c] at h
    exact h
theorem dx_inSetN {post : Int32 → Prop} {cn cs rs sx : Nat → Int32} {S : Nat → Bool} {i j : Nat} (hs : ∀ k, k < 256 → sx k = dr_b (S k)) (hi : i < 16) (hj : j < 16)
    (h : post (dr_b (S (16 * j + i)))) : wpX_inSet post (cn, cs, rs, sx) (nI i) (nI j) := by
  refine dx_inSet hs ?_
  rw [dr_in_n hi hj]
  exact h
