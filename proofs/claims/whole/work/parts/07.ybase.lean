/-! the reference's small questions -/
theorem dr_dv {c : Nat} (h : c < 256) : nI c / 16 = nI (c / 16) := pk_div (d := 16) (by omega) (by decide) (by decide)
theorem dr_rm {c : Nat} (h : c < 256) : nI c - nI c / 16 * 16 = nI (c % 16) := pk_rem (d := 16) (by omega) (by decide) (by decide)
theorem dy_isLayer {post : Int32 → Prop} {cn le ri bo tp sy : Nat → Int32} {l : Int32} (h : post (dr_b (dr_lay l))) : wpY_isLayer post (cn, le, ri, bo, tp, sy) l := by
  unfold wpY_isLayer
  try dsimp only
  exact br_c (fun a => dr_pf h (dr_lay_l a)) (fun a => br_c (fun b => dr_pf h (dr_lay_h ((dr_2 l).mp b))) (fun b => dr_pt h (dr_lay_t a (fun z => b ((dr_2 l).mpr z)))))
theorem dr_box_a {l r b t i j : Int32} (h : i < l) : dr_box l r b t i j = false := decide_eq_false (fun z => z.1.1 h)
theorem dr_box_b {l r b t i j : Int32} (h : r ≤ i) : dr_box l r b t i j = false := decide_eq_false (fun z => z.1.2 h)
theorem dr_box_c {l r b t i j : Int32} (h : j < b) : dr_box l r b t i j = false := decide_eq_false (fun z => z.2.1 h)
theorem dr_box_d {l r b t i j : Int32} (h : t ≤ j) : dr_box l r b t i j = false := decide_eq_false (fun z => z.2.2 h)
theorem dr_box_t {l r b t i j : Int32} (h1 : ¬ i < l) (h2 : ¬ r ≤ i) (h3 : ¬ j < b) (h4 : ¬ t ≤ j) : dr_box l r b t i j = true := decide_eq_true ⟨⟨h1, h2⟩, ⟨h3, h4⟩⟩
theorem dy_has6 {post : Int32 → Prop} {cn le ri bo tp sy : Nat → Int32} {l c : Nat} {i j : Int32} (hl : l < 3) (hc : c ≤ 10) (hn : cn l = nI c)
    (h : post (dr_b (dr_cy le ri bo tp l c i j))) : ∃ n, wY_has_6 post (nI l) i j cn le ri bo tp sy n (nI (10 * l)) := by
  have hv : vp_in (nI l) 3 := vp_in_nI hl (by decide)
  have hcl : 10 * nI l + cn (nI l).toNatClampNeg = nI (10 * l + c) := by rw [nI_clamp (by omega), hn, dr_10m, nI_add]
  have hin : ∀ k, k < c → vp_in (nI (10 * l + k)) 30 := fun k hk => vp_in_nI (by omega) (by decide)
  have hcl2 : ∀ k, k < c → (nI (10 * l + k)).toNatClampNeg = 10 * l + k := fun k hk => nI_clamp (by omega)
  have hlt : ∀ k, k < c → ¬ 10 * nI l + cn (nI l).toNatClampNeg ≤ nI (10 * l + k) := fun k hk => by
    rw [hcl]
    exact nI_ge (by omega) (by omega)
  refine dr_scan (fun k => dr_box (le (10 * l + k)) (ri (10 * l + k)) (bo (10 * l + k)) (tp (10 * l + k)) i j) c
    (fun n k => wY_has_6 post (nI l) i j cn le ri bo tp sy n (nI (10 * l + k))) ?_ ?_ ?_
  · intro hk n
    exact And.intro hv (br_t (by rw [hcl]; exact Int32.le_refl _) (dr_pf h (dr_any_f c hk)))
  · intro n k hk _ hp
    have hp' := of_decide_eq_true hp
    refine And.intro hv (br_f (hlt k hk) ⟨hin k hk, br_f ?_ ⟨hin k hk, br_f ?_ ⟨hin k hk, br_f ?_ ⟨hin k hk, br_f ?_ (dr_pt h (dr_any_t (k := k) hp c hk))⟩⟩⟩⟩)
    · rw [hcl2 k hk]
      exact hp'.1.1
    · rw [hcl2 k hk]
      exact hp'.1.2
    · rw [hcl2 k hk]
      exact hp'.2.1
    · rw [hcl2 k hk]
      exact hp'.2.2
  · intro n k hk hp hA
    refine And.intro hv (br_f (hlt k hk) ⟨hin k hk, br_c (fun _ => nm_r (nI_1 (10 * l + k)) hA) (fun a => ⟨hin k hk, br_c (fun _ => nm_r (nI_1 (10 * l + k)) hA) (fun b => ⟨hin k hk, br_c (fun _ => nm_r (nI_1 (10 * l + k)) hA) (fun c => ⟨hin k hk, br_c (fun _ => nm_r (nI_1 (10 * l + k)) hA) (fun d => ?_)⟩)⟩)⟩)⟩)
    rw [hcl2 k hk] at a b c d
    try dsimp only at hp
    rw [dr_box_t a b c d] at hp
    exact absurd hp (by decide)
theorem dy_has {post : Int32 → Prop} {cn le ri bo tp sy : Nat → Int32} {P : Nat → Int32 → Int32 → Bool} {l : Nat} {i j x y : Int32} (H : dr_HY cn le ri bo tp P) (hl : l < 3) (e1 : x = i) (e2 : y = j)
    (h : post (dr_b (P l i j))) : wpY_has post (cn, le, ri, bo, tp, sy) (nI l) x y := by
  subst e1 e2
  obtain ⟨c, hc, hn, hP⟩ := H l hl
  unfold wpY_has
  try dsimp only
  rw [hP] at h
  exact nm_r (dr_10m l) (dy_has6 hl hc hn h)
theorem dy_covers {post : Int32 → Prop} {cn le ri bo tp sy : Nat → Int32} {P : Nat → Int32 → Int32 → Bool} {l : Nat} {i j : Int32} (H : dr_HY cn le ri bo tp P) (hl : l < 3)
    (h : post (dr_b (dr_cell i j && P l i j))) : wpY_covers post (cn, le, ri, bo, tp, sy) (nI l) i j := by
  have out : dr_cell i j = false → post 0 := fun z => by
    rw [z] at h
    exact h
  unfold wpY_covers
  try dsimp only
  refine dy_isLayer (dr_if (fun _ => br_c (fun a => out (dr_cell_x (dr_ax_l a))) (fun a => br_c (fun b => out (dr_cell_x (dr_ax_h ((dr_15 i).mp b)))) (fun b =>
    br_c (fun c => out (dr_cell_y (dr_ax_l c))) (fun c => br_c (fun d => out (dr_cell_y (dr_ax_h ((dr_15 j).mp d)))) (fun d => dy_has H hl rfl rfl (dr_if (fun e => ?_) (fun e => ?_))))))) (fun z => ?_))
  · refine dr_pt h ?_
    rw [e, dr_cell_t (dr_ax_t a (fun z => b ((dr_15 i).mpr z))) (dr_ax_t c (fun z => d ((dr_15 j).mpr z)))]
    rfl
  · refine dr_pf h ?_
    rw [e, Bool.and_false]
  · rw [dr_lay_n hl] at z
    exact absurd z (by decide)
theorem dy_covers0 {post : Int32 → Prop} {cn le ri bo tp sy : Nat → Int32} {l i j : Int32} (hl : dr_lay l = false) (h : post 0) : wpY_covers post (cn, le, ri, bo, tp, sy) l i j := by
  unfold wpY_covers
  try dsimp only
  refine dy_isLayer (dr_if (fun a => ?_) (fun _ => h))
  rw [hl] at a
  exact absurd a (by decide)
theorem dy_comb30 {post : Int32 → SY → Prop} {cn le ri bo tp sy : Nat → Int32} {P : Nat → Int32 → Int32 → Bool} {how a b : Nat} (H : dr_HY cn le ri bo tp P) (hh : how < 3) (ha : a < 3) (hb : b < 3)
    (h : ∀ sy' : Nat → Int32, (∀ k, k < 256 → sy' k = dr_b (dr_S P how a b k)) → post 1 (cn, le, ri, bo, tp, sy')) : ∃ n, wY_combine_30 post (nI how) (nI a) (nI b) n 0 cn le ri bo tp sy := by
  refine dr_loop (fun c (t : Nat → Int32) => upd t c (dr_b (dr_S P how a b c))) sy 256 (fun n c t => wY_combine_30 post (nI how) (nI a) (nI b) n (nI c) cn le ri bo tp t) ?_ ?_
  · exact fun n => br_t dr_end256 (h _ (dr_fill _ sy 256))
  · intro n c s hc hA
    try dsimp only at hA
    have hv : vp_in (nI c) 256 := vp_in_nI hc (by decide)
    have K : ∀ (v : Int32) (w : Bool), v = dr_b w → dr_S P how a b c = w → (vp_in (nI c) 256 ∧ ∀ t, t = upd s (nI c).toNatClampNeg (vp_nar .boolean v) → ∀ x, x = nI c + 1 → wY_combine_30 post (nI how) (nI a) (nI b) n x cn le ri bo tp t) := by
      intro v w ev ew
      refine ⟨hv, nm_r ?_ (nm_r (nI_1 c) hA)⟩
      rw [ev, dr_b_v, nI_clamp (by omega), ew]
    have E : dr_S P how a b c = dr_cmb how (P a (nI (c % 16)) (nI (c / 16))) (P b (nI (c % 16)) (nI (c / 16))) := rfl
    refine br_f (dr_go256 hc) ⟨by decide, by decide, dy_has H ha (dr_rm hc) (dr_dv hc) ⟨by decide, by decide, dy_has H hb (dr_rm hc) (dr_dv hc) ?_⟩⟩
    generalize P a (nI (c % 16)) (nI (c / 16)) = p at E ⊢
    generalize P b (nI (c % 16)) (nI (c / 16)) = q at E ⊢
    rcases (show how = 0 ∨ how = 1 ∨ how = 2 by omega) with rfl | rfl | rfl
    · exact br_t rfl (dr_if (fun x => dr_if (fun y => K 1 true rfl (by rw [E, x, y]; rfl)) (fun y => K 0 false rfl (by rw [E, x, y]; rfl))) (fun x => K 0 false rfl (by rw [E, x]; rfl)))
    · exact br_f (by decide) (br_t rfl (dr_if (fun x => K 1 true rfl (by rw [E, x]; rfl)) (fun x => dr_if (fun y => K 1 true rfl (by rw [E, x, y]; rfl)) (fun y => K 0 false rfl (by rw [E, x, y]; rfl)))))
    · exact br_f (by decide) (br_f (by decide) (dr_if (fun x => dr_if (fun y => K 0 false rfl (by rw [E, x, y]; rfl)) (fun y => K 1 true rfl (by rw [E, x, y]; rfl))) (fun x => K 0 false rfl (by rw [E, x]; rfl))))
theorem dy_comb {post : Int32 → SY → Prop} {cn le ri bo tp sy : Nat → Int32} {P : Nat → Int32 → Int32 → Bool} {how a b : Nat} (H : dr_HY cn le ri bo tp P) (hh : how < 3) (ha : a < 3) (hb : b < 3)
    (h : ∀ sy' : Nat → Int32, (∀ k, k < 256 → sy' k = dr_b (dr_S P how a b k)) → post 1 (cn, le, ri, bo, tp, sy')) : wpY_combine post (cn, le, ri, bo, tp, sy) (nI how) (nI a) (nI b) := by
  unfold wpY_combine
  try dsimp only
  refine br_f (nI_pos (by omega)) (br_f (nI_nlt (a := 2) (by omega) (by decide)) (dy_isLayer (dr_if (fun _ => dy_isLayer (dr_if (fun _ => dy_comb30 H hh ha hb h) (fun z => ?_))) (fun z => ?_))))
  · rw [dr_lay_n hb] at z
    exact absurd z (by decide)
  · rw [dr_lay_n ha] at z
    exact absurd z (by decide)
theorem dy_comb0 {post : Int32 → SY → Prop} {cn le ri bo tp sy : Nat → Int32} {how a b : Int32} (hc : dr_com how a b = false)
    (h : post 0 (cn, le, ri, bo, tp, sy)) : wpY_combine post (cn, le, ri, bo, tp, sy) how a b := by
  unfold wpY_combine
  try dsimp only
  refine br_c (fun _ => h) (fun x => br_c (fun _ => h) (fun y => dy_isLayer (dr_if (fun p => dy_isLayer (dr_if (fun q => ?_) (fun _ => h))) (fun _ => h))))
  rw [dr_com_t (decide_eq_true ⟨x, y⟩) p q] at hc
  exact absurd hc (by decide)
theorem dy_in {post : Int32 → Prop} {cn le ri bo tp sy : Nat → Int32} {S : Nat → Bool} {x y : Int32} (hs : ∀ k, k < 256 → sy k = dr_b (S k))
    (h : post (dr_b (dr_in S x y))) : wpY_in post (cn, le, ri, bo, tp, sy) x y := by
  have out : dr_cell x y = false → post 0 := fun z => by
    unfold dr_in at h
    rw [z] at h
    exact h
  unfold wpY_in
  try dsimp only
  refine br_c (fun a => out (dr_cell_x (dr_ax_l a))) (fun a => br_c (fun b => out (dr_cell_x (dr_ax_h ((dr_15 x).mp b)))) (fun b =>
    br_c (fun c => out (dr_cell_y (dr_ax_l c))) (fun c => br_c (fun d => out (dr_cell_y (dr_ax_h ((dr_15 y).mp d)))) (fun d => ?_))))
  obtain ⟨i, j, hi, hj, rfl, rfl⟩ := dr_cell_of (dr_cell_t (dr_ax_t a (fun z => b ((dr_15 x).mpr z))) (dr_ax_t c (fun z => d ((dr_15 y).mpr z))))
  rw [dr_in_n hi hj] at h
  rw [dr_iy, nI_clamp (by omega), hs _ (by omega)]
  exact ⟨vp_in_nI (by omega) (by decide), dr_if (fun a => dr_pt h a) (fun a => dr_pf h a)⟩
theorem dy_inN {post : Int32 → Prop} {cn le ri bo tp sy : Nat → Int32} {S : Nat → Bool} {i j : Nat} (hs : ∀ k, k < 256 → sy k = dr_b (S k)) (hi : i < 16) (hj : j < 16)
    (h : post (dr_b (S (16 * j + i)))) : wpY_in post (cn, le, ri, bo, tp, sy) (nI i) (nI j) := by
  refine dy_in hs ?_
  rw [dr_in_n hi hj]
  exact h
