/-! each question, whole, each side -/
theorem dr_com_n {h a b : Nat} (x : h < 3) (y : a < 3) (z : b < 3) : dr_com (nI h) (nI a) (nI b) = true :=
  dr_com_t (decide_eq_true ⟨nI_pos (by omega), nI_nlt (a := 2) (by omega) (by decide)⟩) (dr_lay_n y) (dr_lay_n z)
theorem dx_areaT {post : Int32 → SX → Prop} {cn cs rs sx : Nat → Int32} {P : Nat → Int32 → Int32 → Bool} {how a b : Nat} (H : dr_HX cn cs rs P) (hh : how < 3) (ha : a < 3) (hb : b < 3)
    (h : ∀ sx' : Nat → Int32, post (dr_it (fun c (s : Int32) => s + dr_b (dr_S P how a b c)) 0 256) (cn, cs, rs, sx')) : wpX_area post (cn, cs, rs, sx) (nI how) (nI a) (nI b) := by
  unfold wpX_area
  try dsimp only
  refine dx_isCom (dr_if (fun _ => dx_fill H hh ha hb (fun sx' hs => dx_area25 hs (h sx'))) (fun z => ?_))
  rw [dr_com_n hh ha hb] at z
  exact absurd z (by decide)
theorem dx_areaF {post : Int32 → SX → Prop} {cn cs rs sx : Nat → Int32} {how a b : Int32} (hc : dr_com how a b = false)
    (h : post (-2) (cn, cs, rs, sx)) : wpX_area post (cn, cs, rs, sx) how a b := by
  unfold wpX_area
  try dsimp only
  refine dx_isCom (dr_if (fun z => ?_) (fun _ => h))
  rw [hc] at z
  exact absurd z (by decide)
theorem dy_areaT {post : Int32 → SY → Prop} {cn le ri bo tp sy : Nat → Int32} {P : Nat → Int32 → Int32 → Bool} {how a b : Nat} (H : dr_HY cn le ri bo tp P) (hh : how < 3) (ha : a < 3) (hb : b < 3)
    (h : ∀ sy' : Nat → Int32, post (dr_it (fun c (s : Int32) => s + dr_b (dr_S P how a b c)) 0 256) (cn, le, ri, bo, tp, sy')) : wpY_area post (cn, le, ri, bo, tp, sy) (nI how) (nI a) (nI b) := by
  unfold wpY_area
  try dsimp only
  exact dy_comb H hh ha hb (fun sy' hs => br_f (by decide) (dy_area19 hs (h sy')))
theorem dy_areaF {post : Int32 → SY → Prop} {cn le ri bo tp sy : Nat → Int32} {how a b : Int32} (hc : dr_com how a b = false)
    (h : post (-2) (cn, le, ri, bo, tp, sy)) : wpY_area post (cn, le, ri, bo, tp, sy) how a b := by
  unfold wpY_area
  try dsimp only
  exact dy_comb0 hc (br_t rfl h)
theorem dx_outlineT {post : Int32 → SX → Prop} {cn cs rs sx : Nat → Int32} {P : Nat → Int32 → Int32 → Bool} {how a b : Nat} (H : dr_HX cn cs rs P) (hh : how < 3) (ha : a < 3) (hb : b < 3)
    (h : ∀ sx' : Nat → Int32, post (dr_it (dr_oc (dr_S P how a b)) 0 256) (cn, cs, rs, sx')) : wpX_outline post (cn, cs, rs, sx) (nI how) (nI a) (nI b) := by
  unfold wpX_outline
  try dsimp only
  refine dx_isCom (dr_if (fun _ => dx_fill H hh ha hb (fun sx' hs => dx_outline25 hs (h sx'))) (fun z => ?_))
  rw [dr_com_n hh ha hb] at z
  exact absurd z (by decide)
theorem dx_outlineF {post : Int32 → SX → Prop} {cn cs rs sx : Nat → Int32} {how a b : Int32} (hc : dr_com how a b = false)
    (h : post (-2) (cn, cs, rs, sx)) : wpX_outline post (cn, cs, rs, sx) how a b := by
  unfold wpX_outline
  try dsimp only
  refine dx_isCom (dr_if (fun z => ?_) (fun _ => h))
  rw [hc] at z
  exact absurd z (by decide)
theorem dy_outlineT {post : Int32 → SY → Prop} {cn le ri bo tp sy : Nat → Int32} {P : Nat → Int32 → Int32 → Bool} {how a b : Nat} (H : dr_HY cn le ri bo tp P) (hh : how < 3) (ha : a < 3) (hb : b < 3)
    (h : ∀ sy' : Nat → Int32, post (dr_it (dr_oc (dr_S P how a b)) 0 256) (cn, le, ri, bo, tp, sy')) : wpY_outline post (cn, le, ri, bo, tp, sy) (nI how) (nI a) (nI b) := by
  unfold wpY_outline
  try dsimp only
  exact dy_comb H hh ha hb (fun sy' hs => br_f (by decide) (dy_outline19 hs (h sy')))
theorem dy_outlineF {post : Int32 → SY → Prop} {cn le ri bo tp sy : Nat → Int32} {how a b : Int32} (hc : dr_com how a b = false)
    (h : post (-2) (cn, le, ri, bo, tp, sy)) : wpY_outline post (cn, le, ri, bo, tp, sy) how a b := by
  unfold wpY_outline
  try dsimp only
  exact dy_comb0 hc (br_t rfl h)
theorem dx_cornersT {post : Int32 → SX → Prop} {cn cs rs sx : Nat → Int32} {P : Nat → Int32 → Int32 → Bool} {how a b : Nat} (H : dr_HX cn cs rs P) (hh : how < 3) (ha : a < 3) (hb : b < 3)
    (h : ∀ sx' : Nat → Int32, post (dr_it (dr_kc (dr_S P how a b)) 0 289) (cn, cs, rs, sx')) : wpX_corners post (cn, cs, rs, sx) (nI how) (nI a) (nI b) := by
  unfold wpX_corners
  try dsimp only
  refine dx_isCom (dr_if (fun _ => dx_fill H hh ha hb (fun sx' hs => dx_corners25 hs (h sx'))) (fun z => ?_))
  rw [dr_com_n hh ha hb] at z
  exact absurd z (by decide)
theorem dx_cornersF {post : Int32 → SX → Prop} {cn cs rs sx : Nat → Int32} {how a b : Int32} (hc : dr_com how a b = false)
    (h : post (-2) (cn, cs, rs, sx)) : wpX_corners post (cn, cs, rs, sx) how a b := by
  unfold wpX_corners
  try dsimp only
  refine dx_isCom (dr_if (fun z => ?_) (fun _ => h))
  rw [hc] at z
  exact absurd z (by decide)
theorem dy_cornersT {post : Int32 → SY → Prop} {cn le ri bo tp sy : Nat → Int32} {P : Nat → Int32 → Int32 → Bool} {how a b : Nat} (H : dr_HY cn le ri bo tp P) (hh : how < 3) (ha : a < 3) (hb : b < 3)
    (h : ∀ sy' : Nat → Int32, post (dr_it (dr_kc (dr_S P how a b)) 0 289) (cn, le, ri, bo, tp, sy')) : wpY_corners post (cn, le, ri, bo, tp, sy) (nI how) (nI a) (nI b) := by
  unfold wpY_corners
  try dsimp only
  exact dy_comb H hh ha hb (fun sy' hs => br_f (by decide) (dy_corners19 hs (h sy')))
theorem dy_cornersF {post : Int32 → SY → Prop} {cn le ri bo tp sy : Nat → Int32} {how a b : Int32} (hc : dr_com how a b = false)
    (h : post (-2) (cn, le, ri, bo, tp, sy)) : wpY_corners post (cn, le, ri, bo, tp, sy) how a b := by
  unfold wpY_corners
  try dsimp only
  exact dy_comb0 hc (br_t rfl h)
theorem dx_thinT {post : Int32 → SX → Prop} {cn cs rs sx : Nat → Int32} {P : Nat → Int32 → Int32 → Bool} {l : Nat} {w : Int32} (H : dr_HX cn cs rs P) (hl : l < 3) (hw : dr_rul w = true)
    (h : ∀ sx' : Nat → Int32, post (dr_it (fun c (s : Int32) => s + dr_b (dr_cnt (dr_L P l) true w c)) 0 256) (cn, cs, rs, sx')) : wpX_thin post (cn, cs, rs, sx) (nI l) w := by
  unfold wpX_thin
  try dsimp only
  refine dx_isLayer (dr_if (fun _ => dx_isRule (dr_if (fun _ => dx_fill (how := 1) H (by decide) hl hl (fun sx' hs => dx_runs (v := true) (S := dr_L P l) (fun k hk => ?_) (h sx'))) (fun z => ?_))) (fun z => ?_))
  · exact (hs k hk).trans (by rw [dr_S_1]; rfl)
  · rw [hw] at z
    exact absurd z (by decide)
  · rw [dr_lay_n hl] at z
    exact absurd z (by decide)
theorem dx_thinF {post : Int32 → SX → Prop} {cn cs rs sx : Nat → Int32} {l w : Int32} (hb : dr_lay l = false ∨ dr_rul w = false)
    (h : post (-2) (cn, cs, rs, sx)) : wpX_thin post (cn, cs, rs, sx) l w := by
  unfold wpX_thin
  try dsimp only
  refine dx_isLayer (dr_if (fun a => dx_isRule (dr_if (fun b => ?_) (fun _ => h))) (fun _ => h))
  rcases hb with z | z
  · rw [a] at z
    exact absurd z (by decide)
  · rw [b] at z
    exact absurd z (by decide)
theorem dy_thinT {post : Int32 → SY → Prop} {cn le ri bo tp sy : Nat → Int32} {P : Nat → Int32 → Int32 → Bool} {l : Nat} {w : Int32} (H : dr_HY cn le ri bo tp P) (hl : l < 3) (hw : dr_rul w = true)
    (h : ∀ sy' : Nat → Int32, post (dr_it (fun c (s : Int32) => s + dr_b (dr_cnt (dr_L P l) true w c)) 0 256) (cn, le, ri, bo, tp, sy')) : wpY_thin post (cn, le, ri, bo, tp, sy) (nI l) w := by
  have t := of_decide_eq_true hw
  unfold wpY_thin
  try dsimp only
  refine dy_comb (how := 0) H (by decide) hl hl (fun sy' hs => br_f (by decide) (br_f t.1 (br_t (Int32.not_lt.mp t.2) (dy_thin29 (S := dr_L P l) (fun k hk => ?_) (h sy')))))
  exact (hs k hk).trans (by rw [dr_S_0]; rfl)
theorem dy_thinL {post : Int32 → SY → Prop} {cn le ri bo tp sy : Nat → Int32} {l w : Int32} (hb : dr_lay l = false)
    (h : post (-2) (cn, le, ri, bo, tp, sy)) : wpY_thin post (cn, le, ri, bo, tp, sy) l w := by
  unfold wpY_thin
  try dsimp only
  exact dy_comb0 (dr_com_a hb) (br_t rfl h)
theorem dy_thinW {post : Int32 → SY → Prop} {cn le ri bo tp sy : Nat → Int32} {P : Nat → Int32 → Int32 → Bool} {l : Nat} {w : Int32} (H : dr_HY cn le ri bo tp P) (hl : l < 3) (hb : dr_rul w = false)
    (h : ∀ sy' : Nat → Int32, post (-2) (cn, le, ri, bo, tp, sy')) : wpY_thin post (cn, le, ri, bo, tp, sy) (nI l) w := by
  unfold wpY_thin
  try dsimp only
  refine dy_comb (how := 0) H (by decide) hl hl (fun sy' hs => br_f (by decide) (br_c (fun _ => h sy') (fun a => br_c (fun b => ?_) (fun _ => h sy'))))
  have q : dr_rul w = true := decide_eq_true ⟨a, Int32.not_lt.mpr b⟩
  rw [q] at hb
  exact absurd hb (by decide)
theorem dx_gapsT {post : Int32 → SX → Prop} {cn cs rs sx : Nat → Int32} {P : Nat → Int32 → Int32 → Bool} {l : Nat} {w : Int32} (H : dr_HX cn cs rs P) (hl : l < 3) (hw : dr_rul w = true)
    (h : ∀ sx' : Nat → Int32, post (dr_it (fun c (s : Int32) => s + dr_b (dr_cnt (dr_L P l) false w c)) 0 256) (cn, cs, rs, sx')) : wpX_gaps post (cn, cs, rs, sx) (nI l) w := by
  unfold wpX_gaps
  try dsimp only
  refine dx_isLayer (dr_if (fun _ => dx_isRule (dr_if (fun _ => dx_fill (how := 1) H (by decide) hl hl (fun sx' hs => dx_runs (v := false) (S := dr_L P l) (fun k hk => ?_) (h sx'))) (fun z => ?_))) (fun z => ?_))
  · exact (hs k hk).trans (by rw [dr_S_1]; rfl)
  · rw [hw] at z
    exact absurd z (by decide)
  · rw [dr_lay_n hl] at z
    exact absurd z (by decide)
theorem dx_gapsF {post : Int32 → SX → Prop} {cn cs rs sx : Nat → Int32} {l w : Int32} (hb : dr_lay l = false ∨ dr_rul w = false)
    (h : post (-2) (cn, cs, rs, sx)) : wpX_gaps post (cn, cs, rs, sx) l w := by
  unfold wpX_gaps
  try dsimp only
  refine dx_isLayer (dr_if (fun a => dx_isRule (dr_if (fun b => ?_) (fun _ => h))) (fun _ => h))
  rcases hb with z | z
  · rw [a] at z
    exact absurd z (by decide)
  · rw [b] at z
    exact absurd z (by decide)
theorem dy_gapsT {post : Int32 → SY → Prop} {cn le ri bo tp sy : Nat → Int32} {P : Nat → Int32 → Int32 → Bool} {l : Nat} {w : Int32} (H : dr_HY cn le ri bo tp P) (hl : l < 3) (hw : dr_rul w = true)
    (h : ∀ sy' : Nat → Int32, post (dr_it (fun c (s : Int32) => s + dr_b (dr_cnt (dr_L P l) false w c)) 0 256) (cn, le, ri, bo, tp, sy')) : wpY_gaps post (cn, le, ri, bo, tp, sy) (nI l) w := by
  have t := of_decide_eq_true hw
  unfold wpY_gaps
  try dsimp only
  refine dy_comb (how := 0) H (by decide) hl hl (fun sy' hs => br_f (by decide) (br_f t.1 (br_t (Int32.not_lt.mp t.2) (dy_gaps29 (S := dr_L P l) (fun k hk => ?_) (h sy')))))
  exact (hs k hk).trans (by rw [dr_S_0]; rfl)
theorem dy_gapsL {post : Int32 → SY → Prop} {cn le ri bo tp sy : Nat → Int32} {l w : Int32} (hb : dr_lay l = false)
    (h : post (-2) (cn, le, ri, bo, tp, sy)) : wpY_gaps post (cn, le, ri, bo, tp, sy) l w := by
  unfold wpY_gaps
  try dsimp only
  exact dy_comb0 (dr_com_a hb) (br_t rfl h)
theorem dy_gapsW {post : Int32 → SY → Prop} {cn le ri bo tp sy : Nat → Int32} {P : Nat → Int32 → Int32 → Bool} {l : Nat} {w : Int32} (H : dr_HY cn le ri bo tp P) (hl : l < 3) (hb : dr_rul w = false)
    (h : ∀ sy' : Nat → Int32, post (-2) (cn, le, ri, bo, tp, sy')) : wpY_gaps post (cn, le, ri, bo, tp, sy) (nI l) w := by
  unfold wpY_gaps
  try dsimp only
  refine dy_comb (how := 0) H (by decide) hl hl (fun sy' hs => br_f (by decide) (br_c (fun _ => h sy') (fun a => br_c (fun b => ?_) (fun _ => h sy'))))
  have q : dr_rul w = true := decide_eq_true ⟨a, Int32.not_lt.mpr b⟩
  rw [q] at hb
  exact absurd hb (by decide)
theorem dx_encT {post : Int32 → Prop} {cn cs rs sx : Nat → Int32} {P : Nat → Int32 → Int32 → Bool} {a b : Nat} (H : dr_HX cn cs rs P) (ha : a < 3) (hb : b < 3)
    (h : post (nI (dr_R (dr_L P a) (dr_L P b)) - 1)) : wpX_enclosure post (cn, cs, rs, sx) (nI a) (nI b) := by
  unfold wpX_enclosure
  try dsimp only
  refine dx_isLayer (dr_if (fun _ => dx_isLayer (dr_if (fun _ => dx_enc H ha hb h) (fun z => ?_))) (fun z => ?_))
  · rw [dr_lay_n hb] at z
    exact absurd z (by decide)
  · rw [dr_lay_n ha] at z
    exact absurd z (by decide)
theorem dx_encF {post : Int32 → Prop} {cn cs rs sx : Nat → Int32} {a b : Int32} (hb : dr_lay a = false ∨ dr_lay b = false) (h : post (-2)) : wpX_enclosure post (cn, cs, rs, sx) a b := by
  unfold wpX_enclosure
  try dsimp only
  refine dx_isLayer (dr_if (fun p => dx_isLayer (dr_if (fun q => ?_) (fun _ => h))) (fun _ => h))
  rcases hb with z | z
  · rw [p] at z
    exact absurd z (by decide)
  · rw [q] at z
    exact absurd z (by decide)
theorem dy_encT {post : Int32 → SY → Prop} {cn le ri bo tp sy : Nat → Int32} {P : Nat → Int32 → Int32 → Bool} {a b : Nat} (H : dr_HY cn le ri bo tp P) (ha : a < 3) (hb : b < 3)
    (h : ∀ sy' : Nat → Int32, post (nI (dr_R (dr_L P a) (dr_L P b)) - 1) (cn, le, ri, bo, tp, sy')) : wpY_enclosure post (cn, le, ri, bo, tp, sy) (nI a) (nI b) := by
  unfold wpY_enclosure
  try dsimp only
  refine dy_isLayer (dr_if (fun _ => dy_comb (how := 0) H (by decide) ha ha (fun sy' hs => br_f (by decide) (dy_enc (S := dr_L P a) H (fun k hk => ?_) hb (h sy')))) (fun z => ?_))
  · exact (hs k hk).trans (by rw [dr_S_0]; rfl)
  · rw [dr_lay_n hb] at z
    exact absurd z (by decide)
theorem dy_encF {post : Int32 → SY → Prop} {cn le ri bo tp sy : Nat → Int32} {a b : Int32} (hb : dr_lay a = false ∨ dr_lay b = false)
    (h : post (-2) (cn, le, ri, bo, tp, sy)) : wpY_enclosure post (cn, le, ri, bo, tp, sy) a b := by
  unfold wpY_enclosure
  try dsimp only
  refine dy_isLayer (dr_if (fun p => ?_) (fun _ => h))
  rcases hb with z | z
  · exact dy_comb0 (dr_com_a z) (br_t rfl h)
  · rw [p] at z
    exact absurd z (by decide)
