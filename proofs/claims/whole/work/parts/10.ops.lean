/-! add and drop, each side -/
theorem dx_addT {post : Int32 → SX → Prop} {cn cs rs sx : Nat → Int32} {l m : Nat} {x y : Int32} (hl : l < 3) (hn : cn l = nI m) (hm : m < 10) (s1 : dr_spn x = true) (s2 : dr_spn y = true)
    (h : post (nI (m + 1)) (upd cn l (nI (m + 1)), upd cs (10 * l + m) x, upd rs (10 * l + m) y, sx)) : wpX_add post (cn, cs, rs, sx) (nI l) x y := by
  have hv : vp_in (nI l) 3 := vp_in_nI hl (by decide)
  have hcl : (nI l).toNatClampNeg = l := nI_clamp (by omega)
  have he : nI l * 10 + cn (nI l).toNatClampNeg = nI (10 * l + m) := by rw [hcl, hn, dr_m10, nI_add]
  have hv2 : vp_in (nI (10 * l + m)) 30 := vp_in_nI (by omega) (by decide)
  have hc2 : (nI (10 * l + m)).toNatClampNeg = 10 * l + m := nI_clamp (by omega)
  unfold wpX_add
  try dsimp only
  refine dx_isLayer (dr_if (fun _ => dx_isSpan (dr_if (fun _ => dx_isSpan (dr_if (fun _ => ⟨hv, br_t ?_ ⟨hv, nm_r he ⟨hv2, nm_r (e' := upd cs (10 * l + m) x) ?_ ⟨hv2, nm_r (e' := upd rs (10 * l + m) y) ?_ ⟨hv, hv, nm_r (e' := upd cn l (nI (m + 1))) ?_ ⟨hv, ?_⟩⟩⟩⟩⟩⟩) (fun z => ?_))) (fun z => ?_))) (fun z => ?_))
  · rw [hcl, hn]
    exact nI_lt (b := 10) hm (by decide)
  · rw [hc2]
  · rw [hc2]
  · rw [hcl, hn, nI_1]
  · rw [hcl, pk_us]
    exact h
  · rw [s2] at z
    exact absurd z (by decide)
  · rw [s1] at z
    exact absurd z (by decide)
  · rw [dr_lay_n hl] at z
    exact absurd z (by decide)
theorem dx_addF {post : Int32 → SX → Prop} {cn cs rs sx : Nat → Int32} {l : Nat} {x y : Int32} (hl : l < 3) (hn : cn l = nI 10) (s1 : dr_spn x = true) (s2 : dr_spn y = true)
    (h : post (-3) (cn, cs, rs, sx)) : wpX_add post (cn, cs, rs, sx) (nI l) x y := by
  have hv : vp_in (nI l) 3 := vp_in_nI hl (by decide)
  have hcl : (nI l).toNatClampNeg = l := nI_clamp (by omega)
  unfold wpX_add
  try dsimp only
  refine dx_isLayer (dr_if (fun _ => dx_isSpan (dr_if (fun _ => dx_isSpan (dr_if (fun _ => ⟨hv, br_f ?_ h⟩) (fun z => ?_))) (fun z => ?_))) (fun z => ?_))
  · rw [hcl, hn]
    decide
  · rw [s2] at z
    exact absurd z (by decide)
  · rw [s1] at z
    exact absurd z (by decide)
  · rw [dr_lay_n hl] at z
    exact absurd z (by decide)
theorem dx_addB {post : Int32 → SX → Prop} {cn cs rs sx : Nat → Int32} {l x y : Int32} (hb : dr_lay l = false ∨ dr_spn x = false ∨ dr_spn y = false)
    (h : post (-2) (cn, cs, rs, sx)) : wpX_add post (cn, cs, rs, sx) l x y := by
  unfold wpX_add
  try dsimp only
  refine dx_isLayer (dr_if (fun a => dx_isSpan (dr_if (fun b => dx_isSpan (dr_if (fun c => ?_) (fun _ => h))) (fun _ => h))) (fun _ => h))
  rcases hb with z | z | z
  · rw [a] at z
    exact absurd z (by decide)
  · rw [b] at z
    exact absurd z (by decide)
  · rw [c] at z
    exact absurd z (by decide)
theorem dy_addT {post : Int32 → SY → Prop} {cn le ri bo tp sy : Nat → Int32} {l m : Nat} {x y : Int32} (hl : l < 3) (hn : cn l = nI m) (hm : m < 10) (s1 : dr_spn x = true) (s2 : dr_spn y = true)
    (h : post (nI (m + 1)) (upd cn l (nI (m + 1)), upd le (10 * l + m) (x / 32), upd ri (10 * l + m) (x - x / 32 * 32), upd bo (10 * l + m) (y / 32), upd tp (10 * l + m) (y - y / 32 * 32), sy)) : wpY_add post (cn, le, ri, bo, tp, sy) (nI l) x y := by
  have hv : vp_in (nI l) 3 := vp_in_nI hl (by decide)
  have hcl : (nI l).toNatClampNeg = l := nI_clamp (by omega)
  have he : 10 * nI l + cn (nI l).toNatClampNeg = nI (10 * l + m) := by rw [hcl, hn, dr_10m, nI_add]
  have hv2 : vp_in (nI (10 * l + m)) 30 := vp_in_nI (by omega) (by decide)
  have hc2 : (nI (10 * l + m)).toNatClampNeg = 10 * l + m := nI_clamp (by omega)
  have t1 := of_decide_eq_true s1
  have t2 := of_decide_eq_true s2
  unfold wpY_add
  try dsimp only
  refine dy_isLayer (dr_if (fun _ => br_f t1.1 (br_t (Int32.not_lt.mp t2.1) ⟨by decide, by decide, br_f t1.2.1 ⟨by decide, br_f t1.2.2 ⟨by decide, by decide, br_f t2.2.1 ⟨by decide, br_t (Int32.not_lt.mp t2.2.2) ⟨hv, br_f ?_ ⟨hv, nm_r he ⟨by decide, hv2, nm_r (e' := upd le (10 * l + m) (x / 32)) ?_ ⟨by decide, hv2, nm_r (e' := upd ri (10 * l + m) (x - x / 32 * 32)) ?_ ⟨by decide, hv2, nm_r (e' := upd bo (10 * l + m) (y / 32)) ?_ ⟨by decide, hv2, nm_r (e' := upd tp (10 * l + m) (y - y / 32 * 32)) ?_ ⟨hv, hv, nm_r (e' := upd cn l (nI (m + 1))) ?_ ⟨hv, ?_⟩⟩⟩⟩⟩⟩⟩⟩⟩⟩⟩⟩)) (fun z => ?_))
  · rw [hcl, hn]
    intro z
    have z' := (nI_eq (b := 10) (by omega) (by decide)).mp z
    omega
  · rw [hc2]
  · rw [hc2]
  · rw [hc2]
  · rw [hc2]
  · rw [hcl, hn, nI_1]
  · rw [hcl, pk_us]
    exact h
  · rw [dr_lay_n hl] at z
    exact absurd z (by decide)
theorem dy_addF {post : Int32 → SY → Prop} {cn le ri bo tp sy : Nat → Int32} {l : Nat} {x y : Int32} (hl : l < 3) (hn : cn l = nI 10) (s1 : dr_spn x = true) (s2 : dr_spn y = true)
    (h : post (-3) (cn, le, ri, bo, tp, sy)) : wpY_add post (cn, le, ri, bo, tp, sy) (nI l) x y := by
  have hv : vp_in (nI l) 3 := vp_in_nI hl (by decide)
  have hcl : (nI l).toNatClampNeg = l := nI_clamp (by omega)
  have t1 := of_decide_eq_true s1
  have t2 := of_decide_eq_true s2
  unfold wpY_add
  try dsimp only
  refine dy_isLayer (dr_if (fun _ => br_f t1.1 (br_t (Int32.not_lt.mp t2.1) ⟨by decide, by decide, br_f t1.2.1 ⟨by decide, br_f t1.2.2 ⟨by decide, by decide, br_f t2.2.1 ⟨by decide, br_t (Int32.not_lt.mp t2.2.2) ⟨hv, br_t ?_ h⟩⟩⟩⟩⟩)) (fun z => ?_))
  · rw [hcl, hn]
    rfl
  · rw [dr_lay_n hl] at z
    exact absurd z (by decide)
theorem dy_addB {post : Int32 → SY → Prop} {cn le ri bo tp sy : Nat → Int32} {l x y : Int32} (hb : dr_lay l = false ∨ dr_spn x = false ∨ dr_spn y = false)
    (h : post (-2) (cn, le, ri, bo, tp, sy)) : wpY_add post (cn, le, ri, bo, tp, sy) l x y := by
  unfold wpY_add
  try dsimp only
  refine dy_isLayer (dr_if (fun a => br_c (fun _ => h) (fun b => br_c (fun c => ⟨by decide, by decide, br_c (fun _ => h) (fun d => ⟨by decide, br_c (fun _ => h) (fun e => ⟨by decide, by decide, br_c (fun _ => h) (fun f => ⟨by decide, br_c (fun g => ?_) (fun _ => h)⟩)⟩)⟩)⟩) (fun _ => h))) (fun _ => h))
  have q1 : dr_spn x = true := decide_eq_true ⟨b, d, e⟩
  have q2 : dr_spn y = true := decide_eq_true ⟨Int32.not_lt.mpr c, f, Int32.not_lt.mpr g⟩
  rcases hb with z | z | z
  · rw [a] at z
    exact absurd z (by decide)
  · rw [q1] at z
    exact absurd z (by decide)
  · rw [q2] at z
    exact absurd z (by decide)
theorem dx_drop36 {post : Int32 → SX → Prop} {cn cs rs sx : Nat → Int32} {l m : Nat} (hl : l < 3) (hm : m < 10)
    (h : post (nI m) (upd cn l (nI m), dr_shf cs (10 * l) m, dr_shf rs (10 * l) m, sx)) : ∃ n, wX_drop_36 post (nI l) (nI m) (nI (10 * l)) n 0 cn cs rs sx := by
  have key : ∃ n, wX_drop_36 post (nI l) (nI m) (nI (10 * l)) n (nI 0) cn (dr_shf cs (10 * l) 0) (dr_shf rs (10 * l) 0) sx := by
    refine dr_up m (fun n k => wX_drop_36 post (nI l) (nI m) (nI (10 * l)) n (nI k) cn (dr_shf cs (10 * l) k) (dr_shf rs (10 * l) k) sx) ?_ ?_
    · exact fun n => br_t (Int32.le_refl _) ⟨vp_in_nI hl (by decide), nm_r (e' := upd cn l (nI m)) (by rw [nI_clamp (by omega)]) h⟩
    · intro n k hk hA
      have v1 : vp_in (nI (10 * l) + nI k + 1) 30 := by
        rw [nI_add, nI_1]
        exact vp_in_nI (by omega) (by decide)
      have v2 : vp_in (nI (10 * l) + nI k) 30 := by
        rw [nI_add]
        exact vp_in_nI (by omega) (by decide)
      have c1 : (nI (10 * l) + nI k + 1).toNatClampNeg = 10 * l + k + 1 := by
        rw [nI_add, nI_1]
        exact nI_clamp (by omega)
      have c2 : (nI (10 * l) + nI k).toNatClampNeg = 10 * l + k := by
        rw [nI_add]
        exact nI_clamp (by omega)
      refine br_f (nI_ge hk (by omega)) ⟨v1, v2, nm_r (e' := dr_shf cs (10 * l) (k + 1)) ?_ ⟨v1, v2, nm_r (e' := dr_shf rs (10 * l) (k + 1)) ?_ (nm_r (nI_1 k) hA)⟩⟩
      · rw [c1, c2, dr_shf_s]
      · rw [c1, c2, dr_shf_s]
  obtain ⟨n, hn⟩ := key
  rw [dr_shf_0, dr_shf_0] at hn
  exact ⟨n, hn⟩
theorem dy_drop25 {post : Int32 → SY → Prop} {cn le ri bo tp sy : Nat → Int32} {l m : Nat} (hl : l < 3) (hm : m < 10) (hn : cn l = nI (m + 1))
    (h : post (nI m) (upd cn l (nI m), dr_shf le (10 * l) 9, dr_shf ri (10 * l) 9, dr_shf bo (10 * l) 9, dr_shf tp (10 * l) 9, sy)) : ∃ n, wY_drop_25 post (nI l) n (nI (10 * l)) cn le ri bo tp sy := by
  have hv : vp_in (nI l) 3 := vp_in_nI hl (by decide)
  have hcl : (nI l).toNatClampNeg = l := nI_clamp (by omega)
  have e9 : 10 * nI l + 9 = nI (10 * l + 9) := by rw [dr_10m, show (9 : Int32) = nI 9 from rfl, nI_add]
  have key : ∃ n, wY_drop_25 post (nI l) n (nI (10 * l + 0)) cn (dr_shf le (10 * l) 0) (dr_shf ri (10 * l) 0) (dr_shf bo (10 * l) 0) (dr_shf tp (10 * l) 0) sy := by
    refine dr_up 9 (fun n k => wY_drop_25 post (nI l) n (nI (10 * l + k)) cn (dr_shf le (10 * l) k) (dr_shf ri (10 * l) k) (dr_shf bo (10 * l) k) (dr_shf tp (10 * l) k) sy) ?_ ?_
    · intro n
      refine br_t (by rw [e9]; exact Int32.le_refl _) ⟨hv, hv, nm_r (e' := upd cn l (nI m)) ?_ ⟨hv, ?_⟩⟩
      · rw [hcl, hn, nI_pred]
      · rw [hcl, pk_us]
        exact h
    · intro n k hk hA
      have v1 : vp_in (nI (10 * l + k) + 1) 30 := by
        rw [nI_1]
        exact vp_in_nI (by omega) (by decide)
      have v2 : vp_in (nI (10 * l + k)) 30 := vp_in_nI (by omega) (by decide)
      have c1 : (nI (10 * l + k) + 1).toNatClampNeg = 10 * l + k + 1 := by
        rw [nI_1]
        exact nI_clamp (by omega)
      have c2 : (nI (10 * l + k)).toNatClampNeg = 10 * l + k := nI_clamp (by omega)
      refine br_f (by rw [e9]; exact nI_ge (by omega) (by omega)) ⟨v1, v2, nm_r (e' := dr_shf le (10 * l) (k + 1)) ?_ ⟨v1, v2, nm_r (e' := dr_shf ri (10 * l) (k + 1)) ?_ ⟨v1, v2, nm_r (e' := dr_shf bo (10 * l) (k + 1)) ?_ ⟨v1, v2, nm_r (e' := dr_shf tp (10 * l) (k + 1)) ?_ (nm_r (nI_1 (10 * l + k)) hA)⟩⟩⟩⟩
      · rw [c1, c2, dr_shf_s]
      · rw [c1, c2, dr_shf_s]
      · rw [c1, c2, dr_shf_s]
      · rw [c1, c2, dr_shf_s]
  obtain ⟨n, hn⟩ := key
  rw [dr_shf_0, dr_shf_0, dr_shf_0, dr_shf_0] at hn
  exact ⟨n, hn⟩
