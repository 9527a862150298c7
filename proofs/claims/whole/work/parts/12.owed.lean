/-! what is owed -/
def i_Rel (_ : Nat) (u : SX) (v : SY) : Prop := v.1 = u.1 ∧ dr_Rel u.1 u.2.1 u.2.2.1 v.2.1 v.2.2.1 v.2.2.2.1 v.2.2.2.2.1
theorem dr_mk {k : Nat} {cn cs rs sx le ri bo tp sy : Nat → Int32} (R : dr_Rel cn cs rs le ri bo tp) : i_Rel k (cn, cs, rs, sx) (cn, le, ri, bo, tp, sy) := And.intro rfl R
theorem dr_un {k : Nat} {u : SX} {v : SY} (I : i_Rel k u v) : ∃ cn cs rs sx le ri bo tp sy, u = (cn, cs, rs, sx) ∧ v = (cn, le, ri, bo, tp, sy) ∧ dr_Rel cn cs rs le ri bo tp := by
  obtain ⟨cn, cs, rs, sx⟩ := u
  obtain ⟨cn', le, ri, bo, tp, sy⟩ := v
  have e : cn' = cn := I.1
  subst e
  exact ⟨_, _, _, _, _, _, _, _, _, rfl, rfl, I.2⟩
theorem i_up {k : Nat} {u : SX} {v : SY} (h : i_Rel k u v) : i_Rel (k + 4) u v := h
theorem i_vc0 : wpX_init (fun u => wpY_init (fun v => i_Rel 0 u v)) := dr_mk (k := 0) dr_Rel_0
theorem i_vc_add {k : Nat} {u : SX} {v : SY} (I : i_Rel k u v) (hk : k + 4 ≤ 2048) (v1 : Int32) (v2 : Int32) (v3 : Int32) : wpX_add (fun r u' => wpY_add (fun r' v' => r' = r ∧ i_Rel (k + 4) u' v') v v1 v2 v3) u v1 v2 v3 := by
  obtain ⟨cn, cs, rs, sx, le, ri, bo, tp, sy, rfl, rfl, R⟩ := dr_un I
  cases h1 : dr_lay v1 with
  | false => exact dx_addB (Or.inl h1) (dy_addB (Or.inl h1) ⟨rfl, dr_mk R⟩)
  | true =>
    cases h2 : dr_spn v2 with
    | false => exact dx_addB (Or.inr (Or.inl h2)) (dy_addB (Or.inr (Or.inl h2)) ⟨rfl, dr_mk R⟩)
    | true =>
      cases h3 : dr_spn v3 with
      | false => exact dx_addB (Or.inr (Or.inr h3)) (dy_addB (Or.inr (Or.inr h3)) ⟨rfl, dr_mk R⟩)
      | true =>
        obtain ⟨l, hl, rfl⟩ := dr_lay_of h1
        obtain ⟨m, hm, hn⟩ := dr_Rel_cn R hl
        by_cases z : m < 10
        · exact dx_addT hl hn z h2 h3 (dy_addT hl hn z h2 h3 ⟨rfl, dr_mk (dr_Rel_add R hl hn z v2 v3)⟩)
        · have e : m = 10 := by omega
          rw [e] at hn
          exact dx_addF hl hn h2 h3 (dy_addF hl hn h2 h3 ⟨rfl, dr_mk R⟩)
theorem i_vc_drop {k : Nat} {u : SX} {v : SY} (I : i_Rel k u v) (hk : k + 4 ≤ 2048) (v1 : Int32) : wpX_drop (fun r u' => wpY_drop (fun r' v' => r' = r ∧ i_Rel (k + 4) u' v') v v1) u v1 := by
  obtain ⟨cn, cs, rs, sx, le, ri, bo, tp, sy, rfl, rfl, R⟩ := dr_un I
  unfold wpX_drop wpY_drop
  try dsimp only
  cases h1 : dr_lay v1 with
  | false =>
    refine dx_isLayer (dr_if (fun z => ?_) (fun _ => dy_isLayer (dr_if (fun z => ?_) (fun _ => ⟨rfl, dr_mk R⟩))))
    · rw [h1] at z
      exact absurd z (by decide)
    · rw [h1] at z
      exact absurd z (by decide)
  | true =>
    obtain ⟨l, hl, rfl⟩ := dr_lay_of h1
    obtain ⟨c, hc, hn⟩ := dr_Rel_cn R hl
    have hv : vp_in (nI l) 3 := vp_in_nI hl (by decide)
    have hcl : (nI l).toNatClampNeg = l := nI_clamp (by omega)
    cases c with
    | zero =>
      have e : cn (nI l).toNatClampNeg = 0 := by rw [hcl, hn]; rfl
      refine dx_isLayer (dr_if (fun _ => ⟨hv, br_t e (dy_isLayer (dr_if (fun _ => ⟨hv, br_t e ⟨rfl, dr_mk R⟩⟩) (fun z => ?_)))⟩) (fun z => ?_))
      · rw [h1] at z
        exact absurd z (by decide)
      · rw [h1] at z
        exact absurd z (by decide)
    | succ m =>
      have e : ¬ cn (nI l).toNatClampNeg = 0 := by rw [hcl, hn]; exact nI_ne0 (by omega) (by omega)
      have e1 : cn (nI l).toNatClampNeg - 1 = nI m := by rw [hcl, hn, nI_pred]
      refine dx_isLayer (dr_if (fun _ => ⟨hv, br_f e ⟨hv, nm_r e1 (nm_r (dr_m10 l) (dx_drop36 hl (by omega) (dy_isLayer (dr_if (fun _ => ⟨hv, br_f e (nm_r (dr_10m l) (dy_drop25 hl (by omega) hn ⟨rfl, dr_mk (dr_Rel_drop R hl hn (by omega))⟩))⟩) (fun z => ?_)))))⟩⟩) (fun z => ?_))
      · rw [h1] at z
        exact absurd z (by decide)
      · rw [h1] at z
        exact absurd z (by decide)
theorem i_vc_covers {k : Nat} {u : SX} {v : SY} (I : i_Rel k u v) (hk : k + 4 ≤ 2048) (v1 : Int32) (v2 : Int32) (v3 : Int32) : wpX_covers (fun r => wpY_covers (fun r' => r' = r ∧ i_Rel (k + 4) u v) v v1 v2 v3) u v1 v2 v3 := by
  obtain ⟨cn, cs, rs, sx, le, ri, bo, tp, sy, rfl, rfl, R⟩ := dr_un I
  obtain ⟨P, HX, HY⟩ := dr_Rel_P R
  cases h1 : dr_lay v1 with
  | false => exact dx_covers0 h1 (dy_covers0 h1 ⟨rfl, dr_mk R⟩)
  | true =>
    obtain ⟨l, hl, rfl⟩ := dr_lay_of h1
    exact dx_covers HX hl (dy_covers HY hl ⟨rfl, dr_mk R⟩)
theorem i_vc_area {k : Nat} {u : SX} {v : SY} (I : i_Rel k u v) (hk : k + 4 ≤ 2048) (v1 : Int32) (v2 : Int32) (v3 : Int32) : wpX_area (fun r u' => wpY_area (fun r' v' => r' = r ∧ i_Rel (k + 4) u' v') v v1 v2 v3) u v1 v2 v3 := by
  obtain ⟨cn, cs, rs, sx, le, ri, bo, tp, sy, rfl, rfl, R⟩ := dr_un I
  obtain ⟨P, HX, HY⟩ := dr_Rel_P R
  cases h1 : dr_com v1 v2 v3 with
  | false => exact dx_areaF h1 (dy_areaF h1 ⟨rfl, dr_mk R⟩)
  | true =>
    obtain ⟨how, a, b, hh, ha, hb, rfl, rfl, rfl⟩ := dr_com_of h1
    exact dx_areaT HX hh ha hb (fun sx' => dy_areaT HY hh ha hb (fun sy' => ⟨rfl, dr_mk R⟩))
theorem i_vc_outline {k : Nat} {u : SX} {v : SY} (I : i_Rel k u v) (hk : k + 4 ≤ 2048) (v1 : Int32) (v2 : Int32) (v3 : Int32) : wpX_outline (fun r u' => wpY_outline (fun r' v' => r' = r ∧ i_Rel (k + 4) u' v') v v1 v2 v3) u v1 v2 v3 := by
  obtain ⟨cn, cs, rs, sx, le, ri, bo, tp, sy, rfl, rfl, R⟩ := dr_un I
  obtain ⟨P, HX, HY⟩ := dr_Rel_P R
  cases h1 : dr_com v1 v2 v3 with
  | false => exact dx_outlineF h1 (dy_outlineF h1 ⟨rfl, dr_mk R⟩)
  | true =>
    obtain ⟨how, a, b, hh, ha, hb, rfl, rfl, rfl⟩ := dr_com_of h1
    exact dx_outlineT HX hh ha hb (fun sx' => dy_outlineT HY hh ha hb (fun sy' => ⟨rfl, dr_mk R⟩))
theorem i_vc_corners {k : Nat} {u : SX} {v : SY} (I : i_Rel k u v) (hk : k + 4 ≤ 2048) (v1 : Int32) (v2 : Int32) (v3 : Int32) : wpX_corners (fun r u' => wpY_corners (fun r' v' => r' = r ∧ i_Rel (k + 4) u' v') v v1 v2 v3) u v1 v2 v3 := by
  obtain ⟨cn, cs, rs, sx, le, ri, bo, tp, sy, rfl, rfl, R⟩ := dr_un I
  obtain ⟨P, HX, HY⟩ := dr_Rel_P R
  cases h1 : dr_com v1 v2 v3 with
  | false => exact dx_cornersF h1 (dy_cornersF h1 ⟨rfl, dr_mk R⟩)
  | true =>
    obtain ⟨how, a, b, hh, ha, hb, rfl, rfl, rfl⟩ := dr_com_of h1
    exact dx_cornersT HX hh ha hb (fun sx' => dy_cornersT HY hh ha hb (fun sy' => ⟨rfl, dr_mk R⟩))
theorem i_vc_thin {k : Nat} {u : SX} {v : SY} (I : i_Rel k u v) (hk : k + 4 ≤ 2048) (v1 : Int32) (v2 : Int32) : wpX_thin (fun r u' => wpY_thin (fun r' v' => r' = r ∧ i_Rel (k + 4) u' v') v v1 v2) u v1 v2 := by
  obtain ⟨cn, cs, rs, sx, le, ri, bo, tp, sy, rfl, rfl, R⟩ := dr_un I
  obtain ⟨P, HX, HY⟩ := dr_Rel_P R
  cases h1 : dr_lay v1 with
  | false => exact dx_thinF (Or.inl h1) (dy_thinL h1 ⟨rfl, dr_mk R⟩)
  | true =>
    obtain ⟨l, hl, rfl⟩ := dr_lay_of h1
    cases h2 : dr_rul v2 with
    | false => exact dx_thinF (Or.inr h2) (dy_thinW HY hl h2 (fun sy' => ⟨rfl, dr_mk R⟩))
    | true => exact dx_thinT HX hl h2 (fun sx' => dy_thinT HY hl h2 (fun sy' => ⟨rfl, dr_mk R⟩))
theorem i_vc_gaps {k : Nat} {u : SX} {v : SY} (I : i_Rel k u v) (hk : k + 4 ≤ 2048) (v1 : Int32) (v2 : Int32) : wpX_gaps (fun r u' => wpY_gaps (fun r' v' => r' = r ∧ i_Rel (k + 4) u' v') v v1 v2) u v1 v2 := by
  obtain ⟨cn, cs, rs, sx, le, ri, bo, tp, sy, rfl, rfl, R⟩ := dr_un I
  obtain ⟨P, HX, HY⟩ := dr_Rel_P R
  cases h1 : dr_lay v1 with
  | false => exact dx_gapsF (Or.inl h1) (dy_gapsL h1 ⟨rfl, dr_mk R⟩)
  | true =>
    obtain ⟨l, hl, rfl⟩ := dr_lay_of h1
    cases h2 : dr_rul v2 with
    | false => exact dx_gapsF (Or.inr h2) (dy_gapsW HY hl h2 (fun sy' => ⟨rfl, dr_mk R⟩))
    | true => exact dx_gapsT HX hl h2 (fun sx' => dy_gapsT HY hl h2 (fun sy' => ⟨rfl, dr_mk R⟩))
theorem i_vc_enclosure {k : Nat} {u : SX} {v : SY} (I : i_Rel k u v) (hk : k + 4 ≤ 2048) (v1 : Int32) (v2 : Int32) : wpX_enclosure (fun r => wpY_enclosure (fun r' v' => r' = r ∧ i_Rel (k + 4) u v') v v1 v2) u v1 v2 := by
  obtain ⟨cn, cs, rs, sx, le, ri, bo, tp, sy, rfl, rfl, R⟩ := dr_un I
  obtain ⟨P, HX, HY⟩ := dr_Rel_P R
  cases h1 : dr_lay v1 with
  | false => exact dx_encF (Or.inl h1) (dy_encF (Or.inl h1) ⟨rfl, dr_mk R⟩)
  | true =>
    cases h2 : dr_lay v2 with
    | false => exact dx_encF (Or.inr h2) (dy_encF (Or.inr h2) ⟨rfl, dr_mk R⟩)
    | true =>
      obtain ⟨a, ha, rfl⟩ := dr_lay_of h1
      obtain ⟨b, hb, rfl⟩ := dr_lay_of h2
      exact dx_encT HX ha hb (dy_encT HY ha hb (fun sy' => ⟨rfl, dr_mk R⟩))
