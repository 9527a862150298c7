/-! the component's questions: area, outline, corners, thin, gaps, enclosure -/
theorem dx_area25 {post : Int32 → SX → Prop} {cn cs rs sx : Nat → Int32} {S : Nat → Bool} (hs : ∀ k, k < 256 → sx k = dr_b (S k))
    (h : post (dr_it (fun c (s : Int32) => s + dr_b (S c)) 0 256) (cn, cs, rs, sx)) : ∃ n, wX_area_25 post cn cs rs sx n 0 0 := by
  refine dr_nest (fun c (s : Int32) => s + dr_b (S c)) 0 16 16 (fun n j s => wX_area_25 post cn cs rs sx n s (nI j))
    (fun n j m i s => wX_area_35 post (wX_area_25 post cn cs rs sx n) (nI j) cn cs rs sx m s (nI i)) ?_ ?_ ?_ ?_
  · exact fun n => br_t dr_end h
  · exact fun n j s hj hB => br_f (dr_go hj) hB
  · exact fun n j m s hj hA => br_t dr_end (nm_r (nI_1 j) hA)
  · intro n j m i s hj hi hB
    try dsimp only at hB
    refine br_f (dr_go hi) (dx_inSetN hs hi hj (dr_if (fun a => ?_) (fun a => ?_)))
    · rw [a] at hB
      exact nm_e (nm_r (nI_1 i) hB)
    · rw [a, dr_z] at hB
      exact nm_r (nI_1 i) hB
theorem dr_ng {W : Int32 → Prop} (s : Int32) {c : Bool} (h : W (s + dr_b (!c))) : (dr_b c = 0 → ∀ x, x = s + 1 → W x) ∧ (¬ dr_b c = 0 → W s) := by
  cases c
  · exact br_t rfl (nm_e h)
  · have e : s + dr_b (!true) = s := Int32.add_zero s
    rw [e] at h
    exact br_f (by decide) h
/-- the sides of a cell that lie at the edge of the set, added to s -/
def dr_eg (S : Nat → Bool) (x y s : Int32) : Int32 := s + dr_b (!dr_in S (x - 1) y) + dr_b (!dr_in S (x + 1) y) + dr_b (!dr_in S x (y - 1)) + dr_b (!dr_in S x (y + 1))
theorem dr_eg_0 (S : Nat → Bool) (x y s : Int32) : s + dr_eg S x y 0 = dr_eg S x y s := by
  unfold dr_eg
  rw [Int32.zero_add, ← Int32.add_assoc, ← Int32.add_assoc, ← Int32.add_assoc]
theorem dx_edges {post : Int32 → Prop} {cn cs rs sx : Nat → Int32} {S : Nat → Bool} {x y : Int32} (hs : ∀ k, k < 256 → sx k = dr_b (S k))
    (h : post (dr_eg S x y 0)) : wpX_edgesOfCell post (cn, cs, rs, sx) x y := by
  unfold wpX_edgesOfCell
  try dsimp only
  refine dx_inSet hs (dr_ng (W := fun z => wX_edgesOfCell_16 post x y z cn cs rs sx) 0 ?_)
  try dsimp only
  unfold wX_edgesOfCell_16
  refine dx_inSet hs (dr_ng (W := fun z => wX_edgesOfCell_30 post x y z cn cs rs sx) _ ?_)
  try dsimp only
  unfold wX_edgesOfCell_30
  refine dx_inSet hs (dr_ng (W := fun z => wX_edgesOfCell_44 post x y z cn cs rs sx) _ ?_)
  try dsimp only
  unfold wX_edgesOfCell_44
  exact dx_inSet hs (dr_ng (W := post) _ h)
/-- what outline adds for a cell -/
def dr_oc (S : Nat → Bool) (c : Nat) (s : Int32) : Int32 := if S c = true then dr_eg S (nI (c % 16)) (nI (c / 16)) s else s
theorem dr_oc_t {S : Nat → Bool} {i j : Nat} (hi : i < 16) {s : Int32} (h : S (16 * j + i) = true) : dr_oc S (16 * j + i) s = dr_eg S (nI i) (nI j) s := by
  unfold dr_oc
  rw [if_pos h, show (16 * j + i) % 16 = i by omega, show (16 * j + i) / 16 = j by omega]
theorem dr_oc_f {S : Nat → Bool} {c : Nat} {s : Int32} (h : S c = false) : dr_oc S c s = s := by
  unfold dr_oc
  rw [h]
  rfl
theorem dx_outline25 {post : Int32 → SX → Prop} {cn cs rs sx : Nat → Int32} {S : Nat → Bool} (hs : ∀ k, k < 256 → sx k = dr_b (S k))
    (h : post (dr_it (dr_oc S) 0 256) (cn, cs, rs, sx)) : ∃ n, wX_outline_25 post cn cs rs sx n 0 0 := by
  refine dr_nest (dr_oc S) 0 16 16 (fun n j s => wX_outline_25 post cn cs rs sx n s (nI j))
    (fun n j m i s => wX_outline_35 post (wX_outline_25 post cn cs rs sx n) (nI j) cn cs rs sx m s (nI i)) ?_ ?_ ?_ ?_
  · exact fun n => br_t dr_end h
  · exact fun n j s hj hB => br_f (dr_go hj) hB
  · exact fun n j m s hj hA => br_t dr_end (nm_r (nI_1 j) hA)
  · intro n j m i s hj hi hB
    try dsimp only at hB
    refine br_f (dr_go hi) (dx_inSetN hs hi hj (dr_if (fun a => ?_) (fun a => ?_)))
    · rw [dr_oc_t hi a, ← dr_eg_0] at hB
      exact dx_edges hs (nm_e (nm_r (nI_1 i) hB))
    · rw [dr_oc_f a] at hB
      exact nm_r (nI_1 i) hB
/-- four cells about a point, named by row below and row above -/
def dr_p4 (a b c d : Bool) : Bool := ((a != b) != (c != d)) && ((a != c) != (b != d))
def dr_pl (S : Nat → Bool) (x y : Int32) : Bool := dr_p4 (dr_in S (x - 1) (y - 1)) (dr_in S x (y - 1)) (dr_in S (x - 1) y) (dr_in S x y)
theorem dx_p4 {post : Int32 → Prop} {cn cs rs sx : Nat → Int32} (a b c d : Bool) (h : post (dr_b (dr_p4 a b c d))) :
    (dr_b a = dr_b b → wX_isPlainCorner_50 post (dr_b a) (dr_b b) (dr_b c) (dr_b d) 0 cn cs rs sx) ∧ (¬ dr_b a = dr_b b → wX_isPlainCorner_50 post (dr_b a) (dr_b b) (dr_b c) (dr_b d) 1 cn cs rs sx) := by
  refine dr_xor (P := fun z => wX_isPlainCorner_50 post (dr_b a) (dr_b b) (dr_b c) (dr_b d) z cn cs rs sx) ?_
  try dsimp only
  unfold wX_isPlainCorner_50
  refine dr_xor (P := fun z => wX_isPlainCorner_64 post (dr_b a) (dr_b b) (dr_b c) (dr_b d) (dr_b (a != b)) z cn cs rs sx) ?_
  try dsimp only
  unfold wX_isPlainCorner_64
  refine dr_xor (P := fun z => wX_isPlainCorner_77 post (dr_b b) (dr_b d) (dr_b (a != b)) (dr_b (c != d)) z cn cs rs sx) ?_
  try dsimp only
  unfold wX_isPlainCorner_77
  refine dr_xor (P := fun z => wX_isPlainCorner_91 post (dr_b (a != b)) (dr_b (c != d)) (dr_b (a != c)) z cn cs rs sx) ?_
  try dsimp only
  unfold wX_isPlainCorner_91
  refine dr_same (fun e => dr_pf h ?_) (fun e => dr_same (fun f => dr_pf h ?_) (fun f => dr_pt h ?_))
  · unfold dr_p4
    rw [e, bne_self_eq_false]
    rfl
  · unfold dr_p4
    rw [f, bne_self_eq_false, Bool.and_false]
  · unfold dr_p4
    rw [bne_iff_ne.mpr e, bne_iff_ne.mpr f]
    rfl
theorem dx_plain {post : Int32 → Prop} {cn cs rs sx : Nat → Int32} {S : Nat → Bool} {x y : Int32} (hs : ∀ k, k < 256 → sx k = dr_b (S k))
    (h : post (dr_b (dr_pl S x y))) : wpX_isPlainCorner post (cn, cs, rs, sx) x y := by
  unfold wpX_isPlainCorner
  try dsimp only
  exact dx_inSet hs (dx_inSet hs (dx_inSet hs (dx_inSet hs (dx_p4 _ _ _ _ h))))
/-- what corners adds for a point -/
def dr_kc (S : Nat → Bool) (c : Nat) (s : Int32) : Int32 := s + dr_b (dr_pl S (nI (c % 17)) (nI (c / 17)))
theorem dr_kc_ij {S : Nat → Bool} {i j : Nat} (hi : i < 17) {s : Int32} : dr_kc S (17 * j + i) s = s + dr_b (dr_pl S (nI i) (nI j)) := by
  unfold dr_kc
  rw [show (17 * j + i) % 17 = i by omega, show (17 * j + i) / 17 = j by omega]
theorem dx_corners25 {post : Int32 → SX → Prop} {cn cs rs sx : Nat → Int32} {S : Nat → Bool} (hs : ∀ k, k < 256 → sx k = dr_b (S k))
    (h : post (dr_it (dr_kc S) 0 289) (cn, cs, rs, sx)) : ∃ n, wX_corners_25 post cn cs rs sx n 0 0 := by
  refine dr_nest (dr_kc S) 0 17 17 (fun n j s => wX_corners_25 post cn cs rs sx n s (nI j))
    (fun n j m i s => wX_corners_35 post (wX_corners_25 post cn cs rs sx n) (nI j) cn cs rs sx m s (nI i)) ?_ ?_ ?_ ?_
  · exact fun n => br_t dr_end17 h
  · exact fun n j s hj hB => br_f (dr_go17 hj) hB
  · exact fun n j m s hj hA => br_t dr_end17 (nm_r (nI_1 j) hA)
  · intro n j m i s hj hi hB
    try dsimp only at hB
    rw [dr_kc_ij hi] at hB
    refine br_f (dr_go17 hi) (dx_plain hs (dr_if (fun a => ?_) (fun a => ?_)))
    · rw [a] at hB
      exact nm_e (nm_r (nI_1 i) hB)
    · rw [a, dr_z] at hB
      exact nm_r (nI_1 i) hB
theorem dx_steps {post : Int32 → Prop} {cn cs rs sx : Nat → Int32} {S : Nat → Bool} {x y dx dy : Int32} {w : Bool} (hs : ∀ k, k < 256 → sx k = dr_b (S k))
    (h : post (dr_sx S x y dx dy w)) : wpX_stepsTo post (cn, cs, rs, sx) x y dx dy (dr_b w) := by
  unfold wpX_stepsTo
  try dsimp only
  refine dr_scan (fun k => dr_ps S x y dx dy (k + 1) == w) 16 (fun n k => wX_stepsTo_3 post x y dx dy (dr_b w) cn cs rs sx n (nI (k + 1))) ?_ ?_ ?_
  · intro hk n
    have e : dr_ff (fun k => dr_ps S x y dx dy k == w) 16 1 = 17 := by
      refine dr_ff_eq _ 16 1 17 (by omega) (by omega) (fun k h1 h2 => ?_) (fun h => absurd h (by omega))
      have q := hk (k - 1) (by omega)
      try dsimp only at q ⊢
      rw [show k - 1 + 1 = k by omega] at q
      exact q
    have e2 : dr_sx S x y dx dy w = 0 := if_pos e
    rw [e2] at h
    exact br_t dr_end17 h
  · intro n i hi hk hp
    try dsimp only at hp
    have e : dr_ff (fun k => dr_ps S x y dx dy k == w) 16 1 = i + 1 := by
      refine dr_ff_eq _ 16 1 (i + 1) (by omega) (by omega) (fun k h1 h2 => ?_) (fun _ => hp)
      have q := hk (k - 1) (by omega)
      try dsimp only at q ⊢
      rw [show k - 1 + 1 = k by omega] at q
      exact q
    have e2 : dr_sx S x y dx dy w = nI (i + 1) := by
      unfold dr_sx dr_st
      rw [e, if_neg (by omega)]
    rw [e2] at h
    exact br_f (dr_go17 (by omega)) (dx_inSet hs (dr_same (fun _ => h) (fun z => absurd (eq_of_beq hp) z)))
  · intro n i hi hp hA
    try dsimp only at hp
    refine br_f (dr_go17 (by omega)) (dx_inSet hs (dr_same (fun z => ?_) (fun _ => nm_r (nI_1 (i + 1)) hA)))
    have z' : (dr_ps S x y dx dy (i + 1) == w) = true := beq_iff_eq.mpr z
    rw [hp] at z'
    exact absurd z' (by decide)
theorem dx_short {post : Int32 → Prop} {cn cs rs sx : Nat → Int32} {S : Nat → Bool} {x y dx dy lim : Int32} (hs : ∀ k, k < 256 → sx k = dr_b (S k))
    (h : post (dr_b (dr_sh S x y dx dy lim (!dr_in S x y)))) : wpX_inShortRun post (cn, cs, rs, sx) x y dx dy lim := by
  have key : ∀ o : Bool, post (dr_b (dr_sh S x y dx dy lim o)) → wX_inShortRun_14 post x y dx dy lim (dr_b o) cn cs rs sx := by
    intro o h
    unfold wX_inShortRun_14
    exact dx_steps hs (dx_steps hs (br_c (fun a => dr_pf h (decide_eq_false (fun z => z.1 a))) (fun a => br_c (fun b => dr_pf h (decide_eq_false (fun z => z.2.1 b))) (fun b =>
      br_c (fun c => dr_pf h (decide_eq_false (fun z => z.2.2 c))) (fun c => dr_pt h (decide_eq_true ⟨a, b, c⟩))))))
  unfold wpX_inShortRun
  try dsimp only
  refine dx_inSet hs (dr_if (fun a => ?_) (fun a => ?_))
  · rw [a] at h
    exact key false h
  · rw [a] at h
    exact key true h
theorem dx_shortN {post : Int32 → Prop} {cn cs rs sx : Nat → Int32} {S : Nat → Bool} {i j : Nat} {dx dy lim : Int32} (hs : ∀ k, k < 256 → sx k = dr_b (S k)) (hi : i < 16) (hj : j < 16)
    (h : post (dr_b (dr_sh S (nI i) (nI j) dx dy lim (!S (16 * j + i))))) : wpX_inShortRun post (cn, cs, rs, sx) (nI i) (nI j) dx dy lim := by
  refine dx_short hs ?_
  rw [dr_in_n hi hj]
  exact h
theorem dx_runs {post : Int32 → Prop} {cn cs rs sx : Nat → Int32} {S : Nat → Bool} {v : Bool} {lim : Int32} (hs : ∀ k, k < 256 → sx k = dr_b (S k))
    (h : post (dr_it (fun c (s : Int32) => s + dr_b (dr_cnt S v lim c)) 0 256)) : wpX_cellsInShortRuns post (cn, cs, rs, sx) (dr_b v) lim := by
  unfold wpX_cellsInShortRuns
  try dsimp only
  refine dr_nest (fun c (s : Int32) => s + dr_b (dr_cnt S v lim c)) 0 16 16 (fun n j s => wX_cellsInShortRuns_5 post (dr_b v) lim cn cs rs sx n s (nI j))
    (fun n j m i s => wX_cellsInShortRuns_15 post (wX_cellsInShortRuns_5 post (dr_b v) lim cn cs rs sx n) (dr_b v) lim (nI j) cn cs rs sx m s (nI i)) ?_ ?_ ?_ ?_
  · exact fun n => br_t dr_end h
  · exact fun n j s hj hB => br_f (dr_go hj) hB
  · exact fun n j m s hj hA => br_t dr_end (nm_r (nI_1 j) hA)
  · intro n j m i s hj hi hB
    try dsimp only at hB
    have ec : dr_cnt S v lim (16 * j + i) = ((S (16 * j + i) == v) && (dr_sh S (nI i) (nI j) 1 0 lim (!S (16 * j + i)) || dr_sh S (nI i) (nI j) 0 1 lim (!S (16 * j + i)))) := by
      unfold dr_cnt
      rw [show (16 * j + i) % 16 = i by omega, show (16 * j + i) / 16 = j by omega]
    rw [ec] at hB
    refine br_f (dr_go hi) (dx_inSetN hs hi hj (dr_same (fun a => dx_shortN hs hi hj (dr_if (fun b => ?_) (fun b => dx_shortN hs hi hj (dr_if (fun c => ?_) (fun c => ?_))))) (fun a => ?_)))
    · rw [beq_iff_eq.mpr a, b] at hB
      exact nm_e (nm_r (nI_1 i) hB)
    · rw [beq_iff_eq.mpr a, b, c] at hB
      exact nm_e (nm_r (nI_1 i) hB)
    · rw [beq_iff_eq.mpr a, b, c, show (true && (false || false)) = false from rfl, dr_z] at hB
      exact nm_r (nI_1 i) hB
    · rw [beq_eq_false_iff_ne.mpr a, Bool.false_and, dr_z] at hB
      exact nm_r (nI_1 i) hB
theorem dr_adI {W : Int32 → Prop} {i p : Nat} (hi : i < 16) (hp : p < 16) (h : W (nI (dr_ad i p))) : (nI i ≤ nI p → W (nI p - nI i)) ∧ (¬ nI i ≤ nI p → W (nI i - nI p)) := by
  unfold dr_ad at h
  refine pk_le i p (fun z => ?_) (fun z => ?_)
  · rw [if_neg (by omega), ← pk_sub z] at h
    exact h
  · rw [if_pos z, ← pk_sub (Nat.le_of_lt z)] at h
    exact h
theorem dr_mxI {W : Int32 → Prop} {a b : Nat} (ha : a < 100) (hb : b < 100) (h : W (nI (if b < a then a else b))) : (nI a ≤ nI b → W (nI b)) ∧ (¬ nI a ≤ nI b → W (nI a)) := by
  refine pk_le a b (fun z => ?_) (fun z => ?_)
  · rw [if_neg (by omega)] at h
    exact h
  · rw [if_pos z] at h
    exact h
theorem dr_ad_16 {a b : Nat} (ha : a < 16) (hb : b < 16) : dr_ad a b < 16 := by
  unfold dr_ad
  by_cases h : b < a
  · rw [if_pos h]; omega
  · rw [if_neg h]; omega
theorem dr_g1_le (B : Nat → Bool) (c d r : Nat) : dr_g1 B c d r ≤ r := by
  unfold dr_g1
  by_cases h : dr_ds c d < r ∧ B d = true
  · rw [if_pos h]; omega
  · rw [if_neg h]; exact Nat.le_refl r
theorem dr_ds_ij {i j p q : Nat} (hi : i < 16) (hp : p < 16) : dr_ds (16 * j + i) (16 * q + p) = if dr_ad j q < dr_ad i p then dr_ad i p else dr_ad j q := by
  unfold dr_ds
  rw [show (16 * j + i) % 16 = i by omega, show (16 * j + i) / 16 = j by omega, show (16 * q + p) % 16 = p by omega, show (16 * q + p) / 16 = q by omega]
/-- a layer by 16 * row + column -/
def dr_L (P : Nat → Int32 → Int32 → Bool) (l k : Nat) : Bool := P l (nI (k % 16)) (nI (k / 16))
theorem dr_L_ij (P : Nat → Int32 → Int32 → Bool) (l : Nat) {i j : Nat} (hi : i < 16) : dr_L P l (16 * j + i) = P l (nI i) (nI j) := by
  unfold dr_L
  rw [show (16 * j + i) % 16 = i by omega, show (16 * j + i) / 16 = j by omega]
theorem dx_reach {post : Int32 → Prop} {cn cs rs sx : Nat → Int32} {P : Nat → Int32 → Int32 → Bool} {b i j r : Nat} (H : dr_HX cn cs rs P) (hb : b < 3) (hi : i < 16) (hj : j < 16) (hr : r ≤ 9)
    (h : post (nI (dr_it (dr_g1 (dr_L P b) (16 * j + i)) r 256))) : wpX_reachToShape post (cn, cs, rs, sx) (nI b) (nI i) (nI j) (nI r) := by
  unfold wpX_reachToShape
  try dsimp only
  have key : ∃ n, r ≤ 9 → wX_reachToShape_7 post (nI b) (nI i) (nI j) cn cs rs sx n (nI r) (nI 0) := by
    refine dr_nest (dr_g1 (dr_L P b) (16 * j + i)) r 16 16 (fun n q s => s ≤ 9 → wX_reachToShape_7 post (nI b) (nI i) (nI j) cn cs rs sx n (nI s) (nI q))
      (fun n q m p s => s ≤ 9 → wX_reachToShape_17 post (wX_reachToShape_7 post (nI b) (nI i) (nI j) cn cs rs sx n) (nI b) (nI i) (nI j) (nI q) cn cs rs sx m (nI s) (nI p)) ?_ ?_ ?_ ?_
    · exact fun n _ => br_t dr_end h
    · exact fun n q s hq hB hs => br_f (dr_go hq) (hB.elim fun m hm => ⟨m, hm hs⟩)
    · exact fun n q m s hq hA hs => br_t dr_end (nm_r (nI_1 q) (hA hs))
    · intro n q m p s hq hp hB hs
      have hB' := hB (Nat.le_trans (dr_g1_le _ _ _ s) hs)
      try dsimp only at hB'
      refine br_f (dr_go hp) ?_
      refine dr_adI (W := fun z => wX_reachToShape_41 post (wX_reachToShape_7 post (nI b) (nI i) (nI j) cn cs rs sx n) (wX_reachToShape_17 post (wX_reachToShape_7 post (nI b) (nI i) (nI j) cn cs rs sx n) (nI b) (nI i) (nI j) (nI q) cn cs rs sx m) (nI b) (nI i) (nI j) (nI s) (nI q) (nI p) z cn cs rs sx) hi hp ?_
      try dsimp only
      unfold wX_reachToShape_41
      refine dr_adI (W := fun z => wX_reachToShape_60 post (wX_reachToShape_7 post (nI b) (nI i) (nI j) cn cs rs sx n) (wX_reachToShape_17 post (wX_reachToShape_7 post (nI b) (nI i) (nI j) cn cs rs sx n) (nI b) (nI i) (nI j) (nI q) cn cs rs sx m) (nI b) (nI i) (nI j) (nI s) (nI q) (nI p) (nI (dr_ad i p)) z cn cs rs sx) hj hq ?_
      try dsimp only
      unfold wX_reachToShape_60
      have a1 := dr_ad_16 hi hp
      have a2 := dr_ad_16 hj hq
      refine dr_mxI (W := fun z => wX_reachToShape_76 post (wX_reachToShape_7 post (nI b) (nI i) (nI j) cn cs rs sx n) (wX_reachToShape_17 post (wX_reachToShape_7 post (nI b) (nI i) (nI j) cn cs rs sx n) (nI b) (nI i) (nI j) (nI q) cn cs rs sx m) (nI b) (nI i) (nI j) (nI s) (nI q) (nI p) z cn cs rs sx) (by omega) (by omega) ?_
      try dsimp only
      rw [← dr_ds_ij hi hp]
      have a3 : dr_ds (16 * j + i) (16 * q + p) < 16 := by
        rw [dr_ds_ij hi hp]
        by_cases w : dr_ad j q < dr_ad i p
        · rw [if_pos w]; exact a1
        · rw [if_neg w]; exact a2
      unfold wX_reachToShape_76
      unfold dr_g1 at hB'
      refine pk_le s (dr_ds (16 * j + i) (16 * q + p)) (fun z => ?_) (fun z => dx_covN H hb hp hq (dr_if (fun y => ?_) (fun y => ?_)))
      · rw [if_neg (by omega)] at hB'
        exact nm_r (nI_1 p) hB'
      · rw [if_pos ⟨z, by rw [dr_L_ij P b hp]; exact y⟩] at hB'
        exact nm_r (nI_1 p) hB'
      · rw [if_neg (by rw [dr_L_ij P b hp, y]; intro w; exact absurd w.2 (by decide))] at hB'
        exact nm_r (nI_1 p) hB'
  obtain ⟨n, hn⟩ := key
  exact ⟨n, hn hr⟩
theorem dr_g2_le (A B : Nat → Bool) (c r : Nat) : dr_g2 A B c r ≤ r := by
  unfold dr_g2
  by_cases h : A c = true
  · rw [if_pos h]; exact Nat.le_refl r
  · rw [if_neg h]; exact (dr_g1_all B c r 256 (Nat.le_refl 256)).1
theorem dx_enc {post : Int32 → Prop} {cn cs rs sx : Nat → Int32} {P : Nat → Int32 → Int32 → Bool} {a b : Nat} (H : dr_HX cn cs rs P) (ha : a < 3) (hb : b < 3)
    (h : post (nI (dr_R (dr_L P a) (dr_L P b)) - 1)) : ∃ n, wX_enclosure_23 post (nI a) (nI b) cn cs rs sx n 9 0 := by
  have key : ∃ n, 9 ≤ 9 → wX_enclosure_23 post (nI a) (nI b) cn cs rs sx n (nI 9) (nI 0) := by
    refine dr_nest (dr_g2 (dr_L P a) (dr_L P b)) 9 16 16 (fun n j s => s ≤ 9 → wX_enclosure_23 post (nI a) (nI b) cn cs rs sx n (nI s) (nI j))
      (fun n j m i s => s ≤ 9 → wX_enclosure_33 post (wX_enclosure_23 post (nI a) (nI b) cn cs rs sx n) (nI a) (nI b) (nI j) cn cs rs sx m (nI s) (nI i)) ?_ ?_ ?_ ?_
    · exact fun n _ => br_t dr_end h
    · exact fun n j s hj hB hs => br_f (dr_go hj) (hB.elim fun m hm => ⟨m, hm hs⟩)
    · exact fun n j m s hj hA hs => br_t dr_end (nm_r (nI_1 j) (hA hs))
    · intro n j m i s hj hi hB hs
      have hB' := hB (Nat.le_trans (dr_g2_le _ _ _ s) hs)
      try dsimp only at hB'
      unfold dr_g2 at hB'
      refine br_f (dr_go hi) (dx_covN H ha hi hj (dr_if (fun y => ?_) (fun y => ?_)))
      · rw [if_pos (by rw [dr_L_ij P a hi]; exact y)] at hB'
        exact nm_r (nI_1 i) hB'
      · rw [if_neg (by rw [dr_L_ij P a hi, y]; decide)] at hB'
        exact dx_reach H hb hi hj hs (nm_r (nI_1 i) hB')
  obtain ⟨n, hn⟩ := key
  exact ⟨n, hn (Nat.le_refl 9)⟩
