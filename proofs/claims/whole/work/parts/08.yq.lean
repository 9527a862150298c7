/-! the reference's questions -/
theorem dy_area19 {post : Int32 → SY → Prop} {cn le ri bo tp sy : Nat → Int32} {S : Nat → Bool} (hs : ∀ k, k < 256 → sy k = dr_b (S k))
    (h : post (dr_it (fun c (s : Int32) => s + dr_b (S c)) 0 256) (cn, le, ri, bo, tp, sy)) : ∃ n, wY_area_19 post cn le ri bo tp sy n 0 0 := by
  refine dr_loop (fun c (s : Int32) => s + dr_b (S c)) 0 256 (fun n c s => wY_area_19 post cn le ri bo tp sy n s (nI c)) ?_ ?_
  · exact fun n => br_t dr_end256 h
  · intro n c s hc hA
    try dsimp only at hA
    have e : sy (nI c).toNatClampNeg = dr_b (S c) := by rw [nI_clamp (by omega), hs c hc]
    refine br_f (dr_go256 hc) ⟨vp_in_nI hc (by decide), ?_⟩
    rw [e]
    refine dr_if (fun a => ?_) (fun a => ?_)
    · rw [a] at hA
      exact nm_e (nm_r (nI_1 c) hA)
    · rw [a, dr_z] at hA
      exact nm_r (nI_1 c) hA
theorem dy_outline19 {post : Int32 → SY → Prop} {cn le ri bo tp sy : Nat → Int32} {S : Nat → Bool} (hs : ∀ k, k < 256 → sy k = dr_b (S k))
    (h : post (dr_it (dr_oc S) 0 256) (cn, le, ri, bo, tp, sy)) : ∃ n, wY_outline_19 post cn le ri bo tp sy n 0 0 := by
  refine dr_nest (dr_oc S) 0 16 16 (fun n j s => wY_outline_19 post cn le ri bo tp sy n s (nI j))
    (fun n j m i s => wY_outline_29 post (wY_outline_19 post cn le ri bo tp sy n) (nI j) cn le ri bo tp sy m s (nI i)) ?_ ?_ ?_ ?_
  · exact fun n => br_t dr_end h
  · exact fun n j s hj hB => br_f (dr_go hj) hB
  · exact fun n j m s hj hA => br_t dr_end (nm_r (nI_1 j) hA)
  · intro n j m i s hj hi hB
    try dsimp only at hB
    refine br_f (dr_go hi) (dy_inN hs hi hj (dr_if (fun a => ?_) (fun a => ?_)))
    · rw [dr_oc_t hi a] at hB
      refine dy_in hs (dr_ng (W := fun z => wY_outline_63 post (wY_outline_19 post cn le ri bo tp sy n) (wY_outline_29 post (wY_outline_19 post cn le ri bo tp sy n) (nI j) cn le ri bo tp sy m) z (nI j) (nI i) cn le ri bo tp sy) s ?_)
      try dsimp only
      unfold wY_outline_63
      refine dy_in hs (dr_ng (W := fun z => wY_outline_79 post (wY_outline_19 post cn le ri bo tp sy n) (wY_outline_29 post (wY_outline_19 post cn le ri bo tp sy n) (nI j) cn le ri bo tp sy m) z (nI j) (nI i) cn le ri bo tp sy) _ ?_)
      try dsimp only
      unfold wY_outline_79
      refine dy_in hs (dr_ng (W := fun z => wY_outline_95 post (wY_outline_19 post cn le ri bo tp sy n) (wY_outline_29 post (wY_outline_19 post cn le ri bo tp sy n) (nI j) cn le ri bo tp sy m) z (nI j) (nI i) cn le ri bo tp sy) _ ?_)
      try dsimp only
      unfold wY_outline_95
      refine dy_in hs (dr_ng (W := fun z => ∀ x, x = nI i + 1 → wY_outline_29 post (wY_outline_19 post cn le ri bo tp sy n) (nI j) cn le ri bo tp sy m z x) _ ?_)
      try dsimp only
      exact nm_r (nI_1 i) hB
    · rw [dr_oc_f a] at hB
      exact nm_r (nI_1 i) hB
theorem dr_p4y (a b c d : Bool) : (((c != d) != (a != b)) && ((c != a) != (d != b))) = dr_p4 a b c d := by
  cases a <;> cases b <;> cases c <;> cases d <;> rfl
theorem dy_corners19 {post : Int32 → SY → Prop} {cn le ri bo tp sy : Nat → Int32} {S : Nat → Bool} (hs : ∀ k, k < 256 → sy k = dr_b (S k))
    (h : post (dr_it (dr_kc S) 0 289) (cn, le, ri, bo, tp, sy)) : ∃ n, wY_corners_19 post cn le ri bo tp sy n 0 0 := by
  refine dr_nest (dr_kc S) 0 17 17 (fun n j s => wY_corners_19 post cn le ri bo tp sy n s (nI j))
    (fun n j m i s => wY_corners_29 post (wY_corners_19 post cn le ri bo tp sy n) (nI j) cn le ri bo tp sy m s (nI i)) ?_ ?_ ?_ ?_
  · exact fun n => br_t dr_end17 h
  · exact fun n j s hj hB => br_f (dr_go17 hj) hB
  · exact fun n j m s hj hA => br_t dr_end17 (nm_r (nI_1 j) hA)
  · intro n j m i s hj hi hB
    try dsimp only at hB
    rw [dr_kc_ij hi] at hB
    unfold dr_pl at hB
    rw [← dr_p4y] at hB
    refine br_f (dr_go17 hi) (dy_in hs (dy_in hs (dr_xor (P := fun z => wY_corners_62 post (wY_corners_19 post cn le ri bo tp sy n) (wY_corners_29 post (wY_corners_19 post cn le ri bo tp sy n) (nI j) cn le ri bo tp sy m) s (nI j) (nI i) z cn le ri bo tp sy) ?_)))
    try dsimp only
    unfold wY_corners_62
    refine dy_in hs (dy_in hs (dr_xor (P := fun z => wY_corners_94 post (wY_corners_19 post cn le ri bo tp sy n) (wY_corners_29 post (wY_corners_19 post cn le ri bo tp sy n) (nI j) cn le ri bo tp sy m) s (nI j) (nI i) (dr_b (dr_in S (nI i - 1) (nI j) != dr_in S (nI i) (nI j))) z cn le ri bo tp sy) ?_))
    try dsimp only
    unfold wY_corners_94
    refine dy_in hs (dy_in hs (dr_xor (P := fun z => wY_corners_126 post (wY_corners_19 post cn le ri bo tp sy n) (wY_corners_29 post (wY_corners_19 post cn le ri bo tp sy n) (nI j) cn le ri bo tp sy m) s (nI j) (nI i) (dr_b (dr_in S (nI i - 1) (nI j) != dr_in S (nI i) (nI j))) (dr_b (dr_in S (nI i - 1) (nI j - 1) != dr_in S (nI i) (nI j - 1))) z cn le ri bo tp sy) ?_))
    try dsimp only
    unfold wY_corners_126
    refine dy_in hs (dy_in hs (dr_xor (P := fun z => wY_corners_154 post (wY_corners_19 post cn le ri bo tp sy n) (wY_corners_29 post (wY_corners_19 post cn le ri bo tp sy n) (nI j) cn le ri bo tp sy m) s (nI j) (nI i) (dr_b (dr_in S (nI i - 1) (nI j) != dr_in S (nI i) (nI j))) (dr_b (dr_in S (nI i - 1) (nI j - 1) != dr_in S (nI i) (nI j - 1))) (dr_b (dr_in S (nI i - 1) (nI j) != dr_in S (nI i - 1) (nI j - 1))) z cn le ri bo tp sy) ?_))
    try dsimp only
    unfold wY_corners_154
    refine dr_same (fun e => ?_) (fun e => dr_same (fun f => ?_) (fun f => ?_))
    · rw [e, bne_self_eq_false, Bool.false_and, dr_z] at hB
      exact nm_r (nI_1 i) hB
    · rw [f, bne_self_eq_false, Bool.and_false, dr_z] at hB
      exact nm_r (nI_1 i) hB
    · rw [bne_iff_ne.mpr e, bne_iff_ne.mpr f] at hB
      exact nm_e (nm_r (nI_1 i) hB)
theorem dr_adv (x dx : Int32) (k : Nat) : x + nI k * dx + dx = x + nI (k + 1) * dx := by
  rw [← nI_1, Int32.add_mul, Int32.one_mul, Int32.add_assoc]
theorem dr_stop_c {S : Nat → Bool} {x y dx dy : Int32} {w : Bool} {k : Nat} (h : dr_pc x y dx dy k = false) : dr_stop S x y dx dy w k = true := by
  unfold dr_stop
  rw [h]
  rfl
theorem dy_run {post : Int32 → Prop} {cn le ri bo tp sy : Nat → Int32} {S : Nat → Bool} {x y dx dy : Int32} {w : Bool} (hs : ∀ k, k < 256 → sy k = dr_b (S k))
    (h : post (nI (dr_rn S x y dx dy w))) : wpY_run post (cn, le, ri, bo, tp, sy) x y dx dy (dr_b w) := by
  unfold wpY_run
  try dsimp only
  have key : ∃ n, wY_run_12 post dx dy (dr_b w) cn le ri bo tp sy n (nI 0) (x + nI 0 * dx) (y + nI 0 * dy) (nI 0) := by
    refine dr_scan (dr_stop S x y dx dy w) 16 (fun n k => wY_run_12 post dx dy (dr_b w) cn le ri bo tp sy n (nI k) (x + nI k * dx) (y + nI k * dy) (nI k)) ?_ ?_ ?_
    · intro hk n
      have e : dr_rn S x y dx dy w = 16 := dr_ff_eq _ 16 0 16 (by omega) (by omega) (fun k _ h2 => hk k h2) (fun h => absurd h (by omega))
      rw [e] at h
      exact br_t dr_end h
    · intro n i hi hk hp
      have e : dr_rn S x y dx dy w = i := dr_ff_eq _ 16 0 i (by omega) (by omega) (fun k _ h2 => hk k h2) (fun _ => hp)
      rw [e] at h
      refine br_f (dr_go hi) (br_c (fun _ => h) (fun a => br_c (fun _ => h) (fun b => br_c (fun _ => h) (fun c => br_c (fun _ => h) (fun d => dy_in hs (dr_same (fun f => ?_) (fun _ => h)))))))
      have c1 : dr_pc x y dx dy i = true := dr_cell_t (dr_ax_t a (fun z => b ((dr_15 _).mpr z))) (dr_ax_t c (fun z => d ((dr_15 _).mpr z)))
      have c2 : dr_ps S x y dx dy i = w := f
      unfold dr_stop at hp
      rw [c1, c2, beq_self_eq_true] at hp
      exact absurd hp (by decide)
    · intro n i hi hp hA
      have c1 : dr_pc x y dx dy i = true := by
        cases hc : dr_pc x y dx dy i with
        | true => rfl
        | false =>
          rw [dr_stop_c hc] at hp
          exact absurd hp (by decide)
      have c2 : dr_in S (x + nI i * dx) (y + nI i * dy) = w := by
        unfold dr_stop at hp
        rw [c1, Bool.true_and] at hp
        by_cases z : dr_ps S x y dx dy i = w
        · exact z
        · rw [beq_eq_false_iff_ne.mpr z] at hp
          exact absurd hp (by decide)
      have c3 := c1
      unfold dr_pc dr_cell at c3
      rw [Bool.and_eq_true] at c3
      have a1 := of_decide_eq_true c3.1
      have a2 := of_decide_eq_true c3.2
      refine br_f (dr_go hi) (br_f a1.1 (br_f (fun z => a1.2 ((dr_15 _).mp z)) (br_f a2.1 (br_f (fun z => a2.2 ((dr_15 _).mp z)) (dy_in hs (dr_same (fun _ => ?_) (fun f => absurd c2 f)))))))
      exact nm_r (nI_1 i) (nm_r (dr_adv x dx i) (nm_r (dr_adv y dy i) (nm_r (nI_1 i) hA)))
  obtain ⟨n, hn⟩ := key
  rw [nI_0, Int32.zero_mul, Int32.zero_mul, Int32.add_zero, Int32.add_zero] at hn
  exact ⟨n, hn⟩
theorem dr_n0 : (-0 : Int32) = 0 := by decide
theorem dr_nn1 : (- -1 : Int32) = 1 := by decide
/-- thin, as the reference counts -/
def dr_yt (S : Nat → Bool) (lim : Int32) (c : Nat) : Bool :=
  S c && (decide (nI (dr_rn S (nI (c % 16)) (nI (c / 16)) (-1) 0 true) + nI (dr_rn S (nI (c % 16)) (nI (c / 16)) 1 0 true) - 1 < lim)
    || decide (¬ lim ≤ nI (dr_rn S (nI (c % 16)) (nI (c / 16)) 0 (-1) true) + nI (dr_rn S (nI (c % 16)) (nI (c / 16)) 0 1 true) - 1))
theorem dr_yt_eq {S : Nat → Bool} {lim : Int32} {c : Nat} (hc : c < 256) : dr_cnt S true lim c = dr_yt S lim c := by
  cases e : S c with
  | false =>
    unfold dr_cnt dr_yt
    rw [e, show (false == true) = false from rfl, Bool.false_and, Bool.false_and]
  | true =>
    have h0 : dr_in S (nI (c % 16)) (nI (c / 16)) = true := by
      rw [dr_in_n (by omega) (by omega), show 16 * (c / 16) + c % 16 = c by omega]
      exact e
    have i1 : c % 16 < 16 := by omega
    have i2 : c / 16 < 16 := by omega
    unfold dr_cnt dr_yt
    rw [e]
    show (true && (dr_sh S (nI (c % 16)) (nI (c / 16)) 1 0 lim false || dr_sh S (nI (c % 16)) (nI (c / 16)) 0 1 lim false)) = _
    rw [dr_sh_thin (dr_LnR i1 i2) (by rw [dr_n0]; exact dr_LnL i1 i2) h0, dr_sh_thin (dr_LnU i1 i2) (by rw [dr_n0]; exact dr_LnD i1 i2) h0]
    unfold dr_yth
    rw [dr_n0]
    simp only [Int32.not_le]
theorem dy_thin29 {post : Int32 → SY → Prop} {cn le ri bo tp sy : Nat → Int32} {S : Nat → Bool} {lim : Int32} (hs : ∀ k, k < 256 → sy k = dr_b (S k))
    (h : post (dr_it (fun c (s : Int32) => s + dr_b (dr_cnt S true lim c)) 0 256) (cn, le, ri, bo, tp, sy)) : ∃ n, wY_thin_29 post lim cn le ri bo tp sy n 0 0 := by
  refine dr_nest (fun c (s : Int32) => s + dr_b (dr_cnt S true lim c)) 0 16 16 (fun n j s => wY_thin_29 post lim cn le ri bo tp sy n s (nI j))
    (fun n j m i s => wY_thin_39 post (wY_thin_29 post lim cn le ri bo tp sy n) lim (nI j) cn le ri bo tp sy m s (nI i)) ?_ ?_ ?_ ?_
  · exact fun n => br_t dr_end h
  · exact fun n j s hj hB => br_f (dr_go hj) hB
  · exact fun n j m s hj hA => br_t dr_end (nm_r (nI_1 j) hA)
  · intro n j m i s hj hi hB
    try dsimp only at hB
    rw [dr_yt_eq (by omega)] at hB
    unfold dr_yt at hB
    rw [show (16 * j + i) % 16 = i by omega, show (16 * j + i) / 16 = j by omega] at hB
    refine br_f (dr_go hi) (dy_inN hs hi hj (dr_if (fun a => ?_) (fun a => ?_)))
    · rw [a, Bool.true_and] at hB
      refine dy_run (w := true) hs (dy_run (w := true) hs (nm_e (dy_run (w := true) hs (dy_run (w := true) hs (nm_e (br_c (fun x => ?_) (fun x => br_c (fun y => ?_) (fun y => ?_))))))))
      · rw [decide_eq_true x, Bool.true_or] at hB
        exact nm_e (nm_r (nI_1 i) hB)
      · rw [decide_eq_false x, Bool.false_or, decide_eq_false (fun z => z y), dr_z] at hB
        exact nm_r (nI_1 i) hB
      · rw [decide_eq_false x, Bool.false_or, decide_eq_true y] at hB
        exact nm_e (nm_r (nI_1 i) hB)
    · rw [a, Bool.false_and, dr_z] at hB
      exact nm_r (nI_1 i) hB
theorem dr_sn (x r d : Int32) : x - r * d = x + r * (-d) := by
  rw [Int32.mul_neg, Int32.sub_eq_add_neg]
theorem dy_between {post : Int32 → Prop} {cn le ri bo tp sy : Nat → Int32} {S : Nat → Bool} {x y dx dy lim : Int32} (hs : ∀ k, k < 256 → sy k = dr_b (S k))
    (h : post (dr_b (dr_ygp S x y dx dy lim))) : wpY_between post (cn, le, ri, bo, tp, sy) x y dx dy lim := by
  unfold wpY_between
  try dsimp only
  unfold dr_ygp at h
  refine dy_run (w := false) hs (dy_run (w := false) hs (dy_in hs (dr_if (fun a => ?_) (fun a => ?_))))
  · have a' : dr_ps S x y dx dy (dr_rn S x y dx dy false) = true := a
    rw [dr_sn, dr_sn]
    rw [a', Bool.true_and] at h
    refine dy_in hs (dr_if (fun b => ?_) (fun b => ?_))
    · have b' : dr_ps S x y (-dx) (-dy) (dr_rn S x y (-dx) (-dy) false) = true := b
      rw [b', Bool.true_and] at h
      exact br_c (fun c => dr_pf h (decide_eq_false (fun z => z c))) (fun c => dr_pt h (decide_eq_true c))
    · have b' : dr_ps S x y (-dx) (-dy) (dr_rn S x y (-dx) (-dy) false) = false := b
      rw [b'] at h
      exact h
  · have a' : dr_ps S x y dx dy (dr_rn S x y dx dy false) = false := a
    rw [a'] at h
    exact h
theorem dr_yg_eq {S : Nat → Bool} {lim : Int32} {i j : Nat} (hi : i < 16) (hj : j < 16) : dr_cnt S false lim (16 * j + i) = (!(S (16 * j + i)) && (dr_ygp S (nI i) (nI j) 1 0 lim || dr_ygp S (nI i) (nI j) 0 1 lim)) := by
  unfold dr_cnt
  rw [show (16 * j + i) % 16 = i by omega, show (16 * j + i) / 16 = j by omega]
  cases e : S (16 * j + i) with
  | true => rw [show (true == false) = false from rfl, show (!true) = false from rfl, Bool.false_and, Bool.false_and]
  | false =>
    have h0 : dr_in S (nI i) (nI j) = false := by
      rw [dr_in_n hi hj]
      exact e
    show (true && (dr_sh S (nI i) (nI j) 1 0 lim true || dr_sh S (nI i) (nI j) 0 1 lim true)) = _
    rw [dr_sh_gap (dr_LnR hi hj) (by rw [dr_n0]; exact dr_LnL hi hj) h0, dr_sh_gap (dr_LnU hi hj) (by rw [dr_n0]; exact dr_LnD hi hj) h0]
    rfl
theorem dy_gaps29 {post : Int32 → SY → Prop} {cn le ri bo tp sy : Nat → Int32} {S : Nat → Bool} {lim : Int32} (hs : ∀ k, k < 256 → sy k = dr_b (S k))
    (h : post (dr_it (fun c (s : Int32) => s + dr_b (dr_cnt S false lim c)) 0 256) (cn, le, ri, bo, tp, sy)) : ∃ n, wY_gaps_29 post lim cn le ri bo tp sy n 0 0 := by
  refine dr_nest (fun c (s : Int32) => s + dr_b (dr_cnt S false lim c)) 0 16 16 (fun n j s => wY_gaps_29 post lim cn le ri bo tp sy n s (nI j))
    (fun n j m i s => wY_gaps_39 post (wY_gaps_29 post lim cn le ri bo tp sy n) lim (nI j) cn le ri bo tp sy m s (nI i)) ?_ ?_ ?_ ?_
  · exact fun n => br_t dr_end h
  · exact fun n j s hj hB => br_f (dr_go hj) hB
  · exact fun n j m s hj hA => br_t dr_end (nm_r (nI_1 j) hA)
  · intro n j m i s hj hi hB
    try dsimp only at hB
    rw [dr_yg_eq hi hj] at hB
    refine br_f (dr_go hi) (dy_inN hs hi hj (dr_if (fun a => ?_) (fun a => dy_between hs (dr_if (fun b => ?_) (fun b => dy_between hs (dr_if (fun c => ?_) (fun c => ?_)))))))
    · rw [a, show (!true) = false from rfl, Bool.false_and, dr_z] at hB
      exact nm_r (nI_1 i) hB
    · rw [a, b] at hB
      exact nm_e (nm_r (nI_1 i) hB)
    · rw [a, b, c] at hB
      exact nm_e (nm_r (nI_1 i) hB)
    · rw [a, b, c, show (!false && (false || false)) = false from rfl, dr_z] at hB
      exact nm_r (nI_1 i) hB
