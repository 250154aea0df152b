/-! the reference: counts; guards of both -/
section
variable {F G U my tg wd : Nat → Int32} {c w t n : Nat → Nat}
theorem y_cnt_w {post : Int32 → SY → Prop} {sx : Nat → Nat} {Q : Nat → Bool} {v k : Nat} (hv : v < 3) (hk : k < 15) (hn : ∀ s, n s ≤ 9) (ht : ∀ i, t i < 8) (hmy : ∀ v, v < 3 → my v = ym_f sx w 15 v) (hQ : ∀ j, Q j = (sv_b sx w t n j && decide (dg_f j v = k))) (h : ∀ tg wd, post (cn_f Q 3375) (U, na_f c, F, G, na_f w, na_f n, na_f t, my, tg, wd)) : ∀ d i tg wd, i + d = 3375 → wY_count_28 post (nI v) (nI k) (nI v) (d + 1) (cn_f Q i) (nI i) U (na_f c) F G (na_f w) (na_f n) (na_f t) my tg wd := by
  intro d
  induction d with
  | zero =>
    intro i tg wd hi
    have e : i = 3375 := by omega
    subst e
    exact pk_le 3375 3375 (fun _ => h tg wd) (fun z => by omega)
  | succ d ih =>
    intro i tg wd hi
    have hi' : i < 3375 := by omega
    have hd := dg_lt hi' v
    refine pk_le 3375 i (fun z => by omega) (fun _ => y_solves hi' hn ht hmy (fun tg' wd' htg => ?_))
    have ih' := ih (i + 1) tg' wd' (by omega)
    refine br_c (fun y => nm_r (nI_1 i) ?_) (fun y => br_f (nI_pos (by omega)) (And.intro (vp_in_nI hv (by decide)) ?_))
    · rw [← cn_n (P := Q) (by rw [hQ, (bi_z _).mp y]; rfl)]
      exact ih'
    · rw [nI_clamp (n := v) (by omega), htg v hv]
      refine pk_eq (dg_f i v) k (fun z => And.intro (vp_in_nI hv (by decide)) (And.intro (vp_in_nI hv (by decide)) (br_t rfl (nm_r (cn_t ?_).symm (nm_r (nI_1 i) ih'))))) (fun z => nm_r (nI_1 i) ?_)
      · rw [hQ, (bi_o _).mp y, decide_eq_true z]
        rfl
      · rw [← cn_n (P := Q) (by rw [hQ, decide_eq_false z, Bool.and_false])]
        exact ih'
theorem y_cnt_a {post : Int32 → SY → Prop} {sx : Nat → Nat} {Q : Nat → Bool} {v k : Nat} (hv : v < 3) (hk : k < 3) (hn : ∀ s, n s ≤ 9) (ht : ∀ i, t i < 8) (hmy : ∀ v, v < 3 → my v = ym_f sx w 15 v) (hQ : ∀ j, Q j = (sv_b sx w t n j && decide (dg_f j v = dg_f j k))) (h : ∀ tg wd, post (cn_f Q 3375) (U, na_f c, F, G, na_f w, na_f n, na_f t, my, tg, wd)) : ∀ d i tg wd, i + d = 3375 → wY_count_28 post (nI v) (-1) (nI k) (d + 1) (cn_f Q i) (nI i) U (na_f c) F G (na_f w) (na_f n) (na_f t) my tg wd := by
  intro d
  induction d with
  | zero =>
    intro i tg wd hi
    have e : i = 3375 := by omega
    subst e
    exact pk_le 3375 3375 (fun _ => h tg wd) (fun z => by omega)
  | succ d ih =>
    intro i tg wd hi
    have hi' : i < 3375 := by omega
    have hd := dg_lt hi' v
    have hd2 := dg_lt hi' k
    refine pk_le 3375 i (fun z => by omega) (fun _ => y_solves hi' hn ht hmy (fun tg' wd' htg => ?_))
    have ih' := ih (i + 1) tg' wd' (by omega)
    refine br_c (fun y => nm_r (nI_1 i) ?_) (fun y => br_t (by decide) (And.intro (vp_in_nI hv (by decide)) (And.intro (vp_in_nI hk (by decide)) ?_)))
    · rw [← cn_n (P := Q) (by rw [hQ, (bi_z _).mp y]; rfl)]
      exact ih'
    · rw [nI_clamp (n := v) (by omega), nI_clamp (n := k) (by omega), htg v hv, htg k hk]
      refine pk_eq (dg_f i v) (dg_f i k) (fun z => nm_r (cn_t ?_).symm (nm_r (nI_1 i) ih')) (fun z => nm_r (nI_1 i) ?_)
      · rw [hQ, (bi_o _).mp y, decide_eq_true z]
        rfl
      · rw [← cn_n (P := Q) (by rw [hQ, decide_eq_false z, Bool.and_false])]
        exact ih'
theorem y_fst_l {post : Int32 → SY → Prop} {sx : Nat → Nat} {v : Nat} (hv : v < 3) (hn : ∀ s, n s ≤ 9) (ht : ∀ i, t i < 8) (hmy : ∀ v, v < 3 → my v = ym_f sx w 15 v) : ∀ d i tg wd, i + d = 3375 → (∀ tg wd, post (fd_f (sv_b sx w t n) (fun i => dg_f i v) d i) (U, na_f c, F, G, na_f w, na_f n, na_f t, my, tg, wd)) → wY_first_33 post (nI v) (d + 1) (nI i) U (na_f c) F G (na_f w) (na_f n) (na_f t) my tg wd := by
  intro d
  induction d with
  | zero =>
    intro i tg wd hi h
    have e : i = 3375 := by omega
    subst e
    exact pk_le 3375 3375 (fun _ => h tg wd) (fun z => by omega)
  | succ d ih =>
    intro i tg wd hi h
    have hi' : i < 3375 := by omega
    refine pk_le 3375 i (fun z => by omega) (fun _ => y_solves hi' hn ht hmy (fun tg' wd' htg => br_c (fun y => nm_r (nI_1 i) (ih (i + 1) tg' wd' (by omega) (fun tg wd => ?_))) (fun y => And.intro (vp_in_nI hv (by decide)) ?_)))
    · have hh := h tg wd
      rw [fd_n ((bi_z _).mp y)] at hh
      exact hh
    · have hh := h tg' wd'
      rw [fd_t ((bi_o _).mp y)] at hh
      rw [nI_clamp (n := v) (by omega), htg v hv]
      exact hh
theorem y_val_l {post : Int32 → SY → Prop} {sx : Nat → Nat} {v : Nat} (hv : v < 3) (hn : ∀ s, n s ≤ 9) (ht : ∀ i, t i < 8) (hmy : ∀ v, v < 3 → my v = ym_f sx w 15 v) (h : ∀ tg wd, post (vs_f (sv_b sx w t n) (fun i => dg_f i v) 3375) (U, na_f c, F, G, na_f w, na_f n, na_f t, my, tg, wd)) : ∀ d i tg wd, i + d = 3375 → wY_values_35 post (nI v) (d + 1) (vs_f (sv_b sx w t n) (fun i => dg_f i v) i) (nI i) U (na_f c) F G (na_f w) (na_f n) (na_f t) my tg wd := by
  intro d
  induction d with
  | zero =>
    intro i tg wd hi
    have e : i = 3375 := by omega
    subst e
    exact pk_le 3375 3375 (fun _ => h tg wd) (fun z => by omega)
  | succ d ih =>
    intro i tg wd hi
    have hi' : i < 3375 := by omega
    refine pk_le 3375 i (fun z => by omega) (fun _ => y_solves hi' hn ht hmy (fun tg' wd' htg => ?_))
    have ih' := ih (i + 1) tg' wd' (by omega)
    refine br_c (fun y => nm_r (nI_1 i) ?_) (fun y => And.intro (vp_in_nI hv (by decide)) (nm_r (e' := vs_f (sv_b sx w t n) (fun i => dg_f i v) (i + 1)) ?_ (nm_r (nI_1 i) ih')))
    · rw [← vs_n (d := fun i => dg_f i v) ((bi_z _).mp y)]
      exact ih'
    · rw [nI_clamp (n := v) (by omega), htg v hv]
      exact (vs_t (d := fun i => dg_f i v) ((bi_o _).mp y)).symm
theorem y_count_w {post : Int32 → SY → Prop} {Q : Nat → Bool} {v k : Nat} (hv : v < 3) (hk : k < 15) (hc : ∀ i, c i < 4) (hw : ∀ i, w i < 4) (hn : ∀ s, n s ≤ 9) (ht : ∀ i, t i < 8) (hQ : ∀ j, Q j = (wh_b t n 0 && wh_b t n 1 && sv_b (so_t F G U c) w t n j && decide (dg_f j v = k))) (h : ∀ my tg wd, post (cn_f Q 3375) (U, na_f c, F, G, na_f w, na_f n, na_f t, my, tg, wd)) : wpY_count post (U, na_f c, F, G, na_f w, na_f n, na_f t, my, tg, wd) (nI v) (nI k) (nI v) := by
  unfold wpY_count
  dsimp only
  refine y_whole (s := 0) (by decide) (hn 0) ht (br_c (fun y => ?_) (fun y => y_whole (s := 1) (by decide) (hn 1) ht (br_c (fun y1 => ?_) (fun y1 => y_find hc hw (fun my hmy => ?_)))))
  · have hh := h my tg wd
    rw [cn_0 3375 (fun i _ => by rw [hQ, (bi_z _).mp y]; rfl)] at hh
    exact hh
  · have hh := h my tg wd
    rw [cn_0 3375 (fun i _ => by rw [hQ, (bi_z _).mp y1, Bool.and_false]; rfl)] at hh
    exact hh
  · exact Exists.intro 3376 (y_cnt_w hv hk hn ht hmy (fun j => by rw [hQ, (bi_o _).mp y, (bi_o _).mp y1]; rfl) (h my) 3375 0 tg wd (by omega))
theorem y_count_a {post : Int32 → SY → Prop} {Q : Nat → Bool} {v k : Nat} (hv : v < 3) (hk : k < 3) (hc : ∀ i, c i < 4) (hw : ∀ i, w i < 4) (hn : ∀ s, n s ≤ 9) (ht : ∀ i, t i < 8) (hQ : ∀ j, Q j = (wh_b t n 0 && wh_b t n 1 && sv_b (so_t F G U c) w t n j && decide (dg_f j v = dg_f j k))) (h : ∀ my tg wd, post (cn_f Q 3375) (U, na_f c, F, G, na_f w, na_f n, na_f t, my, tg, wd)) : wpY_count post (U, na_f c, F, G, na_f w, na_f n, na_f t, my, tg, wd) (nI v) (-1) (nI k) := by
  unfold wpY_count
  dsimp only
  refine y_whole (s := 0) (by decide) (hn 0) ht (br_c (fun y => ?_) (fun y => y_whole (s := 1) (by decide) (hn 1) ht (br_c (fun y1 => ?_) (fun y1 => y_find hc hw (fun my hmy => ?_)))))
  · have hh := h my tg wd
    rw [cn_0 3375 (fun i _ => by rw [hQ, (bi_z _).mp y]; rfl)] at hh
    exact hh
  · have hh := h my tg wd
    rw [cn_0 3375 (fun i _ => by rw [hQ, (bi_z _).mp y1, Bool.and_false]; rfl)] at hh
    exact hh
  · exact Exists.intro 3376 (y_cnt_a hv hk hn ht hmy (fun j => by rw [hQ, (bi_o _).mp y, (bi_o _).mp y1]; rfl) (h my) 3375 0 tg wd (by omega))
theorem sv_w {b0 b1 : Bool} {P : Nat → Bool} (h0 : b0 = true) (h1 : b1 = true) : (fun j => b0 && b1 && P j) = P := by
  funext j
  rw [h0, h1]
  rfl
theorem y_fst {post : Int32 → SY → Prop} {v : Nat} (hv : v < 3) (hc : ∀ i, c i < 4) (hw : ∀ i, w i < 4) (hn : ∀ s, n s ≤ 9) (ht : ∀ i, t i < 8) (h : ∀ my tg wd, post (fd_f (fun j => wh_b t n 0 && wh_b t n 1 && sv_b (so_t F G U c) w t n j) (fun i => dg_f i v) 3375 0) (U, na_f c, F, G, na_f w, na_f n, na_f t, my, tg, wd)) : wpY_first post (U, na_f c, F, G, na_f w, na_f n, na_f t, my, tg, wd) (nI v) := by
  unfold wpY_first
  dsimp only
  refine y_whole (s := 0) (by decide) (hn 0) ht (br_c (fun y => ?_) (fun y => y_whole (s := 1) (by decide) (hn 1) ht (br_c (fun y1 => ?_) (fun y1 => br_f (nI_pos (by omega)) (pk_le v 2 (fun _ => y_find hc hw (fun my hmy => ?_)) (fun z => by omega))))))
  · have hh := h my tg wd
    rw [fd_0 (fun i _ => by rw [(bi_z _).mp y]; rfl) 3375 0 rfl] at hh
    exact hh
  · have hh := h my tg wd
    rw [fd_0 (fun i _ => by rw [(bi_z _).mp y1, Bool.and_false]; rfl) 3375 0 rfl] at hh
    exact hh
  · rw [sv_w ((bi_o _).mp y) ((bi_o _).mp y1)] at h
    exact Exists.intro 3376 (y_fst_l hv hn ht hmy 3375 0 tg wd (by omega) (h my))
theorem y_val {post : Int32 → SY → Prop} {v : Nat} (hv : v < 3) (hc : ∀ i, c i < 4) (hw : ∀ i, w i < 4) (hn : ∀ s, n s ≤ 9) (ht : ∀ i, t i < 8) (h : ∀ my tg wd, post (vs_f (fun j => wh_b t n 0 && wh_b t n 1 && sv_b (so_t F G U c) w t n j) (fun i => dg_f i v) 3375) (U, na_f c, F, G, na_f w, na_f n, na_f t, my, tg, wd)) : wpY_values post (U, na_f c, F, G, na_f w, na_f n, na_f t, my, tg, wd) (nI v) := by
  unfold wpY_values
  dsimp only
  refine y_whole (s := 0) (by decide) (hn 0) ht (br_c (fun y => ?_) (fun y => y_whole (s := 1) (by decide) (hn 1) ht (br_c (fun y1 => ?_) (fun y1 => br_f (nI_pos (by omega)) (pk_le v 2 (fun _ => y_find hc hw (fun my hmy => ?_)) (fun z => by omega))))))
  · have hh := h my tg wd
    rw [vs_0 3375 (fun i _ => by rw [(bi_z _).mp y]; rfl)] at hh
    exact hh
  · have hh := h my tg wd
    rw [vs_0 3375 (fun i _ => by rw [(bi_z _).mp y1, Bool.and_false]; rfl)] at hh
    exact hh
  · rw [sv_w ((bi_o _).mp y) ((bi_o _).mp y1)] at h
    exact Exists.intro 3376 (y_val_l hv hn ht hmy (h my) 3375 0 tg wd (by omega))
theorem y_first0 {post : Int32 → SY → Prop} {x : Int32} (hx : x < 0 ∨ nI 3 ≤ x) (hn : ∀ s, n s ≤ 9) (ht : ∀ i, t i < 8) (h : post (-1) (U, na_f c, F, G, na_f w, na_f n, na_f t, my, tg, wd)) : wpY_first post (U, na_f c, F, G, na_f w, na_f n, na_f t, my, tg, wd) x := by
  unfold wpY_first
  dsimp only
  refine y_whole (s := 0) (by decide) (hn 0) ht (br_c (fun y => h) (fun y => y_whole (s := 1) (by decide) (hn 1) ht (br_c (fun y1 => h) (fun y1 => ?_))))
  rcases hx with z | z
  · exact br_t z h
  · exact br_f (oo_nn z (by decide)) (br_f (oo_nle (a := 2) z (by decide) (by decide)) h)
theorem y_values0 {post : Int32 → SY → Prop} {x : Int32} (hx : x < 0 ∨ nI 3 ≤ x) (hn : ∀ s, n s ≤ 9) (ht : ∀ i, t i < 8) (h : post 0 (U, na_f c, F, G, na_f w, na_f n, na_f t, my, tg, wd)) : wpY_values post (U, na_f c, F, G, na_f w, na_f n, na_f t, my, tg, wd) x := by
  unfold wpY_values
  dsimp only
  refine y_whole (s := 0) (by decide) (hn 0) ht (br_c (fun y => h) (fun y => y_whole (s := 1) (by decide) (hn 1) ht (br_c (fun y1 => h) (fun y1 => ?_))))
  rcases hx with z | z
  · exact br_t z h
  · exact br_f (oo_nn z (by decide)) (br_f (oo_nle (a := 2) z (by decide) (by decide)) h)
theorem x_sort {post : Int32 → Prop} {s : Nat} (hs : s < 4) (h : post 1) : wpX_isSort post (nI s) := br_f (nI_pos (by omega)) (pk_le 4 s (fun z => by omega) (fun _ => h))
theorem x_var {post : Int32 → Prop} {s : Nat} (hs : s < 3) (h : post 1) : wpX_isVariable post (nI s) := br_f (nI_pos (by omega)) (pk_le 3 s (fun z => by omega) (fun _ => h))
theorem x_side {post : Int32 → Prop} {s : Nat} (hs : s < 2) (h : post 1) : wpX_isSide post (nI s) := br_f (nI_pos (by omega)) (pk_le 2 s (fun z => by omega) (fun _ => h))
theorem x_isth {post : Int32 → Prop} {s : Nat} (hs : s < 15) (h : post 1) : wpX_isThing post (nI s) := br_f (nI_pos (by omega)) (pk_le 15 s (fun z => by omega) (fun _ => h))
theorem x_sort0 {post : Int32 → Prop} {x : Int32} (hx : x < 0 ∨ nI 4 ≤ x) (h : post 0) : wpX_isSort post x := by
  rcases hx with z | z
  · exact br_t z h
  · exact br_f (oo_nn z (by decide)) (br_t z h)
theorem x_var0 {post : Int32 → Prop} {x : Int32} (hx : x < 0 ∨ nI 3 ≤ x) (h : post 0) : wpX_isVariable post x := by
  rcases hx with z | z
  · exact br_t z h
  · exact br_f (oo_nn z (by decide)) (br_t z h)
theorem x_side0 {post : Int32 → Prop} {x : Int32} (hx : x < 0 ∨ nI 2 ≤ x) (h : post 0) : wpX_isSide post x := by
  rcases hx with z | z
  · exact br_t z h
  · exact br_f (oo_nn z (by decide)) (br_t z h)
theorem x_isth0 {post : Int32 → Prop} {x : Int32} (hx : x < 0 ∨ nI 15 ≤ x) (h : post 0) : wpX_isThing post x := by
  rcases hx with z | z
  · exact br_t z h
  · exact br_f (oo_nn z (by decide)) (br_t z h)
end
