/-! the class: solve, counts -/
section
variable {A F G U th ch rp so : Nat → Int32} {c w t n : Nat → Nat}
theorem x_put {a P : Nat → Int32} {i : Nat} {z : Int32} (hi : i < 3375) (hz : vp_nar .boolean z = P i) : upd (pr_f a P i) (nI i).toNatClampNeg (vp_nar .boolean z) = pr_f a P (i + 1) := by
  rw [nI_clamp (by omega), hz]
  exact pr_s a P i
/-- what the class holds of assignment j -/
def sw_f (b : Bool) (sx w t n : Nat → Nat) : Nat → Int32 := fun j => bi_b (b && sv_b sx w t n j)
theorem sw_0 {b : Bool} {sx w t n : Nat → Nat} {j : Nat} (h : b = false) : vp_nar .boolean 0 = sw_f b sx w t n j := by
  unfold sw_f
  rw [h]
  exact bi_v false
theorem sw_1 {b : Bool} {sx w t n : Nat → Nat} {j : Nat} (h : hs_b sx (dg_f j) w 3 = false) : vp_nar .boolean 0 = sw_f b sx w t n j := by
  unfold sw_f sv_b
  rw [h, Bool.false_and, Bool.and_false]
  exact bi_v false
theorem sw_2 {b : Bool} {sx w t n : Nat → Nat} {j : Nat} (h : sm_b t n (dg_f j) = false) : vp_nar .boolean 0 = sw_f b sx w t n j := by
  unfold sw_f sv_b
  rw [h, Bool.and_false, Bool.and_false]
  exact bi_v false
theorem sw_3 {b : Bool} {sx w t n : Nat → Nat} {j : Nat} (hb : b = true) (h1 : hs_b sx (dg_f j) w 3 = true) (h : sm_b t n (dg_f j) = true) : vp_nar .boolean 1 = sw_f b sx w t n j := by
  unfold sw_f sv_b
  rw [h, h1, hb]
  exact bi_v true
theorem x_solve_l {post : SX → Prop} {b : Bool} (hc : ∀ i, c i < 4) (hw : ∀ i, w i < 4) (ht : ∀ i, t i < 8) (hn : ∀ s, n s ≤ 9) (hth : ∀ k, k < 15 → th k = nI (so_t F G U c k)) (h : ∀ ch rp, post (A, na_f c, na_f w, F, G, na_f t, na_f n, th, ch, rp, pr_f so (sw_f b (so_t F G U c) w t n) 3375)) : ∀ d i ch rp, i + d = 3375 → wX_solve_49 post (bi_b b) (d + 1) (nI i) A (na_f c) (na_f w) F G (na_f t) (na_f n) th ch rp (pr_f so (sw_f b (so_t F G U c) w t n) i) := by
  intro d
  induction d with
  | zero =>
    intro i ch rp hi
    have e : i = 3375 := by omega
    subst e
    exact pk_le 3375 3375 (fun _ => h ch rp) (fun z => by omega)
  | succ d ih =>
    intro i ch rp hi
    have hi' : i < 3375 := by omega
    have hin : vp_in (nI i) 3375 := vp_in_nI hi' (by decide)
    have hch : ∀ v, v < 3 → pr_f ch (na_f (dg_f i)) 3 v = nI (dg_f i v) := fun v hv => pr_i hv
    refine pk_le 3375 i (fun z => by omega) (fun _ => x_choose hi' (br_c (fun y => And.intro hin (nm_r (x_put hi' (sw_0 ((bi_z _).mp y))) (nm_r (nI_1 i) (ih (i + 1) _ _ (by omega))))) (fun y => x_have hch (dg_lt hi') hth (so_t_lt hc) hw (br_c (fun y1 => And.intro hin (nm_r (x_put hi' (sw_1 ((bi_z _).mp y1))) (nm_r (nI_1 i) (ih (i + 1) _ _ (by omega))))) (fun y1 => x_same hn ht hch (dg_lt hi') (fun rp' => br_c (fun y2 => And.intro hin (nm_r (x_put hi' (sw_2 ((bi_z _).mp y2))) (nm_r (nI_1 i) (ih (i + 1) _ _ (by omega))))) (fun y2 => And.intro hin (nm_r (x_put hi' (sw_3 ((bi_o _).mp y) ((bi_o _).mp y1) ((bi_o _).mp y2))) (nm_r (nI_1 i) (ih (i + 1) _ _ (by omega)))))))))))
theorem x_solve_o {post : SX → Prop} (hA : ∀ s, s < 4 → A s = nI (cs_cl U s)) (hc : ∀ i, c i < 4) (hw : ∀ i, w i < 4) (ht : ∀ i, t i < 8) (hn : ∀ s, n s ≤ 9) (h : ∀ th ch rp, post (A, na_f c, na_f w, F, G, na_f t, na_f n, th, ch, rp, pr_f so (sw_f (wh_b t n 0 && wh_b t n 1) (so_t F G U c) w t n) 3375)) : ∀ d k, k + d = 15 → wX_solve_2 post (d + 1) (nI k) A (na_f c) (na_f w) F G (na_f t) (na_f n) (pr_f th (na_f (so_t F G U c)) k) ch rp so := by
  intro d
  induction d with
  | zero =>
    intro k hk
    have e : k = 15 := by omega
    subst e
    have L : ∀ b : Bool, (wh_b t n 0 && wh_b t n 1) = b → ∃ n49, wX_solve_49 post (bi_b b) n49 0 A (na_f c) (na_f w) F G (na_f t) (na_f n) (pr_f th (na_f (so_t F G U c)) 15) ch rp so := by
      intro b eb
      have q := x_solve_l (A := A) (F := F) (G := G) (U := U) (so := so) (b := b) (th := pr_f th (na_f (so_t F G U c)) 15) hc hw ht hn (fun k hk => pr_i hk) (post := post) (fun ch rp => by rw [← eb]; exact h _ ch rp) 3375 0 ch rp (by omega)
      rw [pr_0] at q
      exact ⟨_, q⟩
    refine pk_le 15 15 (fun _ => x_whole (s := 0) (by decide) (hn 0) ht (br_c (fun y => L false ?_) (fun y => x_whole (s := 1) (by decide) (hn 1) ht (br_c (fun y2 => L false ?_) (fun y2 => L true ?_))))) (fun z => by omega)
    · rw [(bi_z _).mp y]
      rfl
    · rw [(bi_z _).mp y2, Bool.and_false]
    · rw [(bi_o _).mp y, (bi_o _).mp y2]
      rfl
  | succ d ih =>
    intro k hk
    have ih' := ih (k + 1) (by omega)
    exact pk_le 15 k (fun z => by omega) (fun _ => x_st hA hc (by omega) (And.intro (vp_in_nI (by omega) (by decide)) (nm_r (e' := pr_f th (na_f (so_t F G U c)) (k + 1)) (by rw [nI_clamp (by omega)]; exact pr_s th (na_f (so_t F G U c)) k) (nm_r (nI_1 k) ih'))))
theorem x_solve {post : SX → Prop} (hA : ∀ s, s < 4 → A s = nI (cs_cl U s)) (hc : ∀ i, c i < 4) (hw : ∀ i, w i < 4) (ht : ∀ i, t i < 8) (hn : ∀ s, n s ≤ 9) (h : ∀ th ch rp so, (∀ j, j < 3375 → so j = bi_b (wh_b t n 0 && wh_b t n 1 && sv_b (so_t F G U c) w t n j)) → post (A, na_f c, na_f w, F, G, na_f t, na_f n, th, ch, rp, so)) : wpX_solve post (A, na_f c, na_f w, F, G, na_f t, na_f n, th, ch, rp, so) := by
  have q := x_solve_o (th := th) (ch := ch) (rp := rp) (so := so) hA hc hw ht hn (fun th ch rp => h th ch rp _ (fun j hj => pr_i hj)) 15 0 (by omega)
  rw [pr_0] at q
  exact Exists.intro 16 q
theorem x_cnt {post : Int32 → SX → Prop} {P : Nat → Bool} (hso : ∀ j, j < 3375 → so j = bi_b (P j)) (h : post (cn_f P 3375) (A, na_f c, na_f w, F, G, na_f t, na_f n, th, ch, rp, so)) : ∀ d i, i + d = 3375 → wX_solutions_8 post A (na_f c) (na_f w) F G (na_f t) (na_f n) th ch rp so (d + 1) (cn_f P i) (nI i) := by
  intro d
  induction d with
  | zero =>
    intro i hi
    have e : i = 3375 := by omega
    subst e
    exact pk_le 3375 3375 (fun _ => h) (fun z => by omega)
  | succ d ih =>
    intro i hi
    have ih' := ih (i + 1) (by omega)
    refine pk_le 3375 i (fun z => by omega) (fun _ => And.intro (vp_in_nI (by omega) (by decide)) ?_)
    rw [nI_clamp (n := i) (by omega), hso i (by omega)]
    refine br_c (fun y => nm_r (nI_1 i) ?_) (fun y => nm_r (cn_t ((bi_o _).mp y)).symm (nm_r (nI_1 i) ih'))
    rw [← cn_n ((bi_z _).mp y)]
    exact ih'
theorem x_fst {post : Int32 → SX → Prop} {P : Nat → Bool} {v : Nat} (hv : v < 3) (hso : ∀ j, j < 3375 → so j = bi_b (P j)) : ∀ d i, i + d = 3375 → post (fd_f P (fun i => dg_f i v) d i) (A, na_f c, na_f w, F, G, na_f t, na_f n, th, ch, rp, so) → wX_first_15 post (nI v) A (na_f c) (na_f w) F G (na_f t) (na_f n) th ch rp so (d + 1) (nI i) := by
  intro d
  induction d with
  | zero =>
    intro i hi h
    have e : i = 3375 := by omega
    subst e
    exact pk_le 3375 3375 (fun _ => h) (fun z => by omega)
  | succ d ih =>
    intro i hi h
    refine pk_le 3375 i (fun z => by omega) (fun _ => And.intro (vp_in_nI (by omega) (by decide)) ?_)
    rw [nI_clamp (n := i) (by omega), hso i (by omega)]
    refine br_c (fun y => nm_r (nI_1 i) (ih (i + 1) (by omega) ?_)) (fun y => x_thing (by omega) hv ?_)
    · rw [fd_n ((bi_z _).mp y)] at h
      exact h
    · rw [fd_t ((bi_o _).mp y)] at h
      exact h
theorem x_val {post : Int32 → SX → Prop} {P : Nat → Bool} {v : Nat} (hv : v < 3) (hso : ∀ j, j < 3375 → so j = bi_b (P j)) (h : post (vs_f P (fun i => dg_f i v) 3375) (A, na_f c, na_f w, F, G, na_f t, na_f n, th, ch, rp, so)) : ∀ d i, i + d = 3375 → wX_values_17 post (nI v) A (na_f c) (na_f w) F G (na_f t) (na_f n) th ch rp so (d + 1) (vs_f P (fun i => dg_f i v) i) (nI i) := by
  intro d
  induction d with
  | zero =>
    intro i hi
    have e : i = 3375 := by omega
    subst e
    exact pk_le 3375 3375 (fun _ => h) (fun z => by omega)
  | succ d ih =>
    intro i hi
    have ih' := ih (i + 1) (by omega)
    refine pk_le 3375 i (fun z => by omega) (fun _ => And.intro (vp_in_nI (by omega) (by decide)) ?_)
    rw [nI_clamp (n := i) (by omega), hso i (by omega)]
    refine br_c (fun y => nm_r (nI_1 i) ?_) (fun y => x_thing (by omega) hv (nm_r (vs_t (d := fun i => dg_f i v) ((bi_o _).mp y)).symm (nm_r (nI_1 i) ih')))
    rw [← vs_n (d := fun i => dg_f i v) ((bi_z _).mp y)]
    exact ih'
theorem x_with {post : Int32 → SX → Prop} {P Q : Nat → Bool} {v k : Nat} (hv : v < 3) (hk : k < 15) (hso : ∀ j, j < 3375 → so j = bi_b (P j)) (hQ : ∀ j, Q j = (P j && decide (dg_f j v = k))) (h : post (cn_f Q 3375) (A, na_f c, na_f w, F, G, na_f t, na_f n, th, ch, rp, so)) : ∀ d i, i + d = 3375 → wX_solutionsWith_25 post (nI v) (nI k) A (na_f c) (na_f w) F G (na_f t) (na_f n) th ch rp so (d + 1) (cn_f Q i) (nI i) := by
  intro d
  induction d with
  | zero =>
    intro i hi
    have e : i = 3375 := by omega
    subst e
    exact pk_le 3375 3375 (fun _ => h) (fun z => by omega)
  | succ d ih =>
    intro i hi
    have ih' := ih (i + 1) (by omega)
    have hd := dg_lt (i := i) (by omega) v
    refine pk_le 3375 i (fun z => by omega) (fun _ => And.intro (vp_in_nI (by omega) (by decide)) ?_)
    rw [nI_clamp (n := i) (by omega), hso i (by omega)]
    refine br_c (fun y => nm_r (nI_1 i) ?_) (fun y => x_thing (by omega) hv (pk_eq (dg_f i v) k (fun z => nm_r (cn_t ?_).symm (nm_r (nI_1 i) ih')) (fun z => nm_r (nI_1 i) ?_)))
    · rw [← cn_n (P := Q) (by rw [hQ, (bi_z _).mp y]; rfl)]
      exact ih'
    · rw [hQ, (bi_o _).mp y, decide_eq_true z]
      rfl
    · rw [← cn_n (P := Q) (by rw [hQ, decide_eq_false z, Bool.and_false])]
      exact ih'
theorem x_alike {post : Int32 → SX → Prop} {P Q : Nat → Bool} {v k : Nat} (hv : v < 3) (hk : k < 3) (hso : ∀ j, j < 3375 → so j = bi_b (P j)) (hQ : ∀ j, Q j = (P j && decide (dg_f j v = dg_f j k))) (h : post (cn_f Q 3375) (A, na_f c, na_f w, F, G, na_f t, na_f n, th, ch, rp, so)) : ∀ d i, i + d = 3375 → wX_solutionsAlike_25 post (nI v) (nI k) A (na_f c) (na_f w) F G (na_f t) (na_f n) th ch rp so (d + 1) (cn_f Q i) (nI i) := by
  intro d
  induction d with
  | zero =>
    intro i hi
    have e : i = 3375 := by omega
    subst e
    exact pk_le 3375 3375 (fun _ => h) (fun z => by omega)
  | succ d ih =>
    intro i hi
    have ih' := ih (i + 1) (by omega)
    have hd := dg_lt (i := i) (by omega) v
    have hd2 := dg_lt (i := i) (by omega) k
    refine pk_le 3375 i (fun z => by omega) (fun _ => And.intro (vp_in_nI (by omega) (by decide)) ?_)
    rw [nI_clamp (n := i) (by omega), hso i (by omega)]
    refine br_c (fun y => nm_r (nI_1 i) ?_) (fun y => x_thing (by omega) hv (x_thing (by omega) hk (pk_eq (dg_f i v) (dg_f i k) (fun z => nm_r (cn_t ?_).symm (nm_r (nI_1 i) ih')) (fun z => nm_r (nI_1 i) ?_))))
    · rw [← cn_n (P := Q) (by rw [hQ, (bi_z _).mp y]; rfl)]
      exact ih'
    · rw [hQ, (bi_o _).mp y, decide_eq_true z]
      rfl
    · rw [← cn_n (P := Q) (by rw [hQ, decide_eq_false z, Bool.and_false])]
      exact ih'
end
