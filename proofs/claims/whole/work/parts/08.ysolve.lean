/-! the reference: things, words, solving, counts -/
section
variable {F G U my tg wd : Nat → Int32} {c w t n g : Nat → Nat}
def ym_f (sx w : Nat → Nat) (k : Nat) : Nat → Int32 := fun v => nI (mf_f sx (w v) k)
theorem y_find_i {post : SY → Prop} {J : Int32 → (Nat → Int32) → (Nat → Int32) → (Nat → Int32) → (Nat → Int32) → (Nat → Int32) → (Nat → Int32) → (Nat → Int32) → (Nat → Int32) → (Nat → Int32) → (Nat → Int32) → Prop} {sx : Nat → Nat} {k : Nat} (hk : k < 15) (hw : ∀ i, w i < 4) (hsx : ∀ k, sx k < 2 ^ 4) (hmy : ∀ v, v < 3 → my v = ym_f sx w k v) (h : J (nI (k + 1)) U (na_f c) F G (na_f w) (na_f n) (na_f t) (pr_f my (ym_f sx w (k + 1)) 3) tg wd) : ∀ d v, v + d = 3 → wY_findThings_36 post J (nI k) (nI (sx k)) (d + 1) (nI v) U (na_f c) F G (na_f w) (na_f n) (na_f t) (pr_f my (ym_f sx w (k + 1)) v) tg wd := by
  intro d
  induction d with
  | zero =>
    intro v hv
    have e : v = 3 := by omega
    subst e
    exact pk_le 3 3 (fun _ => nm_r (nI_1 k) h) (fun z => by omega)
  | succ d ih =>
    intro v hv
    have ih' := ih (v + 1) (by omega)
    have h1 := hsx k
    have h2 := hw v
    refine pk_le 3 v (fun z => by omega) (fun _ => And.intro (vp_in_nI (by omega) (by decide)) (And.intro (vp_in_nI (by omega) (by decide)) (And.intro (vp_in_nI (by omega) (by decide)) (nm_r (e' := pr_f my (ym_f sx w (k + 1)) (v + 1)) ?_ (nm_r (nI_1 v) ih')))))
    have e1 : na_f w v = nI (w v) := rfl
    have e2 : (sx k / 2 ^ w v % 2) * 2 ^ k < 2 ^ 32 := Nat.lt_of_lt_of_le (mf_one _ _ _) (Nat.pow_le_pow_right (by decide) (by omega))
    rw [nI_clamp (n := v) (by omega), pr_o (Nat.le_refl v), hmy v (by omega), e1, ss_bit (by omega) (by omega), ss_shl (by omega) e2]
    rw [← pr_s my (ym_f sx w (k + 1)) v]
    unfold ym_f
    rw [ss_or]
    rfl
theorem y_find_o {post : SY → Prop} (hc : ∀ i, c i < 4) (hw : ∀ i, w i < 4) (h : ∀ my, (∀ v, v < 3 → my v = ym_f (so_t F G U c) w 15 v) → post (U, na_f c, F, G, na_f w, na_f n, na_f t, my, tg, wd)) : ∀ d k my, k + d = 15 → (∀ v, v < 3 → my v = ym_f (so_t F G U c) w k v) → wY_findThings_22 post (d + 1) (nI k) U (na_f c) F G (na_f w) (na_f n) (na_f t) my tg wd := by
  intro d
  induction d with
  | zero =>
    intro k my hk hmy
    have e : k = 15 := by omega
    subst e
    exact pk_le 15 15 (fun _ => h my hmy) (fun z => by omega)
  | succ d ih =>
    intro k my hk hmy
    refine pk_le 15 k (fun z => by omega) (fun _ => y_st hc (by omega) (Exists.intro 4 ?_))
    have q := y_find_i (U := U) (F := F) (G := G) (c := c) (t := t) (n := n) (tg := tg) (wd := wd) (post := post) (J := wY_findThings_22 post (d + 1)) (my := my) (k := k) (by omega) hw (so_t_lt hc) hmy (ih (k + 1) _ (by omega) (fun v hv => pr_i hv)) 3 0 (by omega)
    rw [pr_0] at q
    exact q
theorem y_find_z {post : SY → Prop} (hc : ∀ i, c i < 4) (hw : ∀ i, w i < 4) (h : ∀ my, (∀ v, v < 3 → my v = ym_f (so_t F G U c) w 15 v) → post (U, na_f c, F, G, na_f w, na_f n, na_f t, my, tg, wd)) : ∀ d v, v + d = 3 → wY_findThings_2 post (d + 1) (nI v) U (na_f c) F G (na_f w) (na_f n) (na_f t) (pr_f my (fun _ => 0) v) tg wd := by
  intro d
  induction d with
  | zero =>
    intro v hv
    have e : v = 3 := by omega
    subst e
    exact pk_le 3 3 (fun _ => Exists.intro 16 (y_find_o hc hw h 15 0 _ (by omega) (fun v hv => pr_i hv))) (fun z => by omega)
  | succ d ih =>
    intro v hv
    have ih' := ih (v + 1) (by omega)
    exact pk_le 3 v (fun z => by omega) (fun _ => And.intro (vp_in_nI (by omega) (by decide)) (nm_r (e' := pr_f my (fun _ => 0) (v + 1)) (by rw [nI_clamp (by omega)]; exact pr_s my (fun _ => 0) v) (nm_r (nI_1 v) ih')))
theorem y_find {post : SY → Prop} (hc : ∀ i, c i < 4) (hw : ∀ i, w i < 4) (h : ∀ my, (∀ v, v < 3 → my v = ym_f (so_t F G U c) w 15 v) → post (U, na_f c, F, G, na_f w, na_f n, na_f t, my, tg, wd)) : wpY_findThings post (U, na_f c, F, G, na_f w, na_f n, na_f t, my, tg, wd) := by
  have q := y_find_z (my := my) hc hw h 3 0 (by omega)
  rw [pr_0] at q
  exact Exists.intro 4 q
theorem y_wn {post : Int32 → SY → Prop} {J : Int32 → Int32 → (Nat → Int32) → (Nat → Int32) → (Nat → Int32) → (Nat → Int32) → (Nat → Int32) → (Nat → Int32) → (Nat → Int32) → (Nat → Int32) → (Nat → Int32) → (Nat → Int32) → Prop} {x1 x4 : Int32} {p k : Nat} (hp : p + 3 ≤ 60) (h : J (nI (p + 1)) (nI (k + 1)) U (na_f c) F G (na_f w) (na_f n) (na_f t) my tg (upd wd p x4)) : wY_write_49 post J x1 (nI p) (nI k) x4 (-1) U (na_f c) F G (na_f w) (na_f n) (na_f t) my tg wd := by
  refine br_f (by decide) (And.intro (vp_in_nI (by omega) (by decide)) (nm_r (e' := upd wd p x4) ?_ (nm_r (nI_1 p) (nm_r (nI_1 k) h))))
  rw [nI_clamp (by omega)]
theorem y_wt {post : Int32 → SY → Prop} {J : Int32 → Int32 → (Nat → Int32) → (Nat → Int32) → (Nat → Int32) → (Nat → Int32) → (Nat → Int32) → (Nat → Int32) → (Nat → Int32) → (Nat → Int32) → (Nat → Int32) → (Nat → Int32) → Prop} {x1 x4 : Int32} {p k y : Nat} (hp : p + 3 ≤ 60) (hy : y < 15) (h : J (nI (p + (wx_l y).length)) (nI (k + 1)) U (na_f c) F G (na_f w) (na_f n) (na_f t) my tg (ap_f wd p (wx_l y))) : wY_write_49 post J x1 (nI p) (nI k) x4 (nI y) U (na_f c) F G (na_f w) (na_f n) (na_f t) my tg wd := by
  refine br_t (nI_pos' (by omega)) (pk_le 3 y (fun z => pk_le 6 y (fun z2 => ?_) (fun z2 => ?_)) (fun z => ?_))
  · rw [wx_c z2] at h
    have e6 : nI y - 6 = nI (y - 6) := pk_sub (b := 6) z2
    refine And.intro (vp_in_nI (by omega) (by decide)) (nm_r (e' := upd wd p (nI 1)) (by rw [nI_clamp (by omega)]; rfl) ?_)
    refine And.intro (by decide) (And.intro (pk_in (p + 1) 60 (by omega) (nI_1 p)) (nm_r (e' := upd (upd wd p (nI 1)) (p + 1) (nI (2 + (y - 6) / 3))) (by rw [nI_1 p, nI_clamp (by omega), e6, ix_d3 (by omega), ← nI_add 2 ((y - 6) / 3)]; rfl) ?_))
    refine And.intro (by decide) (And.intro (pk_in (p + 2) 60 (by omega) (nI_add p 2)) (nm_r (e' := upd (upd (upd wd p (nI 1)) (p + 1) (nI (2 + (y - 6) / 3))) (p + 1 + 1) (nI (2 + (y - 6) % 3))) (by rw [show nI p + 2 = nI (p + 2) from nI_add p 2, nI_clamp (by omega), e6, ix_r3 (by omega), ← nI_add 2 ((y - 6) % 3)]; rfl) ?_))
    exact nm_r (nI_add p 3) (nm_r (nI_1 k) h)
  · rw [wx_b z z2] at h
    refine And.intro (vp_in_nI (by omega) (by decide)) (nm_r (e' := upd wd p (nI 0)) (by rw [nI_clamp (by omega)]; rfl) ?_)
    refine And.intro (pk_in (p + 1) 60 (by omega) (nI_1 p)) (nm_r (e' := upd (upd wd p (nI 0)) (p + 1) (nI (y - 1))) (by rw [nI_1 p, nI_clamp (by omega), show nI y - 1 = nI (y - 1) from pk_sub (b := 1) (by omega)]) ?_)
    exact nm_r (nI_add p 2) (nm_r (nI_1 k) h)
  · rw [wx_a z] at h
    refine And.intro (vp_in_nI (by omega) (by decide)) (nm_r (e' := upd wd p (nI (2 + y))) (by rw [nI_clamp (by omega), show (2 : Int32) + nI y = nI (2 + y) from nI_add 2 y]) ?_)
    exact nm_r (nI_1 p) (nm_r (nI_1 k) h)
theorem y_wr_l {post : Int32 → SY → Prop} {s : Nat} (hs : s < 2) (hn : n s ≤ 9) (ht : ∀ i, t i < 8) (htg : ∀ v, v < 3 → tg v = nI (g v)) (hg : ∀ v, g v < 15) (h : post (nI (wl_l t g s (n s)).length) (U, na_f c, F, G, na_f w, na_f n, na_f t, my, tg, ap_f wd (30 * s) (wl_l t g s (n s)))) : ∀ d k, k + d = n s → wY_write_7 post (nI s) (d + 1) (nI (30 * s + (wl_l t g s k).length)) (nI k) U (na_f c) F G (na_f w) (na_f n) (na_f t) my tg (ap_f wd (30 * s) (wl_l t g s k)) := by
  intro d
  induction d with
  | zero =>
    intro k hk
    refine And.intro (vp_in_nI hs (by decide)) ?_
    rw [nI_clamp (n := s) (by omega)]
    refine pk_le (n s) k (fun _ => ?_) (fun z => by omega)
    have e : k = n s := by omega
    subst e
    rw [show (30 : Int32) * nI s = nI (30 * s) from pk_mul 30 s, pk_sub (by omega), Nat.add_sub_cancel_left]
    exact h
  | succ d ih =>
    intro k hk
    have hts := ht (9 * s + k)
    have hl := wl_le t g s k
    have ih' := ih (k + 1) (by omega)
    refine And.intro (vp_in_nI hs (by decide)) ?_
    rw [nI_clamp (n := s) (by omega)]
    refine pk_le (n s) k (fun z => by omega) (fun _ => ?_)
    rw [ix_9]
    refine And.intro (vp_in_nI (by omega) (by decide)) (nm_r (e' := nI (t (9 * s + k))) (by rw [nI_clamp (by omega)]; rfl) ?_)
    refine pk_le 5 (t (9 * s + k)) (fun z => ?_) (fun z => ?_)
    · have e : wl_l t g s (k + 1) = wl_l t g s k ++ wx_l (g (t (9 * s + k) - 5)) := by
        show wl_l t g s k ++ wt_l g (t (9 * s + k)) = _
        rw [wt_l, if_neg (by omega)]
      rw [e, ap_app, List.length_append, ← Nat.add_assoc] at ih'
      rw [show nI (t (9 * s + k)) - 5 = nI (t (9 * s + k) - 5) from pk_sub (b := 5) z, nI_clamp (n := t (9 * s + k) - 5) (by omega), htg _ (by omega)]
      exact And.intro (vp_in_nI (by omega) (by decide)) (y_wt (by omega) (hg _) ih')
    · have e : wl_l t g s (k + 1) = wl_l t g s k ++ [t (9 * s + k)] := by
        show wl_l t g s k ++ wt_l g (t (9 * s + k)) = _
        rw [wt_l, if_pos z]
      rw [e, ap_app, List.length_append, ← Nat.add_assoc] at ih'
      exact y_wn (by omega) ih'
theorem y_wr {post : Int32 → SY → Prop} {s : Nat} (hs : s < 2) (hn : n s ≤ 9) (ht : ∀ i, t i < 8) (htg : ∀ v, v < 3 → tg v = nI (g v)) (hg : ∀ v, g v < 15) (h : post (nI (wl_l t g s (n s)).length) (U, na_f c, F, G, na_f w, na_f n, na_f t, my, tg, ap_f wd (30 * s) (wl_l t g s (n s)))) : wpY_write post (U, na_f c, F, G, na_f w, na_f n, na_f t, my, tg, wd) (nI s) := by
  unfold wpY_write
  dsimp only
  exact nm_r (e' := nI (30 * s)) (pk_mul 30 s) (Exists.intro (n s + 1) (y_wr_l hs hn ht htg hg h (n s) 0 (by omega)))
theorem y_sm_0 {post : Int32 → SY → Prop} {x2 x5 : Int32} (h : post 0 (U, na_f c, F, G, na_f w, na_f n, na_f t, my, tg, wd)) (d : Nat) : wY_solves_94 post x2 U (na_f c) F G (na_f w) (na_f n) (na_f t) my tg wd (d + 1) 0 x5 :=
  br_c (fun _ => And.intro (bi_n false) h) (fun _ => br_t rfl (And.intro (bi_n false) h))
theorem y_sm_l {post : Int32 → SY → Prop} {L M : List Nat} (hL : hd_p wd 0 L) (hM : hd_p wd 30 M) (zL : ∀ x, x ∈ L → x < 2 ^ 31) (zM : ∀ x, x ∈ M → x < 2 ^ 31) (hl : L.length ≤ 27) (e : L.length = M.length) (h : post (bi_b (decide (L = M))) (U, na_f c, F, G, na_f w, na_f n, na_f t, my, tg, wd)) : ∀ d k, k + d = L.length → (∀ j, j < k → wd (0 + j) = wd (30 + j)) → wY_solves_94 post (nI L.length) U (na_f c) F G (na_f w) (na_f n) (na_f t) my tg wd (d + 1) 1 (nI k) := by
  intro d
  induction d with
  | zero =>
    intro k hk ha
    have e1 : k = L.length := by omega
    subst e1
    rw [decide_eq_true (hd_eq hL hM zL zM e ha)] at h
    exact pk_le L.length L.length (fun _ => And.intro (bi_n true) h) (fun z => by omega)
  | succ d ih =>
    intro k hk ha
    refine pk_le L.length k (fun z => by omega) (fun _ => br_f (by decide) (And.intro (vp_in_nI (by omega) (by decide)) ?_))
    rw [show (30 : Int32) + nI k = nI (30 + k) from nI_add 30 k, nI_clamp (n := k) (by omega), nI_clamp (n := 30 + k) (by omega)]
    refine And.intro (vp_in_nI (by omega) (by decide)) (br_c (fun z => nm_r (nI_1 k) (ih (k + 1) (by omega) (lt_s ha (by rw [Nat.zero_add]; exact z)))) (fun z => nm_e (y_sm_0 ?_ d)))
    rw [decide_eq_false (hd_ne (j := k) hL hM (by omega) (by rw [Nat.zero_add]; exact z))] at h
    exact h
theorem y_sm {post : Int32 → SY → Prop} (hn : ∀ s, n s ≤ 9) (ht : ∀ i, t i < 8) (htg : ∀ v, v < 3 → tg v = nI (g v)) (hg : ∀ v, g v < 15) (h : ∀ wd', post (bi_b (sm_b t n g)) (U, na_f c, F, G, na_f w, na_f n, na_f t, my, tg, wd')) : wpY_write (fun r_12 u => match u with | (U, C, F, G, V, N, T, my, tg, wd) => wpY_write (fun r_23 u => match u with | (U, C, F, G, V, N, T, my, tg, wd) => ((r_12 = r_23 → (∃ n94 : Nat, wY_solves_94 post r_12 U C F G V N T my tg wd n94 1 0)) ∧ (¬ r_12 = r_23 → (∃ n94 : Nat, wY_solves_94 post r_12 U C F G V N T my tg wd n94 0 0)))) (U, C, F, G, V, N, T, my, tg, wd) 1) (U, na_f c, F, G, na_f w, na_f n, na_f t, my, tg, wd) 0 := by
  refine y_wr (s := 0) (by decide) (hn 0) ht htg hg (y_wr (s := 1) (by decide) (hn 1) ht htg hg ?_)
  have h0 := wl_le t g 0 (n 0)
  have h1 := wl_le t g 1 (n 1)
  have k0 := hn 0
  have k1 := hn 1
  have hh := h (ap_f (ap_f wd (30 * 0) (wl_l t g 0 (n 0))) (30 * 1) (wl_l t g 1 (n 1)))
  refine pk_eq (wl_l t g 0 (n 0)).length (wl_l t g 1 (n 1)).length (fun z => Exists.intro ((wl_l t g 0 (n 0)).length + 1) ?_) (fun z => Exists.intro 1 (y_sm_0 ?_ 0))
  · exact y_sm_l (L := wl_l t g 0 (n 0)) (M := wl_l t g 1 (n 1)) (hd_lo (by omega)) hd_hi (wl_small hg ht _) (wl_small hg ht _) (by omega) z hh _ 0 (by omega) lt_0
  · unfold sm_b at hh
    rw [decide_eq_false (fun e => z (congrArg List.length e))] at hh
    exact hh
theorem y_sv_l {post : Int32 → SY → Prop} {sx : Nat → Nat} (hn : ∀ s, n s ≤ 9) (ht : ∀ i, t i < 8) (htg : ∀ v, v < 3 → tg v = nI (g v)) (hg : ∀ v, g v < 15) (hmy : ∀ v, v < 3 → my v = ym_f sx w 15 v) (h : ∀ wd', post (bi_b (hs_b sx g w 3 && sm_b t n g)) (U, na_f c, F, G, na_f w, na_f n, na_f t, my, tg, wd')) : ∀ d v, v + d = 3 → hs_b sx g w v = true → wY_solves_36 post U (na_f c) F G (na_f w) (na_f n) (na_f t) my tg wd (d + 1) (nI v) := by
  intro d
  induction d with
  | zero =>
    intro v hv hb
    have e : v = 3 := by omega
    subst e
    rw [hb] at h
    exact pk_le 3 3 (fun _ => y_sm hn ht htg hg h) (fun z => by omega)
  | succ d ih =>
    intro v hv hb
    have h1 := hg v
    have h2 := mf_lt sx (w v) 15
    refine pk_le 3 v (fun z => by omega) (fun _ => And.intro (vp_in_nI (by omega) (by decide)) (And.intro (vp_in_nI (by omega) (by decide)) ?_))
    rw [nI_clamp (n := v) (by omega), htg v (by omega), hmy v (by omega)]
    refine ss_b0 (mf_f sx (w v) 15) (g v) (fun y => ?_) (fun y => nm_r (nI_1 v) (ih (v + 1) (by omega) (hs_s hb ?_)))
    · rw [mf_bit sx (w v) 15 (g v) h1] at y
      have hh := h wd
      rw [hs_f y 3 (by omega)] at hh
      exact hh
    · rw [mf_bit sx (w v) 15 (g v) h1] at y
      exact y
theorem y_solves {post : Int32 → SY → Prop} {sx : Nat → Nat} {i : Nat} (hi : i < 3375) (hn : ∀ s, n s ≤ 9) (ht : ∀ i, t i < 8) (hmy : ∀ v, v < 3 → my v = ym_f sx w 15 v) (h : ∀ tg wd, (∀ v, v < 3 → tg v = nI (dg_f i v)) → post (bi_b (sv_b sx w t n i)) (U, na_f c, F, G, na_f w, na_f n, na_f t, my, tg, wd)) : wpY_solves post (U, na_f c, F, G, na_f w, na_f n, na_f t, my, tg, wd) (nI i) := by
  unfold wpY_solves
  dsimp only
  refine And.intro (by decide) (nm_r (e' := upd tg 0 (nI (i / 225))) (by rw [ix_d225 (by omega)]) (And.intro (by decide) (And.intro (by decide) (nm_r (e' := upd (upd tg 0 (nI (i / 225))) 1 (nI (i / 15 % 15))) (by rw [ix_d15 (r := i) (by omega), ix_r15 (r := i / 15) (by omega)]) (And.intro (by decide) (nm_r (e' := upd (upd (upd tg 0 (nI (i / 225))) 1 (nI (i / 15 % 15))) 2 (nI (i % 15))) (by rw [ix_r15 (r := i) (by omega)]) (Exists.intro 4 ?_)))))))
  have htg : ∀ v, v < 3 → upd (upd (upd tg 0 (nI (i / 225))) 1 (nI (i / 15 % 15))) 2 (nI (i % 15)) v = nI (dg_f i v) := by
    intro v hv
    rcases (by omega : v = 0 ∨ v = 1 ∨ v = 2) with e | e | e <;> subst e <;> rfl
  exact y_sv_l hn ht htg (dg_lt hi) hmy (fun wd' => h _ wd' htg) 3 0 (by omega) rfl
end
