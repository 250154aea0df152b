/-! the reference: sorts and wholeness -/
section
variable {F G U my tg wd : Nat → Int32} {c w t n : Nat → Nat}
theorem oo_lt {x : Int32} {a b : Nat} (h : nI b ≤ x) (hab : a < b) (hb : b < 2 ^ 31) : nI a < x := Int32.not_le.mp (oo_nle h hab hb)
theorem y_sort {post : Int32 → Prop} {s : Nat} (hs : s < 4) (h : post 1) : wpY_sort post (U, na_f c, F, G, na_f w, na_f n, na_f t, my, tg, wd) (nI s) := br_f (nI_pos (by omega)) (pk_lt 3 s (fun z => by omega) (fun _ => h))
theorem y_sort0 {post : Int32 → Prop} {x : Int32} (hx : x < 0 ∨ nI 4 ≤ x) (h : post 0) : wpY_sort post (U, na_f c, F, G, na_f w, na_f n, na_f t, my, tg, wd) x := by
  rcases hx with z | z
  · exact br_t z h
  · exact br_f (oo_nn z (by decide)) (br_t (oo_lt (a := 3) z (by decide) (by decide)) h)
theorem cs_f_y {m k : Nat} (h : ¬ U k = 0) (h2 : (cs_f U m k).testBit (k / 4) = true) : cs_f U m (k + 1) = cs_f U m k ||| 2 ^ (k % 4) := by
  show cs_st U (cs_f U m k) k = _
  unfold cs_st
  rw [if_pos ⟨h, h2⟩]
theorem cs_f_u {m k : Nat} (h : U k = 0) : cs_f U m (k + 1) = cs_f U m k := by
  show cs_st U (cs_f U m k) k = _
  unfold cs_st
  rw [if_neg (fun y => y.1 h)]
theorem cs_f_v {m k : Nat} (h : (cs_f U m k).testBit (k / 4) = false) : cs_f U m (k + 1) = cs_f U m k := by
  show cs_st U (cs_f U m k) k = _
  unfold cs_st
  rw [if_neg (fun y => by rw [h] at y; exact absurd y.2 (by decide))]
theorem y_at_i {post : Int32 → Prop} {J : Int32 → Int32 → Prop} {x2 : Int32} {m p : Nat} (hm : m < 2 ^ 4) (h : J (nI (cs_f U m 16)) (nI (p + 1))) : ∀ d k, k + d = 16 → wY_atMost_34 post J x2 (nI p) U (na_f c) F G (na_f w) (na_f n) (na_f t) my tg wd (d + 1) (nI (cs_f U m k)) (nI k) := by
  intro d
  induction d with
  | zero =>
    intro k hk
    have e : k = 16 := by omega
    subst e
    exact pk_le 16 16 (fun _ => nm_r (nI_1 p) h) (fun z => by omega)
  | succ d ih =>
    intro k hk
    have ih' := ih (k + 1) (by omega)
    have hl := cs_f_lt (U := U) hm k
    refine pk_le 16 k (fun z => by omega) (fun _ => And.intro (vp_in_nI (by omega) (by decide)) ?_)
    rw [nI_clamp (n := k) (by omega), ix_r4 (r := k) (by omega), ix_d4 (r := k) (by omega)]
    refine br_c (fun z => nm_r (nI_1 k) ?_) (fun z => And.intro (by decide) (ss_b1 (cs_f U m k) (k / 4) (fun y => And.intro (by decide) (nm_r (e' := nI (cs_f U m (k + 1))) ?_ (nm_r (nI_1 k) ih'))) (fun y => nm_r (nI_1 k) ?_)))
    · rw [← cs_f_u (m := m) z]
      exact ih'
    · rw [ss_sh1 (by omega), ss_or, cs_f_y z y]
    · rw [← cs_f_v y]
      exact ih'
theorem y_at_o {post : Int32 → Prop} {a b : Nat} (ha : a < 4) (hb : b < 4) (h : post (bi_b ((cs_cl U a).testBit b))) : ∀ d p, p + d = 4 → wY_atMost_25 post (nI b) U (na_f c) F G (na_f w) (na_f n) (na_f t) my tg wd (d + 1) (nI (cs_n U (2 ^ a) p)) (nI p) := by
  intro d
  induction d with
  | zero =>
    intro p hp
    have e : p = 4 := by omega
    subst e
    have hl := cs_cl_lt (U := U) ha
    exact pk_le 4 4 (fun _ => ss_b1 (cs_cl U a) b (fun e => by rw [e] at h; exact h) (fun e => by rw [e] at h; exact h)) (fun z => by omega)
  | succ d ih =>
    intro p hp
    exact pk_le 4 p (fun z => by omega) (fun _ => Exists.intro 17 (y_at_i (m := cs_n U (2 ^ a) p) (cs_n_lt (cs_p4 ha) p) (ih (p + 1) (by omega)) 16 0 (by omega)))
theorem y_at {post : Int32 → Prop} {a b : Nat} (ha : a < 4) (hb : b < 4) (h : post (bi_b ((cs_cl U a).testBit b))) : wpY_atMost post (U, na_f c, F, G, na_f w, na_f n, na_f t, my, tg, wd) (nI a) (nI b) := by
  unfold wpY_atMost
  dsimp only
  exact y_sort ha (br_f (by decide) (y_sort hb (br_f (by decide) (nm_r (e' := nI (2 ^ a)) (ss_sh1 (by omega)) (Exists.intro 5 (y_at_o ha hb h 4 0 (by omega)))))))
theorem y_whole_l {post : Int32 → Prop} {s : Nat} (hs : s < 2) (hn : n s ≤ 9) (ht : ∀ i, t i < 8) (h : post (bi_b (wh_b t n s))) : ∀ d k, k + d = n s → wY_complete_15 post (nI s) U (na_f c) F G (na_f w) (na_f n) (na_f t) my tg wd (d + 1) (mi_f t s k) (nI k) := by
  intro d
  induction d with
  | zero =>
    intro k hk
    refine And.intro (vp_in_nI hs (by decide)) ?_
    rw [nI_clamp (n := s) (by omega)]
    refine pk_le (n s) k (fun _ => ?_) (fun z => by omega)
    have e : k = n s := by omega
    subst e
    unfold wh_b at h
    refine br_c (fun z => ?_) (fun z => ?_)
    · rw [decide_eq_true z] at h
      exact h
    · rw [decide_eq_false z] at h
      exact h
  | succ d ih =>
    intro k hk
    have hts := ht (9 * s + k)
    refine And.intro (vp_in_nI hs (by decide)) ?_
    rw [nI_clamp (n := s) (by omega)]
    refine pk_le (n s) k (fun z => by omega) (fun _ => ?_)
    rw [ix_9]
    refine And.intro (vp_in_nI (by omega) (by decide)) (nm_r (e' := nI (t (9 * s + k))) (by rw [nI_clamp (by omega)]; rfl) ?_)
    refine pk_eq (t (9 * s + k)) 0 (fun z2 => ?_) (fun z2 => pk_eq (t (9 * s + k)) 1 (fun z => ?_) (fun z => ?_))
    · exact nm_r (nI_1 k) (by rw [← mi_0 z2]; exact ih (k + 1) (by omega))
    · exact nm_r (mi_1 z).symm (nm_r (nI_1 k) (ih (k + 1) (by omega)))
    · exact nm_r (mi_2 z2 z).symm (nm_r (nI_1 k) (ih (k + 1) (by omega)))
theorem y_whole {post : Int32 → Prop} {s : Nat} (hs : s < 2) (hn : n s ≤ 9) (ht : ∀ i, t i < 8) (h : post (bi_b (wh_b t n s))) : wpY_complete post (U, na_f c, F, G, na_f w, na_f n, na_f t, my, tg, wd) (nI s) := by
  have q : ∃ n15, wY_complete_15 post (nI s) U (na_f c) F G (na_f w) (na_f n) (na_f t) my tg wd n15 1 0 := Exists.intro (n s + 1) (y_whole_l hs hn ht h (n s) 0 (by omega))
  exact pk_eq s 0 (fun _ => q) (fun z => pk_eq s 1 (fun _ => q) (fun z2 => by omega))
theorem y_up_l {post : Int32 → Prop} {s : Nat} (hs : s < 4) (h : post (nI (up_f (cs_cl U s) 4))) : ∀ d b, b + d = 4 → wY_up_4 post (nI s) U (na_f c) F G (na_f w) (na_f n) (na_f t) my tg wd (d + 1) (nI (up_f (cs_cl U s) b)) (nI b) := by
  intro d
  induction d with
  | zero =>
    intro b hb
    have e : b = 4 := by omega
    subst e
    exact pk_le 4 4 (fun _ => h) (fun z => by omega)
  | succ d ih =>
    intro b hb
    have ih' := ih (b + 1) (by omega)
    refine pk_le 4 b (fun z => by omega) (fun _ => y_at hs (by omega) (br_c (fun y => nm_r (e' := nI (up_f (cs_cl U s) (b + 1))) ?_ (nm_r (nI_1 b) ih')) (fun y => nm_r (e' := nI (up_f (cs_cl U s) (b + 1))) ?_ (nm_r (nI_1 b) ih'))))
    · show nI (up_f (cs_cl U s) b) ||| nI 0 = _
      rw [ss_or, up_f, (bi_z _).mp y]
      rfl
    · rw [ss_sh1 (by omega), ss_or, up_f, if_pos ((bi_o _).mp y)]
theorem y_up {post : Int32 → Prop} {s : Nat} (hs : s < 4) (h : post (nI (cs_cl U s))) : wpY_up post (U, na_f c, F, G, na_f w, na_f n, na_f t, my, tg, wd) (nI s) := by
  have h' : post (nI (up_f (cs_cl U s) 4)) := by
    rw [up_4 (cs_cl_lt hs)]
    exact h
  exact Exists.intro 5 (y_up_l hs h' 4 0 (by omega))
theorem y_sg {post : Int32 → Prop} {k m1 m2 : Nat} (hk : 6 ≤ k) (hk2 : k < 15) (h1 : m1 < 2 ^ 4) (h2 : m2 < 2 ^ 4) (h : post (nI (so_g G U m1 m2 64))) : ∀ d r, r + d = 64 → wY_sorts_157 post (nI k) (nI m1) (nI m2) U (na_f c) F G (na_f w) (na_f n) (na_f t) my tg wd (d + 1) (nI (so_g G U m1 m2 r)) (nI r) := by
  intro d
  induction d with
  | zero =>
    intro r hr
    have e : r = 64 := by omega
    subst e
    exact pk_le 64 64 (fun _ => h) (fun z => by omega)
  | succ d ih =>
    intro r hr
    have ih' := ih (r + 1) (by omega)
    refine pk_le 64 r (fun z => by omega) (fun _ => pk_lt k 6 (fun z => by omega) (fun _ => And.intro (vp_in_nI (by omega) (by decide)) ?_))
    rw [nI_clamp (n := r) (by omega), ix_r4 (r := r) (by omega), ix_d4 (r := r) (by omega), ix_r4 (r := r / 4) (by omega), ix_d16 (r := r) (by omega)]
    refine br_c (fun z => nm_r (nI_1 r) ?_) (fun z => And.intro (by decide) (ss_b1 m1 (r / 16) (fun y => And.intro (by decide) (And.intro (by decide) (ss_b1 m2 (r / 4 % 4) (fun y2 => And.intro (by decide) (y_up (by omega) (nm_r (e' := nI (so_g G U m1 m2 (r + 1))) ?_ (nm_r (nI_1 r) ih')))) (fun y2 => nm_r (nI_1 r) ?_)))) (fun y => nm_r (nI_1 r) ?_)))
    · rw [← so_g_0 (U := U) (m1 := m1) (m2 := m2) z]
      exact ih'
    · rw [ss_or, so_g_t z y y2]
    · rw [← so_g_d (G := G) (U := U) (m1 := m1) y2]
      exact ih'
    · rw [← so_g_b (G := G) (U := U) (m2 := m2) y]
      exact ih'
theorem y_sg0 {post : Int32 → Prop} {k : Nat} {x2 x3 x4 : Int32} (hk : k < 6) (h : post x4) : ∃ n157, wY_sorts_157 post (nI k) x2 x3 U (na_f c) F G (na_f w) (na_f n) (na_f t) my tg wd n157 x4 0 :=
  Exists.intro 1 (br_f (by decide) (pk_lt k 6 (fun _ => h) (fun z => by omega)))
theorem y_sf {post : Int32 → Prop} {k m1 : Nat} {x3 : Int32} (hk : 3 ≤ k) (hk2 : k < 6) (h1 : m1 < 2 ^ 4) (h : post (nI (so_f F U m1 16))) : ∀ d r, r + d = 16 → wY_sorts_90 post (nI k) (nI m1) x3 U (na_f c) F G (na_f w) (na_f n) (na_f t) my tg wd (d + 1) (nI (so_f F U m1 r)) (nI r) := by
  intro d
  induction d with
  | zero =>
    intro r hr
    have e : r = 16 := by omega
    subst e
    exact pk_le 16 16 (fun _ => y_sg0 hk2 h) (fun z => by omega)
  | succ d ih =>
    intro r hr
    have ih' := ih (r + 1) (by omega)
    refine pk_le 16 r (fun z => by omega) (fun _ => pk_lt k 3 (fun z => by omega) (fun _ => pk_le 6 k (fun z => by omega) (fun _ => And.intro (vp_in_nI (by omega) (by decide)) ?_)))
    rw [nI_clamp (n := r) (by omega), ix_r4 (r := r) (by omega), ix_d4 (r := r) (by omega)]
    refine br_c (fun z => nm_r (nI_1 r) ?_) (fun z => And.intro (by decide) (ss_b1 m1 (r / 4) (fun y => And.intro (by decide) (y_up (by omega) (nm_r (e' := nI (so_f F U m1 (r + 1))) ?_ (nm_r (nI_1 r) ih')))) (fun y => nm_r (nI_1 r) ?_)))
    · rw [← so_f_0 (U := U) (m := m1) z]
      exact ih'
    · rw [ss_or, so_f_t z y]
    · rw [← so_f_b (F := F) (U := U) y]
      exact ih'
theorem y_st {post : Int32 → Prop} {k : Nat} (hc : ∀ i, c i < 4) (hk : k < 15) (h : post (nI (so_t F G U c k))) : wpY_sorts post (U, na_f c, F, G, na_f w, na_f n, na_f t, my, tg, wd) (nI k) := by
  unfold wpY_sorts
  dsimp only
  unfold so_t at h
  refine br_f (nI_pos (by omega)) (pk_le k 14 (fun _ => pk_le 3 k (fun z => pk_le 6 k (fun z2 => And.intro (by decide) ?_) (fun z2 => ?_)) (fun z => ?_)) (fun z => by omega))
  · rw [if_neg (by omega), if_neg (by omega)] at h
    unfold wY_sorts_44
    rw [show nI k - 6 = nI (k - 6) from pk_sub (b := 6) z2, ix_r3 (by omega), ix_d3 (by omega), nI_clamp (n := (k - 6) / 3) (by omega), nI_clamp (n := (k - 6) % 3) (by omega)]
    refine And.intro (vp_in_nI (by omega) (by decide)) (y_up (s := c ((k - 6) / 3)) (hc _) (br_t (nI_le (a := 6) z2 (by omega)) (And.intro (by decide) (And.intro (vp_in_nI (by omega) (by decide)) (y_up (s := c ((k - 6) % 3)) (hc _) ?_)))))
    exact br_t (nI_le (a := 3) (by omega) (by omega)) (Exists.intro 1 (br_f (by decide) (br_f (nI_nlt (b := 3) (by omega) (by omega)) (br_t (nI_le (a := 6) z2 (by omega)) (Exists.intro 65 (y_sg z2 hk (cs_cl_lt (hc _)) (cs_cl_lt (hc _)) h 64 0 (by omega)))))))
  · rw [if_neg (by omega), if_pos z2] at h
    unfold wY_sorts_44
    rw [show nI k - 3 = nI (k - 3) from pk_sub (b := 3) z, nI_clamp (n := k - 3) (by omega)]
    exact And.intro (vp_in_nI (by omega) (by decide)) (y_up (s := c (k - 3)) (hc _) (br_f (nI_ge (b := 6) z2 (by decide)) (br_t (nI_le (a := 3) z (by omega)) (Exists.intro 17 (y_sf z z2 (cs_cl_lt (hc _)) h 16 0 (by omega))))))
  · rw [if_pos z] at h
    unfold wY_sorts_44
    rw [nI_clamp (n := k) (by omega)]
    exact And.intro (vp_in_nI (by omega) (by decide)) (y_up (s := c k) (hc _) (br_f (nI_ge (b := 6) (by omega) (by decide)) (br_f (nI_ge (b := 3) z (by decide)) (Exists.intro 1 (br_f (by decide) (br_t (nI_lt (b := 3) z (by decide)) (y_sg0 (by omega) h)))))))
end
