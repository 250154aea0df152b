/-! the class: sorts and wholeness -/
section
variable {A F G U th ch rp so : Nat → Int32} {c w t n : Nat → Nat}
theorem x_holds {post : Int32 → Prop} {m s : Nat} (hm : m < 2 ^ 31) (hs : s < 32) (h : post (bi_b (m.testBit s))) : wpX_holds post (nI m) (nI s) :=
  ss_b1 m s (fun e => by rw [e] at h; exact h) (fun e => by rw [e] at h; exact h) hm hs
theorem x_leads {post : Int32 → Prop} {a b : Nat} (hA : ∀ s, s < 4 → A s = nI (cs_cl U s)) (ha : a < 4) (hb : b < 4) (h : post (bi_b ((cs_cl U a).testBit b))) : wpX_leadsTo post (A, na_f c, na_f w, F, G, na_f t, na_f n, th, ch, rp, so) (nI a) (nI b) := by
  refine And.intro (vp_in_nI ha (by decide)) ?_
  rw [nI_clamp (by omega), hA a ha]
  have hl := cs_cl_lt (U := U) ha
  exact x_holds (by omega) (by omega) ⟨bi_n _, h⟩
theorem x_whole_l {post : Int32 → Prop} {s : Nat} (hs : s < 2) (hn : n s ≤ 9) (ht : ∀ i, t i < 8) (h : post (bi_b (wh_b t n s))) : ∀ d k, k + d = n s → wX_isWhole_4 post (nI s) A (na_f c) (na_f w) F G (na_f t) (na_f n) th ch rp so (d + 1) (mi_f t s k) (nI k) := by
  intro d
  induction d with
  | zero =>
    intro k hk
    refine And.intro (vp_in_nI hs (by decide)) ?_
    rw [nI_clamp (n := s) (by omega)]
    refine pk_le (n s) k (fun _ => ?_) (fun z => by omega)
    have e : k = n s := by omega
    subst e
    unfold wh_b at h
    refine br_c (fun z => ?_) (fun z => ?_)
    · rw [decide_eq_true z] at h
      exact h
    · rw [decide_eq_false z] at h
      exact h
  | succ d ih =>
    intro k hk
    have hts := ht (9 * s + k)
    refine And.intro (vp_in_nI hs (by decide)) ?_
    rw [nI_clamp (n := s) (by omega)]
    refine pk_le (n s) k (fun z => by omega) (fun _ => ?_)
    rw [ix_9]
    refine And.intro (vp_in_nI (by omega) (by decide)) (nm_r (e' := nI (t (9 * s + k))) (by rw [nI_clamp (by omega)]; rfl) ?_)
    refine pk_eq (t (9 * s + k)) 1 (fun z => ?_) (fun z => pk_eq (t (9 * s + k)) 0 (fun z2 => ?_) (fun z2 => ?_))
    · exact nm_r (mi_1 z).symm (nm_r (nI_1 k) (ih (k + 1) (by omega)))
    · exact nm_r (nI_1 k) (by rw [← mi_0 z2]; exact ih (k + 1) (by omega))
    · exact nm_r (mi_2' z2 z).symm (nm_r (nI_1 k) (ih (k + 1) (by omega)))
theorem x_whole {post : Int32 → Prop} {s : Nat} (hs : s < 2) (hn : n s ≤ 9) (ht : ∀ i, t i < 8) (h : post (bi_b (wh_b t n s))) : wpX_isWhole post (A, na_f c, na_f w, F, G, na_f t, na_f n, th, ch, rp, so) (nI s) :=
  Exists.intro (n s + 1) (x_whole_l hs hn ht h (n s) 0 (by omega))
theorem x_sc {post : Int32 → Prop} {i : Nat} (hA : ∀ s, s < 4 → A s = nI (cs_cl U s)) (hc : ∀ i, c i < 4) (hi : i < 3) (h : post (nI (cs_cl U (c i)))) : wpX_sortsOfConstant post (A, na_f c, na_f w, F, G, na_f t, na_f n, th, ch, rp, so) (nI i) := by
  refine And.intro (vp_in_nI hi (by decide)) ?_
  have hci := hc i
  have e : na_f c i = nI (c i) := rfl
  rw [nI_clamp (n := i) (by omega), e, nI_clamp (by omega), hA _ hci]
  exact ⟨vp_in_nI hci (by decide), h⟩
theorem x_sf_i {post : Int32 → Prop} {J : Int32 → Int32 → Prop} {m s : Nat} (hA : ∀ s, s < 4 → A s = nI (cs_cl U s)) (hm : m < 2 ^ 4) (hs : s < 4) (h : J (nI (so_f F U m (4 * s + 4))) (nI (s + 1))) : ∀ d k, k + d = 4 → wX_sortsOfF_20 post J (nI m) (nI s) A (na_f c) (na_f w) F G (na_f t) (na_f n) th ch rp so (d + 1) (nI (so_f F U m (4 * s + k))) (nI k) := by
  intro d
  induction d with
  | zero =>
    intro k hk
    have e : k = 4 := by omega
    subst e
    exact pk_le 4 4 (fun _ => nm_r (nI_1 s) h) (fun z => by omega)
  | succ d ih =>
    intro k hk
    have ih' := ih (k + 1) (by omega)
    refine pk_le 4 k (fun z => by omega) (fun _ => ?_)
    rw [ix_4]
    refine And.intro (vp_in_nI (by omega) (by decide)) ?_
    rw [nI_clamp (n := 4 * s + k) (by omega)]
    have e1 : (4 * s + k) / 4 = s := by omega
    have e2 : (4 * s + k) % 4 = k := by omega
    refine br_c (fun z => nm_r (nI_1 k) ?_) (fun z => x_holds (by omega) (by omega) (br_c (fun y => nm_r (nI_1 k) ?_) (fun y => ?_)))
    · rw [← so_f_0 (U := U) (m := m) z]
      exact ih'
    · rw [← so_f_b (F := F) (U := U) (r := 4 * s + k) (by rw [e1]; exact (bi_z _).mp y)]
      exact ih'
    · have q := so_f_t (U := U) z (show m.testBit ((4 * s + k) / 4) = true by rw [e1]; exact (bi_o _).mp y)
      rw [e2] at q
      exact And.intro (vp_in_nI (by omega) (by decide)) (nm_r (e' := nI (so_f F U m (4 * s + k + 1))) (by rw [nI_clamp (by omega), hA k (by omega), ss_or, q]) (nm_r (nI_1 k) ih'))
theorem x_sf_o {post : Int32 → Prop} {m : Nat} (hA : ∀ s, s < 4 → A s = nI (cs_cl U s)) (hm : m < 2 ^ 4) (h : post (nI (so_f F U m 16))) : ∀ d s, s + d = 4 → wX_sortsOfF_11 post (nI m) A (na_f c) (na_f w) F G (na_f t) (na_f n) th ch rp so (d + 1) (nI (so_f F U m (4 * s))) (nI s) := by
  intro d
  induction d with
  | zero =>
    intro s hs
    have e : s = 4 := by omega
    subst e
    exact pk_le 4 4 (fun _ => h) (fun z => by omega)
  | succ d ih =>
    intro s hs
    have ih' := ih (s + 1) (by omega)
    rw [show 4 * (s + 1) = 4 * s + 4 from by omega] at ih'
    exact pk_le 4 s (fun z => by omega) (fun _ => Exists.intro 5 (x_sf_i hA hm (by omega) ih' 4 0 (by omega)))
theorem x_sf {post : Int32 → Prop} {i : Nat} (hA : ∀ s, s < 4 → A s = nI (cs_cl U s)) (hc : ∀ i, c i < 4) (hi : i < 3) (h : post (nI (so_f F U (cs_cl U (c i)) 16))) : wpX_sortsOfF post (A, na_f c, na_f w, F, G, na_f t, na_f n, th, ch, rp, so) (nI i) := by
  unfold wpX_sortsOfF
  dsimp only
  exact x_sc hA hc hi (Exists.intro 5 (x_sf_o hA (cs_cl_lt (hc i)) h 4 0 (by omega)))
theorem x_rg_l {post : Int32 → Prop} {s k : Nat} (hA : ∀ s, s < 4 → A s = nI (cs_cl U s)) (hs : s < 4) (hk : k < 4) (h : post (nI (so_q G U (4 * s + k) 4))) : ∀ d u, u + d = 4 → wX_resultsOfG_5 post (nI s) (nI k) A (na_f c) (na_f w) F G (na_f t) (na_f n) th ch rp so (d + 1) (nI (so_q G U (4 * s + k) u)) (nI u) := by
  intro d
  induction d with
  | zero =>
    intro u hu
    have e : u = 4 := by omega
    subst e
    exact pk_le 4 4 (fun _ => h) (fun z => by omega)
  | succ d ih =>
    intro u hu
    have ih' := ih (u + 1) (by omega)
    refine pk_le 4 u (fun z => by omega) (fun _ => ?_)
    rw [ix_44]
    refine And.intro (vp_in_nI (by omega) (by decide)) ?_
    rw [nI_clamp (n := 4 * (4 * s + k) + u) (by omega)]
    refine br_c (fun z => nm_r (nI_1 u) ?_) (fun z => ?_)
    · rw [← so_q_0 (U := U) z]
      exact ih'
    · exact And.intro (vp_in_nI (by omega) (by decide)) (nm_r (e' := nI (so_q G U (4 * s + k) (u + 1))) (by rw [nI_clamp (by omega), hA u (by omega), ss_or, so_q_t z]) (nm_r (nI_1 u) ih'))
theorem x_rg {post : Int32 → Prop} {s k : Nat} (hA : ∀ s, s < 4 → A s = nI (cs_cl U s)) (hs : s < 4) (hk : k < 4) (h : post (nI (so_q G U (4 * s + k) 4))) : wpX_resultsOfG post (A, na_f c, na_f w, F, G, na_f t, na_f n, th, ch, rp, so) (nI s) (nI k) :=
  Exists.intro 5 (x_rg_l hA hs hk h 4 0 (by omega))
theorem x_sg_i {post : Int32 → Prop} {J : Int32 → Int32 → Prop} {m1 m2 s : Nat} (hA : ∀ s, s < 4 → A s = nI (cs_cl U s)) (h1 : m1 < 2 ^ 4) (h2 : m2 < 2 ^ 4) (hs : s < 4) (h : J (nI (so_g G U m1 m2 (4 * (4 * s + 4)))) (nI (s + 1))) : ∀ d k, k + d = 4 → wX_sortsOfG_28 post J (nI m1) (nI m2) (nI s) A (na_f c) (na_f w) F G (na_f t) (na_f n) th ch rp so (d + 1) (nI (so_g G U m1 m2 (4 * (4 * s + k)))) (nI k) := by
  intro d
  induction d with
  | zero =>
    intro k hk
    have e : k = 4 := by omega
    subst e
    exact pk_le 4 4 (fun _ => nm_r (nI_1 s) h) (fun z => by omega)
  | succ d ih =>
    intro k hk
    have ih' := ih (k + 1) (by omega)
    rw [show 4 * (4 * s + (k + 1)) = 4 * (4 * s + k) + 4 from by omega] at ih'
    have e1 : (4 * s + k) / 4 = s := by omega
    have e2 : (4 * s + k) % 4 = k := by omega
    refine pk_le 4 k (fun z => by omega) (fun _ => x_holds (by omega) (by omega) (br_c (fun y => nm_r (nI_1 k) ?_) (fun y => x_holds (by omega) (by omega) (br_c (fun y2 => nm_r (nI_1 k) ?_) (fun y2 => x_rg hA hs (by omega) (nm_r (e' := nI (so_g G U m1 m2 (4 * (4 * s + k) + 4))) ?_ (nm_r (nI_1 k) ih')))))))
    · rw [so_gn (fun q => by rw [e1, (bi_z _).mp y] at q; exact absurd q.1 (by decide)) 4 (by omega)] at ih'
      exact ih'
    · rw [so_gn (fun q => by rw [e2, (bi_z _).mp y2] at q; exact absurd q.2 (by decide)) 4 (by omega)] at ih'
      exact ih'
    · rw [ss_or, so_gq (by rw [e1]; exact (bi_o _).mp y) (by rw [e2]; exact (bi_o _).mp y2) 4 (by omega)]
theorem x_sg_o {post : Int32 → Prop} {m1 m2 : Nat} (hA : ∀ s, s < 4 → A s = nI (cs_cl U s)) (h1 : m1 < 2 ^ 4) (h2 : m2 < 2 ^ 4) (h : post (nI (so_g G U m1 m2 64))) : ∀ d s, s + d = 4 → wX_sortsOfG_19 post (nI m1) (nI m2) A (na_f c) (na_f w) F G (na_f t) (na_f n) th ch rp so (d + 1) (nI (so_g G U m1 m2 (4 * (4 * s)))) (nI s) := by
  intro d
  induction d with
  | zero =>
    intro s hs
    have e : s = 4 := by omega
    subst e
    exact pk_le 4 4 (fun _ => h) (fun z => by omega)
  | succ d ih =>
    intro s hs
    have ih' := ih (s + 1) (by omega)
    rw [show 4 * (s + 1) = 4 * s + 4 from by omega] at ih'
    exact pk_le 4 s (fun z => by omega) (fun _ => Exists.intro 5 (x_sg_i hA h1 h2 (by omega) ih' 4 0 (by omega)))
theorem x_sg {post : Int32 → Prop} {i j : Nat} (hA : ∀ s, s < 4 → A s = nI (cs_cl U s)) (hc : ∀ i, c i < 4) (hi : i < 3) (hj : j < 3) (h : post (nI (so_g G U (cs_cl U (c i)) (cs_cl U (c j)) 64))) : wpX_sortsOfG post (A, na_f c, na_f w, F, G, na_f t, na_f n, th, ch, rp, so) (nI i) (nI j) := by
  unfold wpX_sortsOfG
  dsimp only
  exact x_sc hA hc hi (x_sc hA hc hj (Exists.intro 5 (x_sg_o hA (cs_cl_lt (hc i)) (cs_cl_lt (hc j)) h 4 0 (by omega))))
theorem x_st {post : Int32 → Prop} {k : Nat} (hA : ∀ s, s < 4 → A s = nI (cs_cl U s)) (hc : ∀ i, c i < 4) (hk : k < 15) (h : post (nI (so_t F G U c k))) : wpX_sortsOfThing post (A, na_f c, na_f w, F, G, na_f t, na_f n, th, ch, rp, so) (nI k) := by
  unfold wpX_sortsOfThing
  dsimp only
  unfold so_t at h
  refine pk_le 3 k (fun z => pk_le 6 k (fun z2 => nm_r (e' := nI (k - 6)) (pk_sub (b := 6) z2) ?_) (fun z2 => ?_)) (fun z => ?_)
  · rw [if_neg (by omega), if_neg (by omega)] at h
    rw [ix_r3 (by omega), ix_d3 (by omega)]
    exact ⟨by decide, by decide, x_sg hA hc (by omega) (by omega) h⟩
  · rw [if_neg (by omega), if_pos z2] at h
    rw [show nI k - 3 = nI (k - 3) from pk_sub (b := 3) z]
    exact x_sf hA hc (by omega) h
  · rw [if_pos z] at h
    exact x_sc hA hc z h
end
