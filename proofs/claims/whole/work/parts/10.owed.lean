/-! the relation and what is owed -/
section
variable {A F G U th ch rp so my tg wd : Nat → Int32} {c w t n : Nat → Nat}
theorem x_leads1 {post : Int32 → Prop} {a b m : Nat} (hAa : A a = nI m) (hm : m < 2 ^ 4) (ha : a < 4) (hb : b < 4) (h : post (bi_b (m.testBit b))) : wpX_leadsTo post (A, na_f c, na_f w, F, G, na_f t, na_f n, th, ch, rp, so) (nI a) (nI b) := by
  refine And.intro (vp_in_nI ha (by decide)) ?_
  rw [nI_clamp (by omega), hAa]
  exact x_holds (by omega) (by omega) ⟨bi_n _, h⟩
def nu_f (U : Nat → Int32) (a b : Nat) : Nat → Int32 := fun s => nI (cs_cl (upd U (4 * a + b) 1) s)
theorem x_below_l {post : Int32 → SX → Prop} {a b : Nat} (hA : ∀ s, s < 4 → A s = nI (cs_cl U s)) (ha : a < 4) (hb : b < 4) (hno : (cs_cl U b).testBit a = false) (h : post 1 (pr_f A (nu_f U a b) 4, na_f c, na_f w, F, G, na_f t, na_f n, th, ch, rp, so)) : ∀ d s, s + d = 4 → wX_below_27 post (nI a) (nI b) (d + 1) (nI s) (pr_f A (nu_f U a b) s) (na_f c) (na_f w) F G (na_f t) (na_f n) th ch rp so := by
  intro d
  induction d with
  | zero =>
    intro s hs
    have e : s = 4 := by omega
    subst e
    exact pk_le 4 4 (fun _ => h) (fun z => by omega)
  | succ d ih =>
    intro s hs
    have hs' : s < 4 := by omega
    have ih' := ih (s + 1) (by omega)
    have es : pr_f A (nu_f U a b) s s = nI (cs_cl U s) := by
      rw [pr_o (Nat.le_refl s), hA s hs']
    have eb : pr_f A (nu_f U a b) s b = nI (cs_cl U b) := by
      by_cases z : b < s
      · rw [pr_i z]
        unfold nu_f
        rw [cs_new (by decide) ha hb hb, hno, if_neg (by decide)]
      · rw [pr_o (by omega), hA b hb]
    refine pk_le 4 s (fun z => by omega) (fun _ => x_leads1 es (cs_cl_lt hs') hs' ha (br_c (fun y => nm_r (nI_1 s) ?_) (fun y => ?_)))
    · have e1 : A s = nu_f U a b s := by
        unfold nu_f
        rw [cs_new (by decide) ha hb hs', (bi_z _).mp y, if_neg (by decide), hA s hs']
      rw [← pr_e e1]
      exact ih'
    · have e1 : nI (cs_cl U s ||| cs_cl U b) = nu_f U a b s := by
        unfold nu_f
        rw [cs_new (by decide) ha hb hs', if_pos ((bi_o _).mp y)]
      refine And.intro (vp_in_nI hs' (by decide)) (And.intro (vp_in_nI hb (by decide)) (And.intro (vp_in_nI hs' (by decide)) (nm_r (e' := pr_f A (nu_f U a b) (s + 1)) ?_ (nm_r (nI_1 s) ih'))))
      rw [nI_clamp (n := s) (by omega), nI_clamp (n := b) (by omega), es, eb, ss_or, e1, pr_s]
theorem x_init_l {post : SX → Prop} {C V T N : Nat → Int32} (h : post (pr_f A (fun s => nI (2 ^ s)) 4, C, V, F, G, T, N, th, ch, rp, so)) : ∀ d s, s + d = 4 → wX_init_90 post (d + 1) (nI s) (pr_f A (fun s => nI (2 ^ s)) s) C V F G T N th ch rp so := by
  intro d
  induction d with
  | zero =>
    intro s hs
    have e : s = 4 := by omega
    subst e
    exact pk_le 4 4 (fun _ => h) (fun z => by omega)
  | succ d ih =>
    intro s hs
    have ih' := ih (s + 1) (by omega)
    exact pk_le 4 s (fun z => by omega) (fun _ => And.intro (vp_in_nI (by omega) (by decide)) (nm_r (e' := pr_f A (fun s => nI (2 ^ s)) (s + 1)) (by rw [nI_clamp (by omega), ss_sh1 (by omega)]; exact pr_s A (fun s => nI (2 ^ s)) s) (nm_r (nI_1 s) ih')))
/-- the constants' and variables' sorts, ranks, tokens and counts are the same on both sides; the class's sets are the closures of the reference's pairs -/
def i_Rel (_ : Nat) (u : SX) (v : SY) : Prop := ∃ (A F G U th ch rp so my tg wd : Nat → Int32) (c w t n : Nat → Nat), u = (A, na_f c, na_f w, F, G, na_f t, na_f n, th, ch, rp, so) ∧ v = (U, na_f c, F, G, na_f w, na_f n, na_f t, my, tg, wd) ∧ (∀ s, s < 4 → A s = nI (cs_cl U s)) ∧ (∀ i, c i < 4) ∧ (∀ i, w i < 4) ∧ (∀ i, t i < 8) ∧ (∀ s, n s ≤ 9)
theorem i_mk {k : Nat} (hA : ∀ s, s < 4 → A s = nI (cs_cl U s)) (hc : ∀ i, c i < 4) (hw : ∀ i, w i < 4) (ht : ∀ i, t i < 8) (hn : ∀ s, n s ≤ 9) : i_Rel k (A, na_f c, na_f w, F, G, na_f t, na_f n, th, ch, rp, so) (U, na_f c, F, G, na_f w, na_f n, na_f t, my, tg, wd) := ⟨A, F, G, U, th, ch, rp, so, my, tg, wd, c, w, t, n, rfl, rfl, hA, hc, hw, ht, hn⟩
end
theorem i_up {k : Nat} {u : SX} {v : SY} (h : i_Rel k u v) : i_Rel (k + 5) u v := h
theorem i_vc0 : wpX_init (fun u => wpY_init (fun v => i_Rel 0 u v)) := by
  have q := x_init_l (post := fun u => wpY_init (fun v => i_Rel 0 u v)) (A := fun _ => 0) (F := fun _ => 0) (G := fun _ => 0) (th := fun _ => 0) (ch := fun _ => 0) (rp := fun _ => 0) (so := fun _ => 0) (C := fun _ => 0) (V := fun _ => 0) (T := fun _ => 0) (N := fun _ => 0) (by
    show i_Rel 0 _ _
    exact ⟨_, _, _, fun _ => 0, _, _, _, _, _, _, _, fun _ => 0, fun _ => 0, fun _ => 0, fun _ => 0, rfl, rfl, fun s hs => by rw [pr_i hs, cs_0 (fun _ => rfl)], fun _ => (by decide : 0 < 4), fun _ => (by decide : 0 < 4), fun _ => (by decide : 0 < 8), fun _ => (by decide : 0 ≤ 9)⟩) 4 0 (by omega)
  rw [pr_0] at q
  exact Exists.intro 5 q
theorem i_vc_below {k : Nat} {u : SX} {v : SY} (I : i_Rel k u v) (hk : k + 5 ≤ 2560) (v1 : Int32) (v2 : Int32) : wpX_below (fun r u' => wpY_below (fun r' v' => r' = r ∧ i_Rel (k + 5) u' v') v v1 v2) u v1 v2 := by
  obtain ⟨A, F, G, U, th, ch, rp, so, my, tg, wd, c, w, t, n, rfl, rfl, hA, hc, hw, ht, hn⟩ := I
  unfold wpX_below wpY_below
  dsimp only
  rcases oo_ix v1 4 (by decide) with h1 | ⟨a, ha, rfl⟩
  · exact x_sort0 h1 (br_t rfl (y_sort0 h1 (br_t rfl ⟨rfl, i_mk hA hc hw ht hn⟩)))
  · refine x_sort ha (br_f (by decide) ?_)
    rcases oo_ix v2 4 (by decide) with h2 | ⟨b, hb, rfl⟩
    · exact x_sort0 h2 (br_t rfl (y_sort ha (br_f (by decide) (y_sort0 h2 (br_t rfl ⟨rfl, i_mk hA hc hw ht hn⟩)))))
    · refine x_sort hb (br_f (by decide) (x_leads hA hb ha (br_c (fun y => Exists.intro 5 ?_) (fun y => y_sort ha (br_f (by decide) (y_sort hb (br_f (by decide) (y_at hb ha (br_f y ⟨rfl, i_mk hA hc hw ht hn⟩)))))))))
      have q := x_below_l (post := fun r u' => wpY_sort (fun r_1 => ((r_1 = 0 → 0 = r ∧ i_Rel (k + 5) u' (U, na_f c, F, G, na_f w, na_f n, na_f t, my, tg, wd)) ∧ (¬ r_1 = 0 → wpY_sort (fun r_13 => ((r_13 = 0 → 0 = r ∧ i_Rel (k + 5) u' (U, na_f c, F, G, na_f w, na_f n, na_f t, my, tg, wd)) ∧ (¬ r_13 = 0 → wpY_atMost (fun r_25 => ((r_25 = 0 → (vp_in ((4 * nI a) + nI b) 16 ∧ ∀ U2 : Nat → Int32, U2 = upd U ((4 * nI a) + nI b).toNatClampNeg (vp_nar .boolean 1) → 1 = r ∧ i_Rel (k + 5) u' (U2, na_f c, F, G, na_f w, na_f n, na_f t, my, tg, wd))) ∧ (¬ r_25 = 0 → 0 = r ∧ i_Rel (k + 5) u' (U, na_f c, F, G, na_f w, na_f n, na_f t, my, tg, wd)))) (U, na_f c, F, G, na_f w, na_f n, na_f t, my, tg, wd) (nI b) (nI a)))) (U, na_f c, F, G, na_f w, na_f n, na_f t, my, tg, wd) (nI b)))) (U, na_f c, F, G, na_f w, na_f n, na_f t, my, tg, wd) (nI a)) (F := F) (G := G) (th := th) (ch := ch) (rp := rp) (so := so) (c := c) (w := w) (t := t) (n := n) hA ha hb ((bi_z _).mp y) (y_sort ha (br_f (by decide) (y_sort hb (br_f (by decide) (y_at hb ha (br_t y (And.intro (pk_in (4 * a + b) 16 (by omega) (ix_4 a b)) (nm_r (e' := upd U (4 * a + b) 1) (by rw [ix_4, nI_clamp (by omega)]; rfl) ⟨rfl, i_mk (fun s hs => pr_i hs) hc hw ht hn⟩)))))))) 4 0 (by omega)
      rw [pr_0] at q
      exact q
theorem i_vc_atMost {k : Nat} {u : SX} {v : SY} (I : i_Rel k u v) (hk : k + 5 ≤ 2560) (v1 : Int32) (v2 : Int32) : wpX_atMost (fun r => wpY_atMost (fun r' => r' = r ∧ i_Rel (k + 5) u v) v v1 v2) u v1 v2 := by
  have J : i_Rel (k + 5) u v := I
  obtain ⟨A, F, G, U, th, ch, rp, so, my, tg, wd, c, w, t, n, rfl, rfl, hA, hc, hw, ht, hn⟩ := I
  unfold wpX_atMost
  dsimp only
  rcases oo_ix v1 4 (by decide) with h1 | ⟨a, ha, rfl⟩
  · refine x_sort0 h1 (br_t rfl ?_)
    unfold wpY_atMost
    dsimp only
    exact y_sort0 h1 (br_t rfl ⟨rfl, J⟩)
  · refine x_sort ha (br_f (by decide) ?_)
    rcases oo_ix v2 4 (by decide) with h2 | ⟨b, hb, rfl⟩
    · refine x_sort0 h2 (br_t rfl ?_)
      unfold wpY_atMost
      dsimp only
      exact y_sort ha (br_f (by decide) (y_sort0 h2 (br_t rfl ⟨rfl, J⟩)))
    · refine x_sort hb (br_f (by decide) (x_leads hA ha hb (br_c (fun y => y_at ha hb ⟨y, J⟩) (fun y => y_at ha hb ⟨?_, J⟩))))
      rw [(bi_o _).mp y]
      rfl
theorem i_vc_constant {k : Nat} {u : SX} {v : SY} (I : i_Rel k u v) (hk : k + 5 ≤ 2560) (v1 : Int32) (v2 : Int32) : wpX_constant (fun r u' => wpY_constant (fun r' v' => r' = r ∧ i_Rel (k + 5) u' v') v v1 v2) u v1 v2 := by
  obtain ⟨A, F, G, U, th, ch, rp, so, my, tg, wd, c, w, t, n, rfl, rfl, hA, hc, hw, ht, hn⟩ := I
  unfold wpX_constant wpY_constant
  dsimp only
  rcases oo_ix v1 3 (by decide) with h1 | ⟨a, ha, rfl⟩
  · rcases h1 with z | z
    · exact br_t z (br_t z ⟨rfl, i_mk hA hc hw ht hn⟩)
    · exact br_f (oo_nn z (by decide)) (br_t z (br_f (oo_nn z (by decide)) (br_t (oo_lt (a := 2) z (by decide) (by decide)) ⟨rfl, i_mk hA hc hw ht hn⟩)))
  · refine br_f (nI_pos (by omega)) (br_f (nI_ge (b := 3) ha (by decide)) ?_)
    rcases oo_ix v2 4 (by decide) with h2 | ⟨b, hb, rfl⟩
    · exact x_sort0 h2 (br_t rfl (br_f (nI_pos (by omega)) (br_f (nI_nlt (a := 2) (b := a) (by omega) (by decide)) (y_sort0 h2 (br_t rfl ⟨rfl, i_mk hA hc hw ht hn⟩)))))
    · exact x_sort hb (br_f (by decide) (And.intro (vp_in_nI ha (by decide)) (nm_r (e' := na_f (na_u c a b)) (by rw [nI_clamp (by omega), na_upd]) (br_f (nI_pos (by omega)) (br_f (nI_nlt (a := 2) (b := a) (by omega) (by decide)) (y_sort hb (br_f (by decide) (And.intro (vp_in_nI ha (by decide)) (nm_r (e' := na_f (na_u c a b)) (by rw [nI_clamp (by omega), na_upd]) ⟨rfl, i_mk hA (na_b hc hb) hw ht hn⟩)))))))))
theorem i_vc_rankF {k : Nat} {u : SX} {v : SY} (I : i_Rel k u v) (hk : k + 5 ≤ 2560) (v1 : Int32) (v2 : Int32) (v3 : Int32) : wpX_rankF (fun r u' => wpY_rankF (fun r' v' => r' = r ∧ i_Rel (k + 5) u' v') v v1 v2 (lw_bz v3)) u v1 v2 (lw_bz v3) := by
  obtain ⟨A, F, G, U, th, ch, rp, so, my, tg, wd, c, w, t, n, rfl, rfl, hA, hc, hw, ht, hn⟩ := I
  unfold wpX_rankF wpY_rankF
  dsimp only
  rcases oo_ix v1 4 (by decide) with h1 | ⟨a, ha, rfl⟩
  · exact x_sort0 h1 (br_t rfl (y_sort0 h1 (br_t rfl ⟨rfl, i_mk hA hc hw ht hn⟩)))
  · refine x_sort ha (br_f (by decide) ?_)
    rcases oo_ix v2 4 (by decide) with h2 | ⟨b, hb, rfl⟩
    · exact x_sort0 h2 (br_t rfl (y_sort ha (br_f (by decide) (y_sort0 h2 (br_t rfl ⟨rfl, i_mk hA hc hw ht hn⟩)))))
    · exact x_sort hb (br_f (by decide) (And.intro (pk_in (4 * a + b) 16 (by omega) (ix_4 a b)) (nm_e (y_sort ha (br_f (by decide) (y_sort hb (br_f (by decide) (And.intro (pk_in (4 * a + b) 16 (by omega) (ix_4 a b)) (nm_e ⟨rfl, i_mk hA hc hw ht hn⟩)))))))))
theorem i_vc_rankG {k : Nat} {u : SX} {v : SY} (I : i_Rel k u v) (hk : k + 5 ≤ 2560) (v1 : Int32) (v2 : Int32) (v3 : Int32) (v4 : Int32) : wpX_rankG (fun r u' => wpY_rankG (fun r' v' => r' = r ∧ i_Rel (k + 5) u' v') v v1 v2 v3 (lw_bz v4)) u v1 v2 v3 (lw_bz v4) := by
  obtain ⟨A, F, G, U, th, ch, rp, so, my, tg, wd, c, w, t, n, rfl, rfl, hA, hc, hw, ht, hn⟩ := I
  unfold wpX_rankG wpY_rankG
  dsimp only
  rcases oo_ix v1 4 (by decide) with h1 | ⟨a, ha, rfl⟩
  · exact x_sort0 h1 (br_t rfl (y_sort0 h1 (br_t rfl ⟨rfl, i_mk hA hc hw ht hn⟩)))
  · refine x_sort ha (br_f (by decide) ?_)
    rcases oo_ix v2 4 (by decide) with h2 | ⟨b, hb, rfl⟩
    · exact x_sort0 h2 (br_t rfl (y_sort ha (br_f (by decide) (y_sort0 h2 (br_t rfl ⟨rfl, i_mk hA hc hw ht hn⟩)))))
    · refine x_sort hb (br_f (by decide) ?_)
      rcases oo_ix v3 4 (by decide) with h3 | ⟨d, hd, rfl⟩
      · exact x_sort0 h3 (br_t rfl (y_sort ha (br_f (by decide) (y_sort hb (br_f (by decide) (y_sort0 h3 (br_t rfl ⟨rfl, i_mk hA hc hw ht hn⟩)))))))
      · exact x_sort hd (br_f (by decide) (And.intro (pk_in (4 * (4 * a + b) + d) 64 (by omega) (ix_44 a b d)) (nm_r (e' := upd G (4 * (4 * a + b) + d) (vp_nar .boolean (lw_bz v4))) (by rw [ix_44, nI_clamp (by omega)]) (y_sort ha (br_f (by decide) (y_sort hb (br_f (by decide) (y_sort hd (br_f (by decide) (And.intro (pk_in (4 * (4 * a + b) + d) 64 (by omega) (ix_16 a b d)) (nm_r (e' := upd G (4 * (4 * a + b) + d) (vp_nar .boolean (lw_bz v4))) (by rw [ix_16, nI_clamp (by omega)]) ⟨rfl, i_mk hA hc hw ht hn⟩)))))))))))
theorem i_vc_variable {k : Nat} {u : SX} {v : SY} (I : i_Rel k u v) (hk : k + 5 ≤ 2560) (v1 : Int32) (v2 : Int32) : wpX_variable (fun r u' => wpY_variable (fun r' v' => r' = r ∧ i_Rel (k + 5) u' v') v v1 v2) u v1 v2 := by
  obtain ⟨A, F, G, U, th, ch, rp, so, my, tg, wd, c, w, t, n, rfl, rfl, hA, hc, hw, ht, hn⟩ := I
  unfold wpX_variable wpY_variable
  dsimp only
  rcases oo_ix v1 3 (by decide) with h1 | ⟨a, ha, rfl⟩
  · refine x_var0 h1 (br_t rfl ?_)
    rcases h1 with z | z
    · exact br_t z ⟨rfl, i_mk hA hc hw ht hn⟩
    · exact br_f (oo_nn z (by decide)) (br_t (oo_lt (a := 2) z (by decide) (by decide)) ⟨rfl, i_mk hA hc hw ht hn⟩)
  · refine x_var ha (br_f (by decide) ?_)
    rcases oo_ix v2 4 (by decide) with h2 | ⟨b, hb, rfl⟩
    · exact x_sort0 h2 (br_t rfl (br_f (nI_pos (by omega)) (br_f (nI_nlt (a := 2) (b := a) (by omega) (by decide)) (y_sort0 h2 (br_t rfl ⟨rfl, i_mk hA hc hw ht hn⟩)))))
    · exact x_sort hb (br_f (by decide) (And.intro (vp_in_nI ha (by decide)) (nm_r (e' := na_f (na_u w a b)) (by rw [nI_clamp (by omega), na_upd]) (br_f (nI_pos (by omega)) (br_f (nI_nlt (a := 2) (b := a) (by omega) (by decide)) (y_sort hb (br_f (by decide) (And.intro (vp_in_nI ha (by decide)) (nm_r (e' := na_f (na_u w a b)) (by rw [nI_clamp (by omega), na_upd]) ⟨rfl, i_mk hA hc (na_b hw hb) ht hn⟩)))))))))
