/-! what is owed: terms and solutions -/
theorem n9_b {n : Nat → Nat} {s x : Nat} (hn : ∀ s, n s ≤ 9) (hx : x ≤ 9) : ∀ i, na_u n s x i ≤ 9 := fun i => Nat.le_of_lt_succ (na_b (b := 10) (fun i => Nat.lt_succ_of_le (hn i)) (Nat.lt_succ_of_le hx) i)
theorem na_s (c : Nat → Nat) (k x : Nat) : na_f (na_u c k x) k = nI x := congrArg nI (if_pos rfl)
theorem i_vc_feed {k : Nat} {u : SX} {v : SY} (I : i_Rel k u v) (hk : k + 5 ≤ 2560) (v1 : Int32) (v2 : Int32) : wpX_feed (fun r u' => wpY_feed (fun r' v' => r' = r ∧ i_Rel (k + 5) u' v') v v1 v2) u v1 v2 := by
  obtain ⟨A, F, G, U, th, ch, rp, so, my, tg, wd, c, w, t, n, rfl, rfl, hA, hc, hw, ht, hn⟩ := I
  unfold wpX_feed wpY_feed
  dsimp only
  rcases oo_ix v1 2 (by decide) with h1 | ⟨s, hs, rfl⟩
  · refine x_side0 h1 (br_t rfl ?_)
    rcases h1 with z | z
    · exact br_f (oo_neg (a := 0) z (by decide)) (br_f (oo_neg (a := 1) z (by decide)) ⟨rfl, i_mk hA hc hw ht hn⟩)
    · exact br_f (oo_ne (a := 0) z (by decide) (by decide)) (br_f (oo_ne (a := 1) z (by decide) (by decide)) ⟨rfl, i_mk hA hc hw ht hn⟩)
  · have hY : ∀ r u', wY_feed_9 (fun r' v' => r' = r ∧ i_Rel (k + 5) u' v') (nI s) v2 U (na_f c) F G (na_f w) (na_f n) (na_f t) my tg wd → ((nI s = 0 → wY_feed_9 (fun r' v' => r' = r ∧ i_Rel (k + 5) u' v') (nI s) v2 U (na_f c) F G (na_f w) (na_f n) (na_f t) my tg wd) ∧ (¬ nI s = 0 → ((nI s = 1 → wY_feed_9 (fun r' v' => r' = r ∧ i_Rel (k + 5) u' v') (nI s) v2 U (na_f c) F G (na_f w) (na_f n) (na_f t) my tg wd) ∧ (¬ nI s = 1 → (-1 = r ∧ i_Rel (k + 5) u' (U, na_f c, F, G, na_f w, na_f n, na_f t, my, tg, wd)))))) := fun r u' q => pk_eq s 0 (fun _ => q) (fun z => pk_eq s 1 (fun _ => q) (fun z2 => by omega))
    have hns := hn s
    refine x_side hs (br_f (by decide) ?_)
    rcases oo_ix v2 8 (by decide) with h2 | ⟨x, hx, rfl⟩
    · rcases h2 with z | z
      · exact br_t z (hY _ _ (br_t z ⟨rfl, i_mk hA hc hw ht hn⟩))
      · exact br_f (oo_nn z (by decide)) (br_f (Int32.not_lt.mpr z) (hY _ _ (br_f (oo_nn z (by decide)) (br_t (oo_lt (a := 7) z (by decide) (by decide)) ⟨rfl, i_mk hA hc hw ht hn⟩))))
    · have hy : ∀ {r : Int32} {u' : SX}, (∀ q : Int32 → Prop, q (bi_b (wh_b t n s)) → wpY_complete q (U, na_f c, F, G, na_f w, na_f n, na_f t, my, tg, wd) (nI s)) := fun {_ _} q h => y_whole hs hns ht h
      refine br_f (nI_pos (by omega)) (br_t (nI_lt (b := 8) hx (by decide)) (x_whole hs hns ht (br_c (fun y => And.intro (vp_in_nI hs (by decide)) ?_) (fun y => hY _ _ (br_f (nI_pos (by omega)) (br_f (nI_nlt (a := 7) (b := x) (by omega) (by decide)) (y_whole hs hns ht (br_f y ⟨rfl, i_mk hA hc hw ht hn⟩))))))))
      rw [nI_clamp (n := s) (by omega)]
      have e : na_f n s = nI (n s) := rfl
      refine pk_lt (n s) 9 (fun z => ?_) (fun z => hY _ _ (br_f (nI_pos (by omega)) (br_f (nI_nlt (a := 7) (b := x) (by omega) (by decide)) (y_whole hs hns ht (br_t y (And.intro (vp_in_nI hs (by decide)) (br_f (by rw [nI_clamp (by omega)]; exact nI_nlt (b := 9) z (by omega)) ⟨rfl, i_mk hA hc hw ht hn⟩)))))))
      have h' : ∀ (u' : SX), i_Rel (k + 5) u' (U, na_f c, F, G, na_f w, na_f (na_u n s (n s + 1)), na_f (na_u t (9 * s + n s) x), my, tg, wd) → wY_feed_9 (fun r' v' => r' = na_f (na_u n s (n s + 1)) s ∧ i_Rel (k + 5) u' v') (nI s) (nI x) U (na_f c) F G (na_f w) (na_f n) (na_f t) my tg wd := by
        intro u' hR
        refine br_f (nI_pos (by omega)) (br_f (nI_nlt (a := 7) (b := x) (by omega) (by decide)) (y_whole hs hns ht (br_t y (And.intro (vp_in_nI hs (by decide)) ?_))))
        rw [nI_clamp (n := s) (by omega)]
        refine br_t (nI_lt (b := 9) z (by decide)) (And.intro (vp_in_nI hs (by decide)) ?_)
        rw [e, ix_9, nI_1]
        exact And.intro (vp_in_nI (by omega) (by decide)) (nm_r (e' := na_f (na_u t (9 * s + n s) x)) (by rw [nI_clamp (by omega), na_upd]) (And.intro (vp_in_nI hs (by decide)) (And.intro (vp_in_nI hs (by decide)) (nm_r (e' := na_f (na_u n s (n s + 1))) (na_upd n s (n s + 1)) (And.intro (vp_in_nI hs (by decide)) ⟨rfl, hR⟩)))))
      rw [e, ix_9, nI_1]
      exact And.intro (vp_in_nI hs (by decide)) (And.intro (vp_in_nI (by omega) (by decide)) (nm_r (e' := na_f (na_u t (9 * s + n s) x)) (by rw [nI_clamp (by omega), na_upd]) (And.intro (vp_in_nI hs (by decide)) (And.intro (vp_in_nI hs (by decide)) (nm_r (e' := na_f (na_u n s (n s + 1))) (na_upd n s (n s + 1)) (And.intro (vp_in_nI hs (by decide)) (hY _ _ (h' _ (i_mk hA hc hw (na_b ht hx) (n9_b hn (by omega)))))))))))
theorem i_vc_back {k : Nat} {u : SX} {v : SY} (I : i_Rel k u v) (hk : k + 5 ≤ 2560) (v1 : Int32) : wpX_back (fun r u' => wpY_back (fun r' v' => r' = r ∧ i_Rel (k + 5) u' v') v v1) u v1 := by
  obtain ⟨A, F, G, U, th, ch, rp, so, my, tg, wd, c, w, t, n, rfl, rfl, hA, hc, hw, ht, hn⟩ := I
  unfold wpX_back wpY_back
  dsimp only
  rcases oo_ix v1 2 (by decide) with h1 | ⟨s, hs, rfl⟩
  · refine x_side0 h1 (br_t rfl ?_)
    rcases h1 with z | z
    · exact br_f (oo_neg (a := 0) z (by decide)) (br_f (oo_neg (a := 1) z (by decide)) ⟨rfl, i_mk hA hc hw ht hn⟩)
    · exact br_f (oo_ne (a := 0) z (by decide) (by decide)) (br_f (oo_ne (a := 1) z (by decide) (by decide)) ⟨rfl, i_mk hA hc hw ht hn⟩)
  · have hY : ∀ r u', wY_back_9 (fun r' v' => r' = r ∧ i_Rel (k + 5) u' v') (nI s) U (na_f c) F G (na_f w) (na_f n) (na_f t) my tg wd → ((nI s = 0 → wY_back_9 (fun r' v' => r' = r ∧ i_Rel (k + 5) u' v') (nI s) U (na_f c) F G (na_f w) (na_f n) (na_f t) my tg wd) ∧ (¬ nI s = 0 → ((nI s = 1 → wY_back_9 (fun r' v' => r' = r ∧ i_Rel (k + 5) u' v') (nI s) U (na_f c) F G (na_f w) (na_f n) (na_f t) my tg wd) ∧ (¬ nI s = 1 → (-1 = r ∧ i_Rel (k + 5) u' (U, na_f c, F, G, na_f w, na_f n, na_f t, my, tg, wd)))))) := fun r u' q => pk_eq s 0 (fun _ => q) (fun z => pk_eq s 1 (fun _ => q) (fun z2 => by omega))
    have hns := hn s
    have e : na_f n s = nI (n s) := rfl
    refine x_side hs (br_f (by decide) (And.intro (vp_in_nI hs (by decide)) ?_))
    rw [nI_clamp (n := s) (by omega), e]
    refine pk_eq (n s) 0 (fun z => hY _ _ (And.intro (vp_in_nI hs (by decide)) (br_t (by rw [nI_clamp (by omega), e, z]; rfl) ⟨rfl, i_mk hA hc hw ht hn⟩))) (fun z => ?_)
    have e1 : nI (n s) - 1 = nI (n s - 1) := pk_sub (b := 1) (by omega)
    have e2 : upd (na_f n) s (nI (n s - 1)) = na_f (na_u n s (n s - 1)) := na_upd n s (n s - 1)
    have e3 : na_f (na_u n s (n s - 1)) s = nI (n s - 1) := na_s n s (n s - 1)
    rw [e1]
    have h' : ∀ (u' : SX), i_Rel (k + 5) u' (U, na_f c, F, G, na_f w, na_f (na_u n s (n s - 1)), na_f t, my, tg, wd) → wY_back_9 (fun r' v' => r' = na_f t (9 * s + (n s - 1)) ∧ i_Rel (k + 5) u' v') (nI s) U (na_f c) F G (na_f w) (na_f n) (na_f t) my tg wd := by
      intro u' hR
      refine And.intro (vp_in_nI hs (by decide)) ?_
      rw [nI_clamp (n := s) (by omega), e, e1]
      refine br_f (nI_ne0 (by omega) (by omega)) (And.intro (vp_in_nI hs (by decide)) (And.intro (vp_in_nI hs (by decide)) (nm_r e2 (And.intro (vp_in_nI hs (by decide)) ?_))))
      rw [e3, ix_9, nI_clamp (n := 9 * s + (n s - 1)) (by omega)]
      exact And.intro (vp_in_nI (by omega) (by decide)) ⟨rfl, hR⟩
    refine And.intro (vp_in_nI hs (by decide)) (And.intro (vp_in_nI hs (by decide)) (nm_r e2 (And.intro (vp_in_nI hs (by decide)) ?_)))
    rw [e3, ix_9, nI_clamp (n := 9 * s + (n s - 1)) (by omega)]
    exact And.intro (vp_in_nI (by omega) (by decide)) (hY _ _ (h' _ (i_mk hA hc hw ht (n9_b hn (by omega)))))
theorem i_vc_complete {k : Nat} {u : SX} {v : SY} (I : i_Rel k u v) (hk : k + 5 ≤ 2560) (v1 : Int32) : wpX_complete (fun r => wpY_complete (fun r' => r' = r ∧ i_Rel (k + 5) u v) v v1) u v1 := by
  have J : i_Rel (k + 5) u v := I
  obtain ⟨A, F, G, U, th, ch, rp, so, my, tg, wd, c, w, t, n, rfl, rfl, hA, hc, hw, ht, hn⟩ := I
  unfold wpX_complete
  dsimp only
  rcases oo_ix v1 2 (by decide) with h1 | ⟨s, hs, rfl⟩
  · refine x_side0 h1 (br_t rfl ?_)
    unfold wpY_complete
    dsimp only
    rcases h1 with z | z
    · exact br_f (oo_neg (a := 0) z (by decide)) (br_f (oo_neg (a := 1) z (by decide)) ⟨rfl, J⟩)
    · exact br_f (oo_ne (a := 0) z (by decide) (by decide)) (br_f (oo_ne (a := 1) z (by decide) (by decide)) ⟨rfl, J⟩)
  · refine x_side hs (br_f (by decide) (x_whole hs (hn s) ht (br_c (fun y => y_whole hs (hn s) ht ⟨y, J⟩) (fun y => y_whole hs (hn s) ht ⟨?_, J⟩))))
    rw [(bi_o _).mp y]
    rfl
theorem i_vc_sorts {k : Nat} {u : SX} {v : SY} (I : i_Rel k u v) (hk : k + 5 ≤ 2560) (v1 : Int32) : wpX_sorts (fun r => wpY_sorts (fun r' => r' = r ∧ i_Rel (k + 5) u v) v v1) u v1 := by
  have J : i_Rel (k + 5) u v := I
  obtain ⟨A, F, G, U, th, ch, rp, so, my, tg, wd, c, w, t, n, rfl, rfl, hA, hc, hw, ht, hn⟩ := I
  unfold wpX_sorts
  dsimp only
  rcases oo_ix v1 15 (by decide) with h1 | ⟨s, hs, rfl⟩
  · refine x_isth0 h1 (br_t rfl ?_)
    unfold wpY_sorts
    dsimp only
    rcases h1 with z | z
    · exact br_t z ⟨rfl, J⟩
    · exact br_f (oo_nn z (by decide)) (br_f (oo_nle (a := 14) z (by decide) (by decide)) ⟨rfl, J⟩)
  · exact x_isth hs (br_f (by decide) (x_st hA hc hs (y_st hc hs ⟨rfl, J⟩)))
theorem i_vc_solutions {k : Nat} {u : SX} {v : SY} (I : i_Rel k u v) (hk : k + 5 ≤ 2560) : wpX_solutions (fun r u' => wpY_solutions (fun r' v' => r' = r ∧ i_Rel (k + 5) u' v') v) u := by
  obtain ⟨A, F, G, U, th, ch, rp, so, my, tg, wd, c, w, t, n, rfl, rfl, hA, hc, hw, ht, hn⟩ := I
  unfold wpX_solutions wpY_solutions
  dsimp only
  refine x_solve hA hc hw ht hn (fun th ch rp so hso => Exists.intro 3376 (x_cnt hso (y_count_a (v := 0) (k := 0) (by decide) (by decide) hc hw hn ht (fun j => ?_) (fun my tg wd => ⟨rfl, i_mk hA hc hw ht hn⟩)) 3375 0 (by omega)))
  rw [decide_eq_true rfl, Bool.and_true]
theorem i_vc_first {k : Nat} {u : SX} {v : SY} (I : i_Rel k u v) (hk : k + 5 ≤ 2560) (v1 : Int32) : wpX_first (fun r u' => wpY_first (fun r' v' => r' = r ∧ i_Rel (k + 5) u' v') v v1) u v1 := by
  obtain ⟨A, F, G, U, th, ch, rp, so, my, tg, wd, c, w, t, n, rfl, rfl, hA, hc, hw, ht, hn⟩ := I
  unfold wpX_first
  dsimp only
  rcases oo_ix v1 3 (by decide) with h1 | ⟨a, ha, rfl⟩
  · exact x_var0 h1 (br_t rfl (y_first0 h1 hn ht ⟨rfl, i_mk hA hc hw ht hn⟩))
  · exact x_var ha (br_f (by decide) (x_solve hA hc hw ht hn (fun th ch rp so hso => Exists.intro 3376 (x_fst ha hso 3375 0 (by omega) (y_fst ha hc hw hn ht (fun my tg wd => ⟨rfl, i_mk hA hc hw ht hn⟩))))))
theorem i_vc_values {k : Nat} {u : SX} {v : SY} (I : i_Rel k u v) (hk : k + 5 ≤ 2560) (v1 : Int32) : wpX_values (fun r u' => wpY_values (fun r' v' => r' = r ∧ i_Rel (k + 5) u' v') v v1) u v1 := by
  obtain ⟨A, F, G, U, th, ch, rp, so, my, tg, wd, c, w, t, n, rfl, rfl, hA, hc, hw, ht, hn⟩ := I
  unfold wpX_values
  dsimp only
  rcases oo_ix v1 3 (by decide) with h1 | ⟨a, ha, rfl⟩
  · exact x_var0 h1 (br_t rfl (y_values0 h1 hn ht ⟨rfl, i_mk hA hc hw ht hn⟩))
  · exact x_var ha (br_f (by decide) (x_solve hA hc hw ht hn (fun th ch rp so hso => Exists.intro 3376 (x_val ha hso (y_val ha hc hw hn ht (fun my tg wd => ⟨rfl, i_mk hA hc hw ht hn⟩)) 3375 0 (by omega)))))
theorem i_vc_solutionsWith {k : Nat} {u : SX} {v : SY} (I : i_Rel k u v) (hk : k + 5 ≤ 2560) (v1 : Int32) (v2 : Int32) : wpX_solutionsWith (fun r u' => wpY_solutionsWith (fun r' v' => r' = r ∧ i_Rel (k + 5) u' v') v v1 v2) u v1 v2 := by
  obtain ⟨A, F, G, U, th, ch, rp, so, my, tg, wd, c, w, t, n, rfl, rfl, hA, hc, hw, ht, hn⟩ := I
  unfold wpX_solutionsWith wpY_solutionsWith
  dsimp only
  rcases oo_ix v1 3 (by decide) with h1 | ⟨a, ha, rfl⟩
  · refine x_var0 h1 (br_t rfl ?_)
    rcases h1 with z | z
    · exact br_t z ⟨rfl, i_mk hA hc hw ht hn⟩
    · exact br_f (oo_nn z (by decide)) (br_t (oo_lt (a := 2) z (by decide) (by decide)) ⟨rfl, i_mk hA hc hw ht hn⟩)
  · refine x_var ha (br_f (by decide) ?_)
    have p1 : ¬ nI a < 0 := nI_pos (by omega)
    have p2 : ¬ (2 : Int32) < nI a := nI_nlt (a := 2) (b := a) (by omega) (by decide)
    rcases oo_ix v2 15 (by decide) with h2 | ⟨b, hb, rfl⟩
    · refine x_isth0 h2 (br_t rfl (br_f p1 (br_f p2 ?_)))
      rcases h2 with z | z
      · exact br_t z ⟨rfl, i_mk hA hc hw ht hn⟩
      · exact br_f (oo_nn z (by decide)) (br_f (oo_nle (a := 14) z (by decide) (by decide)) ⟨rfl, i_mk hA hc hw ht hn⟩)
    · exact x_isth hb (br_f (by decide) (x_solve hA hc hw ht hn (fun th ch rp so hso => Exists.intro 3376 (x_with ha hb hso (fun j => rfl) (br_f p1 (br_f p2 (br_f (nI_pos (by omega)) (br_t (nI_le (b := 14) (by omega) (by decide)) (y_count_w ha hb hc hw hn ht (fun j => rfl) (fun my tg wd => ⟨rfl, i_mk hA hc hw ht hn⟩)))))) 3375 0 (by omega)))))
theorem i_vc_solutionsAlike {k : Nat} {u : SX} {v : SY} (I : i_Rel k u v) (hk : k + 5 ≤ 2560) (v1 : Int32) (v2 : Int32) : wpX_solutionsAlike (fun r u' => wpY_solutionsAlike (fun r' v' => r' = r ∧ i_Rel (k + 5) u' v') v v1 v2) u v1 v2 := by
  obtain ⟨A, F, G, U, th, ch, rp, so, my, tg, wd, c, w, t, n, rfl, rfl, hA, hc, hw, ht, hn⟩ := I
  unfold wpX_solutionsAlike wpY_solutionsAlike
  dsimp only
  rcases oo_ix v1 3 (by decide) with h1 | ⟨a, ha, rfl⟩
  · refine x_var0 h1 (br_t rfl ?_)
    rcases h1 with z | z
    · exact br_t z ⟨rfl, i_mk hA hc hw ht hn⟩
    · exact br_f (oo_nn z (by decide)) (br_t (oo_lt (a := 2) z (by decide) (by decide)) ⟨rfl, i_mk hA hc hw ht hn⟩)
  · refine x_var ha (br_f (by decide) ?_)
    have p1 : ¬ nI a < 0 := nI_pos (by omega)
    have p2 : ¬ (2 : Int32) < nI a := nI_nlt (a := 2) (b := a) (by omega) (by decide)
    rcases oo_ix v2 3 (by decide) with h2 | ⟨b, hb, rfl⟩
    · refine x_var0 h2 (br_t rfl (br_f p1 (br_f p2 ?_)))
      rcases h2 with z | z
      · exact br_t z ⟨rfl, i_mk hA hc hw ht hn⟩
      · exact br_f (oo_nn z (by decide)) (br_f (oo_nle (a := 2) z (by decide) (by decide)) ⟨rfl, i_mk hA hc hw ht hn⟩)
    · exact x_var hb (br_f (by decide) (x_solve hA hc hw ht hn (fun th ch rp so hso => Exists.intro 3376 (x_alike ha hb hso (fun j => rfl) (br_f p1 (br_f p2 (br_f (nI_pos (by omega)) (br_t (nI_le (b := 2) (by omega) (by decide)) (y_count_a ha hb hc hw hn ht (fun j => rfl) (fun my tg wd => ⟨rfl, i_mk hA hc hw ht hn⟩)))))) 3375 0 (by omega)))))
