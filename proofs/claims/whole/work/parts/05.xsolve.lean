/-! the class: solving -/
section
variable {A F G U th ch rp so : Nat → Int32} {c w t n g : Nat → Nat}
theorem x_thing {post : Int32 → Prop} {i v : Nat} (hi : i < 3375) (hv : v < 3) (h : post (nI (dg_f i v))) : wpX_thingIn post (nI i) (nI v) := by
  unfold dg_f at h
  refine pk_eq v 0 (fun z => ?_) (fun z => pk_eq v 1 (fun z2 => ?_) (fun z2 => ?_))
  · rw [if_pos z] at h
    rw [ix_d225 (by omega)]
    exact ⟨by decide, h⟩
  · rw [if_neg z, if_pos z2] at h
    rw [ix_d15 (r := i) (by omega), ix_r15 (r := i / 15) (by omega)]
    exact ⟨by decide, by decide, h⟩
  · rw [if_neg z, if_neg z2] at h
    rw [ix_r15 (r := i) (by omega)]
    exact ⟨by decide, h⟩
theorem x_choose_l {post : SX → Prop} {i : Nat} (hi : i < 3375) (h : post (A, na_f c, na_f w, F, G, na_f t, na_f n, th, pr_f ch (na_f (dg_f i)) 3, rp, so)) : ∀ d v, v + d = 3 → wX_choose_2 post (nI i) (d + 1) (nI v) A (na_f c) (na_f w) F G (na_f t) (na_f n) th (pr_f ch (na_f (dg_f i)) v) rp so := by
  intro d
  induction d with
  | zero =>
    intro v hv
    have e : v = 3 := by omega
    subst e
    exact pk_le 3 3 (fun _ => h) (fun z => by omega)
  | succ d ih =>
    intro v hv
    have ih' := ih (v + 1) (by omega)
    exact pk_le 3 v (fun z => by omega) (fun _ => x_thing hi (by omega) (And.intro (vp_in_nI (by omega) (by decide)) (nm_r (e' := pr_f ch (na_f (dg_f i)) (v + 1)) (by rw [nI_clamp (by omega)]; exact pr_s ch (na_f (dg_f i)) v) (nm_r (nI_1 v) ih'))))
theorem x_choose {post : SX → Prop} {i : Nat} (hi : i < 3375) (h : post (A, na_f c, na_f w, F, G, na_f t, na_f n, th, pr_f ch (na_f (dg_f i)) 3, rp, so)) : wpX_choose post (A, na_f c, na_f w, F, G, na_f t, na_f n, th, ch, rp, so) (nI i) := by
  have q := x_choose_l hi h 3 0 (by omega)
  rw [pr_0] at q
  exact Exists.intro 4 q
theorem x_have_l {post : Int32 → Prop} {sx : Nat → Nat} (hch : ∀ v, v < 3 → ch v = nI (g v)) (hg : ∀ v, g v < 15) (hth : ∀ k, k < 15 → th k = nI (sx k)) (hsx : ∀ k, sx k < 2 ^ 4) (hw : ∀ i, w i < 4) (h : post (bi_b (hs_b sx g w 3))) : ∀ d v, v + d = 3 → hs_b sx g w v = true → wX_chosenHaveTheirSorts_2 post A (na_f c) (na_f w) F G (na_f t) (na_f n) th ch rp so (d + 1) (nI v) := by
  intro d
  induction d with
  | zero =>
    intro v hv hb
    have e : v = 3 := by omega
    subst e
    rw [hb] at h
    exact pk_le 3 3 (fun _ => h) (fun z => by omega)
  | succ d ih =>
    intro v hv hb
    have h1 := hg v
    have h2 := hsx (g v)
    have h3 := hw v
    refine pk_le 3 v (fun z => by omega) (fun _ => And.intro (vp_in_nI (by omega) (by decide)) ?_)
    rw [nI_clamp (n := v) (by omega), hch v (by omega), nI_clamp (n := g v) (by omega), hth _ h1]
    refine And.intro (vp_in_nI h1 (by decide)) (And.intro (vp_in_nI (by omega) (by decide)) (x_holds (s := w v) (by omega) (by omega) (br_c (fun y => ?_) (fun y => nm_r (nI_1 v) (ih (v + 1) (by omega) (hs_s hb ((bi_o _).mp y)))))))
    rw [hs_f ((bi_z _).mp y) 3 (by omega)] at h
    exact h
theorem x_have {post : Int32 → Prop} {sx : Nat → Nat} (hch : ∀ v, v < 3 → ch v = nI (g v)) (hg : ∀ v, g v < 15) (hth : ∀ k, k < 15 → th k = nI (sx k)) (hsx : ∀ k, sx k < 2 ^ 4) (hw : ∀ i, w i < 4) (h : post (bi_b (hs_b sx g w 3))) : wpX_chosenHaveTheirSorts post (A, na_f c, na_f w, F, G, na_f t, na_f n, th, ch, rp, so) :=
  Exists.intro 4 (x_have_l hch hg hth hsx hw h 3 0 (by omega) rfl)
theorem x_wth {post : Int32 → SX → Prop} {p y : Nat} (hp : p + 3 ≤ 54) (hy : y < 15) (h : post (nI (p + (wx_l y).length)) (A, na_f c, na_f w, F, G, na_f t, na_f n, th, ch, ap_f rp p (wx_l y), so)) : wpX_writeThing post (A, na_f c, na_f w, F, G, na_f t, na_f n, th, ch, rp, so) (nI p) (nI y) := by
  unfold wpX_writeThing
  dsimp only
  refine pk_le 3 y (fun z => pk_le 6 y (fun z2 => nm_r (e' := nI (y - 6)) (pk_sub (b := 6) z2) ?_) (fun z2 => ?_)) (fun z => ?_)
  · rw [wx_c z2] at h
    refine And.intro (vp_in_nI (by omega) (by decide)) (nm_r (e' := upd rp p (nI 1)) (by rw [nI_clamp (by omega)]; rfl) ?_)
    refine And.intro (by decide) (And.intro (pk_in (p + 1) 54 (by omega) (nI_1 p)) (nm_r (e' := upd (upd rp p (nI 1)) (p + 1) (nI (2 + (y - 6) / 3))) (by rw [nI_1 p, nI_clamp (by omega), ix_d3 (by omega), ← nI_add 2 ((y - 6) / 3)]; rfl) ?_))
    refine And.intro (by decide) (And.intro (pk_in (p + 2) 54 (by omega) (nI_add p 2)) (nm_r (e' := upd (upd (upd rp p (nI 1)) (p + 1) (nI (2 + (y - 6) / 3))) (p + 1 + 1) (nI (2 + (y - 6) % 3))) (by rw [show nI p + 2 = nI (p + 2) from nI_add p 2, nI_clamp (by omega), ix_r3 (by omega), ← nI_add 2 ((y - 6) % 3)]; rfl) ?_))
    rw [show nI p + 3 = nI (p + 3) from nI_add p 3]
    exact h
  · rw [wx_b z z2] at h
    refine And.intro (vp_in_nI (by omega) (by decide)) (nm_r (e' := upd rp p (nI 0)) (by rw [nI_clamp (by omega)]; rfl) ?_)
    refine And.intro (pk_in (p + 1) 54 (by omega) (nI_1 p)) (nm_r (e' := upd (upd rp p (nI 0)) (p + 1) (nI (y - 1))) (by rw [nI_1 p, nI_clamp (by omega), show (2 : Int32) + nI y = nI (2 + y) from nI_add 2 y, show nI (2 + y) - 3 = nI (2 + y - 3) from pk_sub (b := 3) (by omega), show 2 + y - 3 = y - 1 from by omega]) ?_)
    rw [show nI p + 2 = nI (p + 2) from nI_add p 2]
    exact h
  · rw [wx_a z] at h
    refine And.intro (vp_in_nI (by omega) (by decide)) (nm_r (e' := upd rp p (nI (2 + y))) (by rw [nI_clamp (by omega), show (2 : Int32) + nI y = nI (2 + y) from nI_add 2 y]) ?_)
    rw [nI_1 p]
    exact h
theorem x_rv_l {post : Int32 → SX → Prop} {s : Nat} (hs : s < 2) (hn : n s ≤ 9) (ht : ∀ i, t i < 8) (hch : ∀ v, v < 3 → ch v = nI (g v)) (hg : ∀ v, g v < 15) (h : post (nI (wl_l t g s (n s)).length) (A, na_f c, na_f w, F, G, na_f t, na_f n, th, ch, ap_f rp (27 * s) (wl_l t g s (n s)), so)) : ∀ d k, k + d = n s → wX_replaceVariables_10 post (nI s) (nI (27 * s)) (d + 1) (nI (27 * s + (wl_l t g s k).length)) (nI k) A (na_f c) (na_f w) F G (na_f t) (na_f n) th ch (ap_f rp (27 * s) (wl_l t g s k)) so := by
  intro d
  induction d with
  | zero =>
    intro k hk
    refine And.intro (vp_in_nI hs (by decide)) ?_
    rw [nI_clamp (n := s) (by omega)]
    refine pk_le (n s) k (fun _ => ?_) (fun z => by omega)
    have e : k = n s := by omega
    subst e
    rw [pk_sub (by omega), Nat.add_sub_cancel_left]
    exact h
  | succ d ih =>
    intro k hk
    have hts := ht (9 * s + k)
    have hl := wl_le t g s k
    have ih' := ih (k + 1) (by omega)
    refine And.intro (vp_in_nI hs (by decide)) ?_
    rw [nI_clamp (n := s) (by omega)]
    refine pk_le (n s) k (fun z => by omega) (fun _ => ?_)
    rw [ix_9]
    refine And.intro (vp_in_nI (by omega) (by decide)) (nm_r (e' := nI (t (9 * s + k))) (by rw [nI_clamp (by omega)]; rfl) ?_)
    refine pk_lt (t (9 * s + k)) 5 (fun z => ?_) (fun z => ?_)
    · have e : wl_l t g s (k + 1) = wl_l t g s k ++ [t (9 * s + k)] := by
        show wl_l t g s k ++ wt_l g (t (9 * s + k)) = _
        rw [wt_l, if_pos z]
      rw [e, ap_app, List.length_append, ← Nat.add_assoc] at ih'
      exact And.intro (vp_in_nI (by omega) (by decide)) (nm_r (e' := upd (ap_f rp (27 * s) (wl_l t g s k)) (27 * s + (wl_l t g s k).length) (nI (t (9 * s + k)))) (by rw [nI_clamp (by omega)]) (nm_r (nI_1 _) (nm_r (nI_1 k) ih')))
    · have e : wl_l t g s (k + 1) = wl_l t g s k ++ wx_l (g (t (9 * s + k) - 5)) := by
        show wl_l t g s k ++ wt_l g (t (9 * s + k)) = _
        rw [wt_l, if_neg (by omega)]
      rw [e, ap_app, List.length_append, ← Nat.add_assoc] at ih'
      rw [show nI (t (9 * s + k)) - 5 = nI (t (9 * s + k) - 5) from pk_sub (b := 5) z, nI_clamp (n := t (9 * s + k) - 5) (by omega), hch _ (by omega)]
      exact And.intro (vp_in_nI (by omega) (by decide)) (x_wth (by omega) (hg _) (nm_r (nI_1 k) ih'))
theorem x_rv {post : Int32 → SX → Prop} {s : Nat} (hs : s < 2) (hn : n s ≤ 9) (ht : ∀ i, t i < 8) (hch : ∀ v, v < 3 → ch v = nI (g v)) (hg : ∀ v, g v < 15) (h : post (nI (wl_l t g s (n s)).length) (A, na_f c, na_f w, F, G, na_f t, na_f n, th, ch, ap_f rp (27 * s) (wl_l t g s (n s)), so)) : wpX_replaceVariables post (A, na_f c, na_f w, F, G, na_f t, na_f n, th, ch, rp, so) (nI s) := by
  unfold wpX_replaceVariables
  dsimp only
  exact nm_r (e' := nI (27 * s)) (pk_mul 27 s) (Exists.intro (n s + 1) (x_rv_l hs hn ht hch hg h (n s) 0 (by omega)))
theorem x_same_l {post : Int32 → SX → Prop} {L M : List Nat} (hL : hd_p rp 0 L) (hM : hd_p rp 27 M) (zL : ∀ x, x ∈ L → x < 2 ^ 31) (zM : ∀ x, x ∈ M → x < 2 ^ 31) (hl : L.length ≤ 27) (e : L.length = M.length) (h : post (bi_b (decide (L = M))) (A, na_f c, na_f w, F, G, na_f t, na_f n, th, ch, rp, so)) : ∀ d k, k + d = L.length → (∀ j, j < k → rp (0 + j) = rp (27 + j)) → wX_sidesBecomeSame_21 post (nI L.length) A (na_f c) (na_f w) F G (na_f t) (na_f n) th ch rp so (d + 1) (nI k) := by
  intro d
  induction d with
  | zero =>
    intro k hk ha
    have e1 : k = L.length := by omega
    subst e1
    rw [decide_eq_true (hd_eq hL hM zL zM e ha)] at h
    exact pk_le L.length L.length (fun _ => h) (fun z => by omega)
  | succ d ih =>
    intro k hk ha
    refine pk_le L.length k (fun z => by omega) (fun _ => And.intro (vp_in_nI (by omega) (by decide)) ?_)
    rw [show (27 : Int32) + nI k = nI (27 + k) from nI_add 27 k, nI_clamp (n := k) (by omega), nI_clamp (n := 27 + k) (by omega)]
    refine And.intro (vp_in_nI (by omega) (by decide)) (br_c (fun z => nm_r (nI_1 k) (ih (k + 1) (by omega) (lt_s ha (by rw [Nat.zero_add]; exact z)))) (fun z => ?_))
    rw [decide_eq_false (hd_ne (j := k) hL hM (by omega) (by rw [Nat.zero_add]; exact z))] at h
    exact h
theorem x_same {post : Int32 → SX → Prop} (hn : ∀ s, n s ≤ 9) (ht : ∀ i, t i < 8) (hch : ∀ v, v < 3 → ch v = nI (g v)) (hg : ∀ v, g v < 15) (h : ∀ rp', post (bi_b (sm_b t n g)) (A, na_f c, na_f w, F, G, na_f t, na_f n, th, ch, rp', so)) : wpX_sidesBecomeSame post (A, na_f c, na_f w, F, G, na_f t, na_f n, th, ch, rp, so) := by
  unfold wpX_sidesBecomeSame
  dsimp only
  refine x_rv (s := 0) (by decide) (hn 0) ht hch hg (x_rv (s := 1) (by decide) (hn 1) ht hch hg ?_)
  have h0 := wl_le t g 0 (n 0)
  have h1 := wl_le t g 1 (n 1)
  have k0 := hn 0
  have k1 := hn 1
  have hh := h (ap_f (ap_f rp (27 * 0) (wl_l t g 0 (n 0))) (27 * 1) (wl_l t g 1 (n 1)))
  refine pk_eq (wl_l t g 0 (n 0)).length (wl_l t g 1 (n 1)).length (fun z => Exists.intro ((wl_l t g 0 (n 0)).length + 1) ?_) (fun z => ?_)
  · exact x_same_l (L := wl_l t g 0 (n 0)) (M := wl_l t g 1 (n 1)) (hd_lo (by omega)) hd_hi (wl_small hg ht _) (wl_small hg ht _) (by omega) z hh _ 0 (by omega) lt_0
  · unfold sm_b at hh
    rw [decide_eq_false (fun e => z (congrArg List.length e))] at hh
    exact hh
end
