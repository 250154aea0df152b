/-! pure pictures: sorts of things, missing counts, words, digits, solving, counting -/
/-- or of sets below 16 -/
theorem so_or {a b k : Nat} (ha : a < 2 ^ k) (hb : b < 2 ^ k) : a ||| b < 2 ^ k := Nat.or_lt_two_pow ha hb
/-- the bits of a set, one after the other -/
def up_f (m : Nat) : Nat → Nat
  | 0 => 0
  | b + 1 => up_f m b ||| (if m.testBit b = true then 2 ^ b else 0)
theorem up_all : ∀ m : Fin 16, up_f m.val 4 = m.val := by decide +kernel
theorem up_4 {m : Nat} (h : m < 2 ^ 4) : up_f m 4 = m := up_all ⟨m, h⟩
theorem up_lt {m : Nat} : ∀ b, b ≤ 4 → up_f m b < 2 ^ 4
  | 0, _ => (by decide : 0 < 2 ^ 4)
  | b + 1, h => by
    refine so_or (up_lt b (by omega)) ?_
    split
    · exact Nat.pow_lt_pow_right (by decide) (by omega)
    · decide
def so_f (F : Nat → Int32) (U : Nat → Int32) (m : Nat) : Nat → Nat
  | 0 => 0
  | r + 1 => if ¬ F r = 0 ∧ m.testBit (r / 4) = true then so_f F U m r ||| cs_cl U (r % 4) else so_f F U m r
def so_g (G : Nat → Int32) (U : Nat → Int32) (m1 m2 : Nat) : Nat → Nat
  | 0 => 0
  | r + 1 => if ¬ G r = 0 ∧ m1.testBit (r / 16) = true ∧ m2.testBit (r / 4 % 4) = true then so_g G U m1 m2 r ||| cs_cl U (r % 4) else so_g G U m1 m2 r
def so_q (G : Nat → Int32) (U : Nat → Int32) (q : Nat) : Nat → Nat
  | 0 => 0
  | u + 1 => if ¬ G (4 * q + u) = 0 then so_q G U q u ||| cs_cl U u else so_q G U q u
theorem so_m4 (U : Nat → Int32) (r : Nat) : cs_cl U (r % 4) < 2 ^ 4 := cs_cl_lt (Nat.mod_lt _ (by decide))
theorem so_f_lt {F U : Nat → Int32} {m : Nat} : ∀ r, so_f F U m r < 2 ^ 4
  | 0 => (by decide : 0 < 2 ^ 4)
  | r + 1 => by
    unfold so_f
    split
    · exact so_or (so_f_lt r) (so_m4 U r)
    · exact so_f_lt r
theorem so_g_lt {G U : Nat → Int32} {m1 m2 : Nat} : ∀ r, so_g G U m1 m2 r < 2 ^ 4
  | 0 => (by decide : 0 < 2 ^ 4)
  | r + 1 => by
    unfold so_g
    split
    · exact so_or (so_g_lt r) (so_m4 U r)
    · exact so_g_lt r
theorem so_q_lt {G U : Nat → Int32} {q : Nat} : ∀ u, u ≤ 4 → so_q G U q u < 2 ^ 4
  | 0, _ => (by decide : 0 < 2 ^ 4)
  | u + 1, h => by
    unfold so_q
    split
    · exact so_or (so_q_lt u (by omega)) (cs_cl_lt (by omega))
    · exact so_q_lt u (by omega)
theorem so_f_t {F U : Nat → Int32} {m r : Nat} (h : ¬ F r = 0) (h2 : m.testBit (r / 4) = true) : so_f F U m (r + 1) = so_f F U m r ||| cs_cl U (r % 4) := by rw [so_f, if_pos ⟨h, h2⟩]
theorem so_f_0 {F U : Nat → Int32} {m r : Nat} (h : F r = 0) : so_f F U m (r + 1) = so_f F U m r := by rw [so_f, if_neg (fun y => y.1 h)]
theorem so_f_b {F U : Nat → Int32} {m r : Nat} (h : m.testBit (r / 4) = false) : so_f F U m (r + 1) = so_f F U m r := by rw [so_f, if_neg (fun y => by rw [h] at y; exact absurd y.2 (by decide))]
theorem so_g_t {G U : Nat → Int32} {m1 m2 r : Nat} (h : ¬ G r = 0) (h1 : m1.testBit (r / 16) = true) (h2 : m2.testBit (r / 4 % 4) = true) : so_g G U m1 m2 (r + 1) = so_g G U m1 m2 r ||| cs_cl U (r % 4) := by rw [so_g, if_pos ⟨h, h1, h2⟩]
theorem so_g_0 {G U : Nat → Int32} {m1 m2 r : Nat} (h : G r = 0) : so_g G U m1 m2 (r + 1) = so_g G U m1 m2 r := by rw [so_g, if_neg (fun y => y.1 h)]
theorem so_g_b {G U : Nat → Int32} {m1 m2 r : Nat} (h : m1.testBit (r / 16) = false) : so_g G U m1 m2 (r + 1) = so_g G U m1 m2 r := by rw [so_g, if_neg (fun y => by rw [h] at y; exact absurd y.2.1 (by decide))]
theorem so_g_d {G U : Nat → Int32} {m1 m2 r : Nat} (h : m2.testBit (r / 4 % 4) = false) : so_g G U m1 m2 (r + 1) = so_g G U m1 m2 r := by rw [so_g, if_neg (fun y => by rw [h] at y; exact absurd y.2.2 (by decide))]
theorem so_q_t {G U : Nat → Int32} {q u : Nat} (h : ¬ G (4 * q + u) = 0) : so_q G U q (u + 1) = so_q G U q u ||| cs_cl U u := by rw [so_q, if_pos h]
theorem so_q_0 {G U : Nat → Int32} {q u : Nat} (h : G (4 * q + u) = 0) : so_q G U q (u + 1) = so_q G U q u := by rw [so_q, if_neg (fun y => y h)]
theorem so_gq {G U : Nat → Int32} {m1 m2 q : Nat} (h1 : m1.testBit (q / 4) = true) (h2 : m2.testBit (q % 4) = true) : ∀ u, u ≤ 4 → so_g G U m1 m2 (4 * q + u) = so_g G U m1 m2 (4 * q) ||| so_q G U q u
  | 0, _ => (Nat.or_zero _).symm
  | u + 1, h => by
    have ih := so_gq (G := G) (U := U) h1 h2 u (by omega)
    have e1 : (4 * q + u) / 16 = q / 4 := by omega
    have e2 : (4 * q + u) / 4 % 4 = q % 4 := by omega
    have e3 : (4 * q + u) % 4 = u := by omega
    show so_g G U m1 m2 ((4 * q + u) + 1) = _ ||| so_q G U q (u + 1)
    by_cases z : G (4 * q + u) = 0
    · rw [so_g_0 z, so_q_0 z, ih]
    · rw [so_g_t z (by rw [e1]; exact h1) (by rw [e2]; exact h2), so_q_t z, ih, e3, Nat.or_assoc]
theorem so_gn {G U : Nat → Int32} {m1 m2 q : Nat} (hn : ¬ (m1.testBit (q / 4) = true ∧ m2.testBit (q % 4) = true)) : ∀ u, u ≤ 4 → so_g G U m1 m2 (4 * q + u) = so_g G U m1 m2 (4 * q)
  | 0, _ => rfl
  | u + 1, h => by
    have ih := so_gn (G := G) (U := U) hn u (by omega)
    have e1 : (4 * q + u) / 16 = q / 4 := by omega
    have e2 : (4 * q + u) / 4 % 4 = q % 4 := by omega
    show so_g G U m1 m2 ((4 * q + u) + 1) = _
    rw [so_g, e1, e2, if_neg (fun y => hn y.2), ih]
/-- the sorts of a thing -/
def so_t (F G U : Nat → Int32) (c : Nat → Nat) (t : Nat) : Nat := if t < 3 then cs_cl U (c t) else if t < 6 then so_f F U (cs_cl U (c (t - 3))) 16 else so_g G U (cs_cl U (c ((t - 6) / 3))) (cs_cl U (c ((t - 6) % 3))) 64
theorem so_t_lt {F G U : Nat → Int32} {c : Nat → Nat} (hc : ∀ i, c i < 4) (t : Nat) : so_t F G U c t < 2 ^ 4 := by
  unfold so_t
  split
  · exact cs_cl_lt (hc _)
  · split
    · exact so_f_lt 16
    · exact so_g_lt 64
/-- what a side lacks -/
def mi_f (t : Nat → Nat) (s : Nat) : Nat → Int32
  | 0 => 1
  | k + 1 => if t (9 * s + k) = 1 then mi_f t s k + 1 else if t (9 * s + k) = 0 then mi_f t s k else mi_f t s k - 1
theorem mi_1 {t : Nat → Nat} {s k : Nat} (h : t (9 * s + k) = 1) : mi_f t s (k + 1) = mi_f t s k + 1 := by rw [mi_f, if_pos h]
theorem mi_0 {t : Nat → Nat} {s k : Nat} (h : t (9 * s + k) = 0) : mi_f t s (k + 1) = mi_f t s k := by rw [mi_f, if_neg (by omega), if_pos h]
theorem mi_2 {t : Nat → Nat} {s k : Nat} (h : t (9 * s + k) ≠ 0) (h1 : t (9 * s + k) ≠ 1) : mi_f t s (k + 1) = mi_f t s k - 1 := by rw [mi_f, if_neg h1, if_neg h]
theorem mi_2' {t : Nat → Nat} {s k : Nat} (h : t (9 * s + k) ≠ 0) (h1 : t (9 * s + k) ≠ 1) : mi_f t s (k + 1) = mi_f t s k + (-1) := by rw [mi_2 h h1, Int32.sub_eq_add_neg]
def wh_b (t n : Nat → Nat) (s : Nat) : Bool := decide (mi_f t s (n s) = 0)
/-- the tokens of a thing, the tokens that a token becomes -/
def wx_l (y : Nat) : List Nat := if y < 3 then [2 + y] else if y < 6 then [0, y - 1] else [1, 2 + (y - 6) / 3, 2 + (y - 6) % 3]
def wt_l (g : Nat → Nat) (x : Nat) : List Nat := if x < 5 then [x] else wx_l (g (x - 5))
def wl_l (t g : Nat → Nat) (s : Nat) : Nat → List Nat
  | 0 => []
  | k + 1 => wl_l t g s k ++ wt_l g (t (9 * s + k))
theorem wx_a {y : Nat} (h : y < 3) : wx_l y = [2 + y] := if_pos h
theorem wx_b {y : Nat} (h : 3 ≤ y) (h2 : y < 6) : wx_l y = [0, y - 1] := by
  unfold wx_l
  rw [if_neg (by omega), if_pos h2]
theorem wx_c {y : Nat} (h : 6 ≤ y) : wx_l y = [1, 2 + (y - 6) / 3, 2 + (y - 6) % 3] := by
  unfold wx_l
  rw [if_neg (by omega), if_neg (by omega)]
theorem wx_le (y : Nat) : (wx_l y).length ≤ 3 := by
  unfold wx_l
  split
  · exact (by decide : 1 ≤ 3)
  · split
    · exact (by decide : 2 ≤ 3)
    · exact (by decide : 3 ≤ 3)
theorem wt_le (g : Nat → Nat) (x : Nat) : (wt_l g x).length ≤ 3 := by
  unfold wt_l
  split
  · exact (by decide : 1 ≤ 3)
  · exact wx_le _
theorem wl_le (t g : Nat → Nat) (s : Nat) : ∀ k, (wl_l t g s k).length ≤ 3 * k
  | 0 => Nat.le_refl _
  | k + 1 => by
    have h1 := wl_le t g s k
    have h2 := wt_le g (t (9 * s + k))
    show (wl_l t g s k ++ wt_l g (t (9 * s + k))).length ≤ _
    rw [List.length_append]
    omega
/-- the array with a list written from p on -/
def ap_f (a : Nat → Int32) (p : Nat) : List Nat → Nat → Int32
  | [] => a
  | x :: L => ap_f (upd a p (nI x)) (p + 1) L
theorem ap_app (L M : List Nat) : ∀ (a : Nat → Int32) (p : Nat), ap_f a p (L ++ M) = ap_f (ap_f a p L) (p + L.length) M := by
  induction L with
  | nil =>
    intro a p
    rfl
  | cons x L ih =>
    intro a p
    show ap_f (upd a p (nI x)) (p + 1) (L ++ M) = ap_f (ap_f (upd a p (nI x)) (p + 1) L) (p + (L.length + 1)) M
    rw [ih, show p + 1 + L.length = p + (L.length + 1) from by omega]
theorem ap_lo (L : List Nat) : ∀ (a : Nat → Int32) (p j : Nat), j < p → ap_f a p L j = a j := by
  induction L with
  | nil =>
    intro a p j _
    rfl
  | cons x L ih =>
    intro a p j h
    show ap_f (upd a p (nI x)) (p + 1) L j = a j
    rw [ih _ _ _ (by omega), pk_un (by omega)]
theorem ap_at (L : List Nat) : ∀ (a : Nat → Int32) (p j x : Nat), L[j]? = some x → ap_f a p L (p + j) = nI x := by
  induction L with
  | nil =>
    intro a p j x h
    simp at h
  | cons y L ih =>
    intro a p j x h
    show ap_f (upd a p (nI y)) (p + 1) L (p + j) = nI x
    cases j with
    | zero =>
      have e : y = x := by
        simp at h
        exact h
      subst e
      rw [ap_lo _ _ _ _ (by omega)]
      exact pk_us
    | succ j =>
      have h' : L[j]? = some x := by
        simp at h
        exact h
      rw [show p + (j + 1) = p + 1 + j from by omega]
      exact ih _ _ _ _ h'
/-- the array holds the list from s on -/
def hd_p (a : Nat → Int32) (s : Nat) (L : List Nat) : Prop := ∀ j x, L[j]? = some x → a (s + j) = nI x
theorem hd_hi {a : Nat → Int32} {s : Nat} {L : List Nat} : hd_p (ap_f a s L) s L := fun j x h => ap_at L a s j x h
theorem hd_lo {a : Nat → Int32} {s : Nat} {L M : List Nat} (hs : L.length ≤ s) : hd_p (ap_f (ap_f a 0 L) s M) 0 L := by
  intro j x hj
  have hl : j < L.length := by
    rcases Nat.lt_or_ge j L.length with z | z
    · exact z
    · rw [List.getElem?_eq_none z] at hj
      cases hj
  rw [ap_lo _ _ _ _ (by omega)]
  exact ap_at L a 0 j x hj
/-- an array whose first k places are written -/
def pr_f (a v : Nat → Int32) (k : Nat) : Nat → Int32 := fun j => if j < k then v j else a j
theorem pr_0 (a v : Nat → Int32) : pr_f a v 0 = a := by
  funext j
  exact if_neg (by omega)
theorem pr_s (a v : Nat → Int32) (k : Nat) : upd (pr_f a v k) k (v k) = pr_f a v (k + 1) := by
  funext j
  unfold upd pr_f
  by_cases e : j = k
  · subst e
    rw [if_pos rfl, if_pos (by omega)]
  · rw [if_neg e]
    by_cases z : j < k
    · rw [if_pos z, if_pos (by omega)]
    · rw [if_neg z, if_neg (by omega)]
theorem pr_i {a v : Nat → Int32} {k j : Nat} (h : j < k) : pr_f a v k j = v j := if_pos h
theorem pr_o {a v : Nat → Int32} {k j : Nat} (h : k ≤ j) : pr_f a v k j = a j := if_neg (by omega)
theorem hd_eq {a : Nat → Int32} {s s' : Nat} {L L' : List Nat} (h : hd_p a s L) (h' : hd_p a s' L') (hL : ∀ x, x ∈ L → x < 2 ^ 31) (hL' : ∀ x, x ∈ L' → x < 2 ^ 31) (e : L.length = L'.length) (ha : ∀ j, j < L.length → a (s + j) = a (s' + j)) : L = L' := by
  apply List.ext_getElem? 
  intro j
  rcases Nat.lt_or_ge j L.length with z | z
  · have z' : j < L'.length := by omega
    have h1 := h j _ (List.getElem?_eq_getElem z)
    have h2 := h' j _ (List.getElem?_eq_getElem z')
    rw [ha j z, h2, nI_eq (hL' _ (List.getElem_mem z')) (hL _ (List.getElem_mem z))] at h1
    rw [List.getElem?_eq_getElem z, List.getElem?_eq_getElem z', h1]
  · rw [List.getElem?_eq_none z, List.getElem?_eq_none (by omega)]
theorem hd_ne {a : Nat → Int32} {s s' j : Nat} {L L' : List Nat} (h : hd_p a s L) (h' : hd_p a s' L') (hj : j < L.length) (ha : ¬ a (s + j) = a (s' + j)) : ¬ L = L' := by
  intro e
  subst e
  exact ha ((h j _ (List.getElem?_eq_getElem hj)).trans (h' j _ (List.getElem?_eq_getElem hj)).symm)
theorem wt_small {g : Nat → Nat} (hg : ∀ v, g v < 15) {x y : Nat} (hx : x < 8) (h : y ∈ wt_l g x) : y < 2 ^ 31 := by
  have hg' := hg (x - 5)
  unfold wt_l wx_l at h
  split at h
  · simp at h
    omega
  · split at h
    · simp at h
      omega
    · split at h
      · simp at h
        omega
      · simp at h
        omega
theorem wl_small {t g : Nat → Nat} {s : Nat} (hg : ∀ v, g v < 15) (ht : ∀ i, t i < 8) : ∀ k x, x ∈ wl_l t g s k → x < 2 ^ 31
  | 0, x, h => by
    cases h
  | k + 1, x, h => by
    rcases List.mem_append.mp h with z | z
    · exact wl_small hg ht k x z
    · exact wt_small hg (ht _) z
/-- the digits of an assignment -/
def dg_f (i v : Nat) : Nat := if v = 0 then i / 225 else if v = 1 then i / 15 % 15 else i % 15
theorem dg_lt {i : Nat} (h : i < 3375) (v : Nat) : dg_f i v < 15 := by
  unfold dg_f
  split
  · omega
  · split <;> omega
/-- the first k variables have their sorts -/
def hs_b (so g w : Nat → Nat) : Nat → Bool
  | 0 => true
  | v + 1 => hs_b so g w v && (so (g v)).testBit (w v)
def sm_b (t n g : Nat → Nat) : Bool := decide (wl_l t g 0 (n 0) = wl_l t g 1 (n 1))
def sv_b (so w t n : Nat → Nat) (i : Nat) : Bool := hs_b so (dg_f i) w 3 && sm_b t n (dg_f i)
theorem hs_f {so g w : Nat → Nat} {v : Nat} (h : (so (g v)).testBit (w v) = false) : ∀ k, v < k → hs_b so g w k = false
  | 0, z => by omega
  | k + 1, z => by
    show (hs_b so g w k && _) = false
    by_cases e : v = k
    · subst e
      rw [h, Bool.and_false]
    · rw [hs_f h k (by omega), Bool.false_and]
theorem hs_s {so g w : Nat → Nat} {v : Nat} (h : hs_b so g w v = true) (h2 : (so (g v)).testBit (w v) = true) : hs_b so g w (v + 1) = true := by
  show (hs_b so g w v && _) = true
  rw [h, h2]
  rfl
/-- the things that a variable of sort w may be, as the reference keeps them -/
def mf_f (so : Nat → Nat) (w : Nat) : Nat → Nat
  | 0 => 0
  | t + 1 => mf_f so w t ||| (so t / 2 ^ w % 2) * 2 ^ t
theorem mf_b01 (x w : Nat) : x / 2 ^ w % 2 = (if x.testBit w = true then 1 else 0) := by
  rw [Nat.testBit_eq_decide_div_mod_eq]
  generalize x / 2 ^ w = z
  by_cases h : z % 2 = 1
  · rw [h]
    rfl
  · have h0 : z % 2 = 0 := by omega
    rw [h0]
    rfl
theorem mf_one (x w t : Nat) : (x / 2 ^ w % 2) * 2 ^ t < 2 ^ (t + 1) := by
  rw [mf_b01]
  split
  · rw [Nat.one_mul]
    exact Nat.pow_lt_pow_right (by decide) (by omega)
  · rw [Nat.zero_mul]
    exact Nat.two_pow_pos _
theorem mf_lt (so : Nat → Nat) (w : Nat) : ∀ t, mf_f so w t < 2 ^ t
  | 0 => (by decide : 0 < 2 ^ 0)
  | t + 1 => so_or (Nat.lt_trans (mf_lt so w t) (Nat.pow_lt_pow_right (by decide) (by omega))) (mf_one _ _ _)
theorem mf_tb (x w t j : Nat) : ((x / 2 ^ w % 2) * 2 ^ t).testBit j = (decide (j = t) && x.testBit w) := by
  rw [mf_b01]
  split
  · next h =>
    rw [Nat.one_mul, Nat.testBit_two_pow, h, Bool.and_true]
    by_cases e : j = t
    · rw [decide_eq_true e, decide_eq_true e.symm]
    · rw [decide_eq_false e, decide_eq_false (fun z => e z.symm)]
  · next h =>
    have h0 : x.testBit w = false := by
      cases e : x.testBit w with
      | true => exact absurd e h
      | false => rfl
    rw [Nat.zero_mul, Nat.zero_testBit, h0, Bool.and_false]
theorem mf_bit (so : Nat → Nat) (w : Nat) : ∀ k t, t < k → (mf_f so w k).testBit t = (so t).testBit w
  | 0, t, h => by omega
  | k + 1, t, h => by
    show (mf_f so w k ||| (so k / 2 ^ w % 2) * 2 ^ k).testBit t = _
    rw [Nat.testBit_or, mf_tb]
    by_cases e : t = k
    · subst e
      rw [Nat.testBit_lt_two_pow (mf_lt so w t), decide_eq_true rfl, Bool.true_and, Bool.false_or]
    · rw [mf_bit so w k t (by omega), decide_eq_false e, Bool.false_and, Bool.or_false]
/-- counting, gathering, the first -/
def cn_f (P : Nat → Bool) : Nat → Int32
  | 0 => 0
  | i + 1 => if P i = true then cn_f P i + 1 else cn_f P i
def vs_f (P : Nat → Bool) (d : Nat → Nat) : Nat → Int32
  | 0 => 0
  | i + 1 => if P i = true then vs_f P d i ||| ((1 : Int32) <<< (nI (d i) &&& 31)) else vs_f P d i
def fd_f (P : Nat → Bool) (d : Nat → Nat) : Nat → Nat → Int32
  | 0, _ => -1
  | n + 1, i => if P i = true then nI (d i) else fd_f P d n (i + 1)
theorem cn_c {P Q : Nat → Bool} : ∀ k, (∀ i, i < k → P i = Q i) → cn_f P k = cn_f Q k
  | 0, _ => rfl
  | k + 1, h => by
    unfold cn_f
    rw [h k (by omega), cn_c k (fun i hi => h i (by omega))]
theorem vs_c {P Q : Nat → Bool} {d : Nat → Nat} : ∀ k, (∀ i, i < k → P i = Q i) → vs_f P d k = vs_f Q d k
  | 0, _ => rfl
  | k + 1, h => by
    unfold vs_f
    rw [h k (by omega), vs_c k (fun i hi => h i (by omega))]
theorem cn_0 {P : Nat → Bool} : ∀ k, (∀ i, i < k → P i = false) → cn_f P k = 0
  | 0, _ => rfl
  | k + 1, h => by
    rw [cn_f, h k (by omega), if_neg (by decide)]
    exact cn_0 k (fun i hi => h i (by omega))
theorem vs_0 {P : Nat → Bool} {d : Nat → Nat} : ∀ k, (∀ i, i < k → P i = false) → vs_f P d k = 0
  | 0, _ => rfl
  | k + 1, h => by
    rw [vs_f, h k (by omega), if_neg (by decide)]
    exact vs_0 k (fun i hi => h i (by omega))
theorem fd_0 {P : Nat → Bool} {d : Nat → Nat} {e : Nat} (h : ∀ i, i < e → P i = false) : ∀ k i, i + k = e → fd_f P d k i = -1
  | 0, _, _ => rfl
  | k + 1, i, hk => by
    rw [fd_f, h i (by omega), if_neg (by decide)]
    exact fd_0 h k (i + 1) (by omega)
theorem pr_e {a v : Nat → Int32} {k : Nat} (h : a k = v k) : pr_f a v (k + 1) = pr_f a v k := by
  rw [← pr_s]
  funext j
  unfold upd
  by_cases e : j = k
  · subst e
    rw [if_pos rfl, pr_o (Nat.le_refl _), h]
  · rw [if_neg e]
theorem cn_t {P : Nat → Bool} {i : Nat} (h : P i = true) : cn_f P (i + 1) = cn_f P i + 1 := by rw [cn_f, if_pos h]
theorem cn_n {P : Nat → Bool} {i : Nat} (h : P i = false) : cn_f P (i + 1) = cn_f P i := by rw [cn_f, h, if_neg (by decide)]
theorem vs_t {P : Nat → Bool} {d : Nat → Nat} {i : Nat} (h : P i = true) : vs_f P d (i + 1) = vs_f P d i ||| ((1 : Int32) <<< (nI (d i) &&& 31)) := by rw [vs_f, if_pos h]
theorem vs_n {P : Nat → Bool} {d : Nat → Nat} {i : Nat} (h : P i = false) : vs_f P d (i + 1) = vs_f P d i := by rw [vs_f, h, if_neg (by decide)]
theorem fd_t {P : Nat → Bool} {d : Nat → Nat} {k i : Nat} (h : P i = true) : fd_f P d (k + 1) i = nI (d i) := by rw [fd_f, if_pos h]
theorem fd_n {P : Nat → Bool} {d : Nat → Nat} {k i : Nat} (h : P i = false) : fd_f P d (k + 1) i = fd_f P d k (i + 1) := by rw [fd_f, h, if_neg (by decide)]
theorem fd_c {P Q : Nat → Bool} {d : Nat → Nat} {e : Nat} (h : ∀ i, i < e → P i = Q i) : ∀ k i, i + k = e → fd_f P d k i = fd_f Q d k i
  | 0, _, _ => rfl
  | k + 1, i, hk => by
    unfold fd_f
    rw [h i (by omega), fd_c h k (i + 1) (by omega)]
