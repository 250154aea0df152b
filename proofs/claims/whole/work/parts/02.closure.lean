/-! the closure of declared pairs, sets as naturals below 16 -/
def cs_st (U : Nat → Int32) (m c : Nat) : Nat := if ¬ U c = 0 ∧ m.testBit (c / 4) = true then m ||| 2 ^ (c % 4) else m
def cs_f (U : Nat → Int32) (m : Nat) : Nat → Nat
  | 0 => m
  | c + 1 => cs_st U (cs_f U m c) c
def cs_n (U : Nat → Int32) (m : Nat) : Nat → Nat
  | 0 => m
  | k + 1 => cs_f U (cs_n U m k) 16
def cs_cl (U : Nat → Int32) (s : Nat) : Nat := cs_n U (2 ^ s) 4

theorem cs_p4 {k : Nat} (h : k < 4) : 2 ^ k < 2 ^ 4 := Nat.pow_lt_pow_right (by decide) h
theorem cs_st_lt {U : Nat → Int32} {m c : Nat} (h : m < 2 ^ 4) : cs_st U m c < 2 ^ 4 := by
  unfold cs_st
  split
  · exact Nat.or_lt_two_pow h (cs_p4 (Nat.mod_lt _ (by decide)))
  · exact h
theorem cs_f_lt {U : Nat → Int32} {m : Nat} (h : m < 2 ^ 4) : ∀ c, cs_f U m c < 2 ^ 4
  | 0 => h
  | c + 1 => cs_st_lt (cs_f_lt h c)
theorem cs_n_lt {U : Nat → Int32} {m : Nat} (h : m < 2 ^ 4) : ∀ k, cs_n U m k < 2 ^ 4
  | 0 => h
  | k + 1 => cs_f_lt (cs_n_lt h k) 16
theorem cs_cl_lt {U : Nat → Int32} {s : Nat} (h : s < 4) : cs_cl U s < 2 ^ 4 := cs_n_lt (cs_p4 h) 4
theorem cs_st_sub {U : Nat → Int32} {m c i : Nat} (h : m.testBit i = true) : (cs_st U m c).testBit i = true := by
  unfold cs_st
  split
  · rw [Nat.testBit_or, h]; rfl
  · exact h
theorem cs_f_sub {U : Nat → Int32} {m i : Nat} (h : m.testBit i = true) : ∀ c, (cs_f U m c).testBit i = true
  | 0 => h
  | c + 1 => cs_st_sub (cs_f_sub h c)
theorem cs_n_sub {U : Nat → Int32} {m i : Nat} (h : m.testBit i = true) : ∀ k, (cs_n U m k).testBit i = true
  | 0 => h
  | k + 1 => cs_f_sub (cs_n_sub h k) 16
theorem cs_edge {U : Nat → Int32} {m c : Nat} (hU : ¬ U c = 0) (h : m.testBit (c / 4) = true) : ∀ n, c < n → (cs_f U m n).testBit (c % 4) = true := by
  intro n
  induction n with
  | zero => intro z; omega
  | succ n ih =>
    intro hn
    by_cases e : c < n
    · exact cs_st_sub (ih e)
    · have e' : n = c := by omega
      subst e'
      show (cs_st U (cs_f U m n) n).testBit (n % 4) = true
      unfold cs_st
      rw [if_pos ⟨hU, cs_f_sub h n⟩, Nat.testBit_or, Nat.testBit_two_pow]
      simp
/-- T is closed under the pairs -/
def cs_C (U : Nat → Int32) (T : Nat → Prop) : Prop := ∀ c, c < 16 → ¬ U c = 0 → T (c / 4) → T (c % 4)
theorem cs_f_min {U : Nat → Int32} {T : Nat → Prop} (hT : cs_C U T) {m : Nat} (hm : ∀ i, m.testBit i = true → T i) : ∀ c, c ≤ 16 → ∀ i, (cs_f U m c).testBit i = true → T i := by
  intro c
  induction c with
  | zero => intro _; exact hm
  | succ c ih =>
    intro hc i hi
    have hi' : (cs_st U (cs_f U m c) c).testBit i = true := hi
    unfold cs_st at hi'
    split at hi'
    · next h =>
      rw [Nat.testBit_or, Nat.testBit_two_pow, Bool.or_eq_true] at hi'
      cases hi' with
      | inl h1 => exact ih (by omega) i h1
      | inr h1 =>
        have e : c % 4 = i := of_decide_eq_true h1
        rw [← e]
        exact hT c (by omega) h.1 (ih (by omega) _ h.2)
    · exact ih (by omega) i hi'
theorem cs_n_min {U : Nat → Int32} {T : Nat → Prop} (hT : cs_C U T) {m : Nat} (hm : ∀ i, m.testBit i = true → T i) : ∀ k i, (cs_n U m k).testBit i = true → T i := by
  intro k
  induction k with
  | zero => exact hm
  | succ k ih => exact cs_f_min hT ih 16 (Nat.le_refl _)
def cs_pop (m : Nat) : Nat := m % 2 + m / 2 % 2 + m / 4 % 2 + m / 8 % 2
theorem cs_grow : ∀ m : Fin 16, ∀ m' : Fin 16, (∀ i : Fin 4, m.val.testBit i.val = true → m'.val.testBit i.val = true) → m = m' ∨ cs_pop m.val < cs_pop m'.val := by decide +kernel
theorem cs_pop1 : ∀ s : Fin 4, cs_pop (2 ^ s.val) = 1 := by decide +kernel
theorem cs_pop4 : ∀ m : Fin 16, cs_pop m.val ≤ 4 := by decide +kernel
theorem cs_g {m m' : Nat} (h : m < 2 ^ 4) (h' : m' < 2 ^ 4) (hs : ∀ i, m.testBit i = true → m'.testBit i = true) : m = m' ∨ cs_pop m < cs_pop m' := by
  cases cs_grow ⟨m, h⟩ ⟨m', h'⟩ (fun i => hs i.val) with
  | inl e => exact Or.inl (congrArg Fin.val e)
  | inr l => exact Or.inr l
theorem cs_fix {U : Nat → Int32} {s : Nat} (hs : s < 4) : cs_f U (cs_cl U s) 16 = cs_cl U s := by
  have hl : ∀ k, cs_n U (2 ^ s) k < 2 ^ 4 := cs_n_lt (cs_p4 hs)
  have g : ∀ k, cs_n U (2 ^ s) k = cs_n U (2 ^ s) (k + 1) ∨ cs_pop (cs_n U (2 ^ s) k) < cs_pop (cs_n U (2 ^ s) (k + 1)) := fun k => cs_g (hl k) (hl (k + 1)) (fun i h => cs_f_sub h 16)
  have st : ∀ k, cs_n U (2 ^ s) k = cs_n U (2 ^ s) (k + 1) → cs_n U (2 ^ s) (k + 1) = cs_n U (2 ^ s) (k + 2) := by
    intro k e
    show cs_f U (cs_n U (2 ^ s) k) 16 = cs_f U (cs_n U (2 ^ s) (k + 1)) 16
    rw [← e]
  have p0 : cs_pop (cs_n U (2 ^ s) 0) = 1 := cs_pop1 ⟨s, hs⟩
  have p5 : cs_pop (cs_n U (2 ^ s) 5) ≤ 4 := cs_pop4 ⟨_, hl 5⟩
  have e4 : cs_n U (2 ^ s) 4 = cs_n U (2 ^ s) 5 := by
    cases g 0 with
    | inl e => exact st 3 (st 2 (st 1 (st 0 e)))
    | inr l0 => cases g 1 with
      | inl e => exact st 3 (st 2 (st 1 e))
      | inr l1 => cases g 2 with
        | inl e => exact st 3 (st 2 e)
        | inr l2 => cases g 3 with
          | inl e => exact st 3 e
          | inr l3 => cases g 4 with
            | inl e => exact e
            | inr l4 =>
              exfalso
              have k0 : cs_pop (cs_n U (2 ^ s) 0) < cs_pop (cs_n U (2 ^ s) 1) := l0
              have k1 : cs_pop (cs_n U (2 ^ s) 1) < cs_pop (cs_n U (2 ^ s) 2) := l1
              have k2 : cs_pop (cs_n U (2 ^ s) 2) < cs_pop (cs_n U (2 ^ s) 3) := l2
              have k3 : cs_pop (cs_n U (2 ^ s) 3) < cs_pop (cs_n U (2 ^ s) 4) := l3
              have k4 : cs_pop (cs_n U (2 ^ s) 4) < cs_pop (cs_n U (2 ^ s) 5) := l4
              omega
  exact e4.symm
theorem cs_cl_self {U : Nat → Int32} {s : Nat} : (cs_cl U s).testBit s = true := cs_n_sub (by rw [Nat.testBit_two_pow]; simp) 4
theorem cs_cl_closed {U : Nat → Int32} {s : Nat} (hs : s < 4) : cs_C U (fun i => (cs_cl U s).testBit i = true) := by
  intro c hc hU h
  have e := cs_edge (n := 16) hU h hc
  rw [cs_fix hs] at e
  exact e
theorem cs_cl_min {U : Nat → Int32} {s : Nat} {T : Nat → Prop} (hT : cs_C U T) (h : T s) : ∀ i, (cs_cl U s).testBit i = true → T i :=
  cs_n_min hT (fun i hi => by rw [Nat.testBit_two_pow] at hi; rw [← of_decide_eq_true hi]; exact h) 4
theorem cs_ext {m m' : Nat} (h : ∀ i, m.testBit i = true ↔ m'.testBit i = true) : m = m' :=
  Nat.eq_of_testBit_eq (fun i => by rw [Bool.eq_iff_iff]; exact h i)
/-- a new pair -/
theorem cs_new {U : Nat → Int32} {a b s : Nat} {x : Int32} (hx : ¬ x = 0) (ha : a < 4) (hb : b < 4) (hs : s < 4) : cs_cl (upd U (4 * a + b) x) s = if (cs_cl U s).testBit a = true then cs_cl U s ||| cs_cl U b else cs_cl U s := by
  have hm : ∀ c, ¬ U c = 0 → ¬ upd U (4 * a + b) x c = 0 := by
    intro c h
    unfold upd
    split
    · exact hx
    · exact h
  have lo : ∀ t, t < 4 → ∀ i, (cs_cl U t).testBit i = true → (cs_cl (upd U (4 * a + b) x) t).testBit i = true := fun t ht =>
    cs_cl_min (fun c hc hU h => cs_cl_closed ht c hc (hm c hU) h) cs_cl_self
  have key : ∀ i, (cs_cl (upd U (4 * a + b) x) s).testBit i = true ↔ (cs_cl U s).testBit i = true ∨ ((cs_cl U s).testBit a = true ∧ (cs_cl U b).testBit i = true) := by
    intro i
    constructor
    · refine cs_cl_min (T := fun i => (cs_cl U s).testBit i = true ∨ ((cs_cl U s).testBit a = true ∧ (cs_cl U b).testBit i = true)) ?_ (Or.inl cs_cl_self) i
      intro c hc hU h
      by_cases e : c = 4 * a + b
      · have e1 : c / 4 = a := by omega
        have e2 : c % 4 = b := by omega
        rw [e1] at h
        rw [e2]
        cases h with
        | inl h => exact Or.inr ⟨h, cs_cl_self⟩
        | inr h => exact Or.inr ⟨h.1, cs_cl_self⟩
      · have hU' : ¬ U c = 0 := by
          unfold upd at hU
          rw [if_neg e] at hU
          exact hU
        cases h with
        | inl h => exact Or.inl (cs_cl_closed hs c hc hU' h)
        | inr h => exact Or.inr ⟨h.1, cs_cl_closed hb c hc hU' h.2⟩
    · intro h
      cases h with
      | inl h => exact lo s hs i h
      | inr h =>
        have ia : (cs_cl (upd U (4 * a + b) x) s).testBit a = true := lo s hs a h.1
        have ib : (cs_cl (upd U (4 * a + b) x) s).testBit b = true := by
          have q := cs_cl_closed (U := upd U (4 * a + b) x) hs (4 * a + b) (by omega) (by unfold upd; rw [if_pos rfl]; exact hx)
          have e1 : (4 * a + b) / 4 = a := by omega
          have e2 : (4 * a + b) % 4 = b := by omega
          rw [e1, e2] at q
          exact q ia
        exact cs_cl_min (T := fun i => (cs_cl (upd U (4 * a + b) x) s).testBit i = true) (fun c hc hU h => cs_cl_closed hs c hc (hm c hU) h) ib i h.2
  split
  · next h => exact cs_ext (fun i => by rw [key i, Nat.testBit_or, Bool.or_eq_true]; exact ⟨fun q => q.elim Or.inl (fun r => Or.inr r.2), fun q => q.elim Or.inl (fun r => Or.inr ⟨h, r⟩)⟩)
  · next h => exact cs_ext (fun i => by rw [key i]; exact ⟨fun q => q.elim id (fun r => absurd r.1 h), Or.inl⟩)
theorem cs_z {U : Nat → Int32} (hU : ∀ c, U c = 0) (m : Nat) : ∀ k, cs_f U m k = m
  | 0 => rfl
  | k + 1 => by
    show cs_st U (cs_f U m k) k = m
    unfold cs_st
    rw [if_neg (fun h => h.1 (hU k)), cs_z hU m k]
theorem cs_zn {U : Nat → Int32} (hU : ∀ c, U c = 0) (m : Nat) : ∀ k, cs_n U m k = m
  | 0 => rfl
  | k + 1 => by
    show cs_f U (cs_n U m k) 16 = m
    rw [cs_z hU, cs_zn hU m k]
theorem cs_0 {U : Nat → Int32} (hU : ∀ c, U c = 0) (s : Nat) : cs_cl U s = 2 ^ s := cs_zn hU _ 4
