section
/-! rows of kit/rows (pasted) and the small arithmetic of this claim -/
theorem pk_us {f : Nat → Int32} {k : Nat} {x : Int32} : upd f k x k = x := if_pos rfl
theorem pk_un {f : Nat → Int32} {k j : Nat} {x : Int32} (h : j ≠ k) : upd f k x j = f j := if_neg h
theorem pk_sub {a b : Nat} (h : b ≤ a) : nI a - nI b = nI (a - b) := by
  obtain ⟨c, rfl⟩ : ∃ c, a = c + b := ⟨a - b, by omega⟩
  rw [← nI_add, Int32.add_sub_cancel, Nat.add_sub_cancel]
theorem pk_m1 (n : Nat) : nI (n + 1) + (-1) = nI n := by
  rw [← nI_1, Int32.add_assoc, show (1 : Int32) + (-1) = 0 from rfl, Int32.add_zero]
theorem pk_mul (a b : Nat) : nI a * nI b = nI (a * b) := (Int32.ofNat_mul a b).symm
theorem pk_div {a d : Nat} (ha : a < 2 ^ 31) (h0 : 0 < d) (hd : d < 2 ^ 31) : nI a / nI d = nI (a / d) := by
  apply Int32.toInt_inj.mp
  rw [lg_idiv_nonneg (by rw [nI_toInt ha]; omega) (by rw [nI_toInt hd]; omega), nI_toInt ha, nI_toInt hd, nI_toInt (Nat.lt_of_le_of_lt (Nat.div_le_self a d) ha)]
  first | rfl | exact (Int.natCast_ediv _ _).symm
theorem pk_rem {a d : Nat} (ha : a < 2 ^ 31) (h0 : 0 < d) (hd : d < 2 ^ 31) : nI a - nI a / nI d * nI d = nI (a % d) := by
  rw [pk_div ha h0 hd, pk_mul, pk_sub (Nat.div_mul_le_self a d)]
  exact congrArg nI (by have := Nat.div_add_mod' a d; omega)
theorem pk_ix (x : Int32) {n : Nat} (hn : n < 2 ^ 31) : x < 0 ∨ nI n ≤ x ∨ ∃ j : Nat, j < n ∧ x = nI j := by
  by_cases h : x < 0
  · exact Or.inl h
  · obtain ⟨j, hj, rfl⟩ := nI_of h
    by_cases h2 : j < n
    · exact Or.inr (Or.inr ⟨j, h2, rfl⟩)
    · exact Or.inr (Or.inl (nI_le (by omega) hj))
theorem pk_le {x y : Int32} {A B : Prop} (a b : Nat) (f : a ≤ b → A) (g : b < a → B) (hx : x = nI a := by rfl) (hy : y = nI b := by rfl) (ha : a < 2 ^ 31 := by omega) (hb : b < 2 ^ 31 := by omega) : (x ≤ y → A) ∧ (¬ x ≤ y → B) := by
  subst hx hy
  rw [nI_leI ha hb]
  exact ⟨f, fun z => g (by omega)⟩
theorem pk_lt {x y : Int32} {A B : Prop} (a b : Nat) (f : a < b → A) (g : b ≤ a → B) (hx : x = nI a := by rfl) (hy : y = nI b := by rfl) (ha : a < 2 ^ 31 := by omega) (hb : b < 2 ^ 31 := by omega) : (x < y → A) ∧ (¬ x < y → B) := by
  subst hx hy
  rw [nI_ltI ha hb]
  exact ⟨f, fun z => g (by omega)⟩
theorem pk_eq {x y : Int32} {A B : Prop} (a b : Nat) (f : a = b → A) (g : a ≠ b → B) (hx : x = nI a := by rfl) (hy : y = nI b := by rfl) (ha : a < 2 ^ 31 := by omega) (hb : b < 2 ^ 31 := by omega) : (x = y → A) ∧ (¬ x = y → B) := by
  subst hx hy
  rw [nI_eq ha hb]
  exact ⟨f, g⟩
theorem pk_in {x : Int32} (n N : Nat) (h : n < N) (hx : x = nI n := by rfl) (hN : N < 2 ^ 31 := by omega) : vp_in x N := by
  subst hx
  exact vp_in_nI h hN
theorem pk_cl {x : Int32} (n : Nat) (hx : x = nI n := by rfl) (h : n < 2 ^ 31 := by omega) : x.toNatClampNeg = n := by
  subst hx
  exact nI_clamp h
theorem pk_tn {n : Nat} (h : n < 2 ^ 32) : (nI n).toBitVec.toNat = n := Nat.mod_eq_of_lt h
theorem pk_and (x : Int32) {m : Int32} (k : Nat) (hm : m.toBitVec.toNat = 2 ^ k - 1) : x &&& m = nI (x.toBitVec.toNat % 2 ^ k) := by
  apply Int32.toBitVec_inj.mp
  apply BitVec.eq_of_toNat_eq
  rw [Int32.toBitVec_and, BitVec.toNat_and, hm, Nat.and_two_pow_sub_one_eq_mod]
  show _ = (BitVec.ofNat 32 _).toNat
  rw [BitVec.toNat_ofNat]
  exact (Nat.mod_eq_of_lt (Nat.lt_of_le_of_lt (Nat.mod_le _ _) x.toBitVec.isLt)).symm
theorem pk_andN {n : Nat} (h : n < 2 ^ 32) {m : Int32} (k : Nat) (hm : m.toBitVec.toNat = 2 ^ k - 1) : nI n &&& m = nI (n % 2 ^ k) := by
  rw [pk_and _ k hm, pk_tn h]
theorem pk_shl (a s : Int32) (k : Nat) (hs : (s.toBitVec.smod 32).toNat = k) : (a <<< s).toBitVec.toNat = a.toBitVec.toNat * 2 ^ k % 2 ^ 32 := by
  show (a.toBitVec <<< (s.toBitVec.smod 32).toNat).toNat = _
  rw [hs, BitVec.toNat_shiftLeft, Nat.shiftLeft_eq]
theorem pk_shlN {n : Nat} (s : Int32) (k : Nat) (hs : (s.toBitVec.smod 32).toNat = k) (h : n * 2 ^ k < 2 ^ 32) : nI n <<< s = nI (n * 2 ^ k) := by
  apply Int32.toBitVec_inj.mp
  apply BitVec.eq_of_toNat_eq
  have hn : n < 2 ^ 32 := Nat.lt_of_le_of_lt (Nat.le_mul_of_pos_right n (Nat.two_pow_pos k)) h
  rw [pk_shl _ _ k hs, pk_tn hn, pk_tn h, Nat.mod_eq_of_lt h]
theorem pk_shr (a s : Int32) (k : Nat) (hs : (s.toBitVec.smod 32).toNat = k) : (a >>> s).toInt = a.toInt >>> k := by
  show (a.toBitVec.sshiftRight (s.toBitVec.smod 32).toNat).toInt = _
  rw [hs, BitVec.toInt_sshiftRight]
  rfl
theorem pk_shrN {n : Nat} (h : n < 2 ^ 31) (s : Int32) (k : Nat) (hs : (s.toBitVec.smod 32).toNat = k) : nI n >>> s = nI (n / 2 ^ k) := by
  apply Int32.toInt_inj.mp
  have h2 : n / 2 ^ k ≤ n := Nat.div_le_self _ _
  rw [pk_shr _ _ k hs, nI_toInt h, nI_toInt (by omega), Int.shiftRight_eq_div_pow]
  rfl
theorem s_l : ∀ n, n < 32 → ((nI n &&& 31).toBitVec.smod 32).toNat = n := by decide +kernel
theorem nx_and (a b : Nat) : nI a &&& nI b = nI (a &&& b) := by
  apply Int32.toBitVec_inj.1
  show BitVec.ofNat 32 a &&& BitVec.ofNat 32 b = BitVec.ofNat 32 (a &&& b)
  apply BitVec.eq_of_getLsbD_eq
  intro i hi
  simp [hi]
theorem ss_or (a b : Nat) : nI a ||| nI b = nI (a ||| b) := by
  apply Int32.toBitVec_inj.1
  show BitVec.ofNat 32 a ||| BitVec.ofNat 32 b = BitVec.ofNat 32 (a ||| b)
  apply BitVec.eq_of_getLsbD_eq
  intro i hi
  simp [hi]
theorem ss_m2 (x : Nat) : x % 2 < 2 ^ 31 := Nat.lt_of_lt_of_le (Nat.mod_lt _ (by decide)) (by decide)
theorem ss_bit {m s : Nat} (hm : m < 2 ^ 31) (hs : s < 32) : (nI m >>> (nI s &&& 31)) &&& 1 = nI (m / 2 ^ s % 2) := by
  rw [pk_shrN hm _ s (s_l s hs)]
  exact pk_andN (Nat.lt_of_le_of_lt (Nat.div_le_self _ _) (Nat.lt_trans hm (by decide))) 1 (by decide)
theorem ss_h1 {m s : Nat} (hm : m < 2 ^ 31) (hs : s < 32) : (nI m >>> (nI s &&& 31)) &&& 1 = 1 ↔ m.testBit s = true := by
  rw [ss_bit hm hs]
  show nI (m / 2 ^ s % 2) = nI 1 ↔ _
  rw [nI_eq (ss_m2 _) (by decide), Nat.testBit_eq_decide_div_mod_eq, decide_eq_true_iff]
theorem ss_h0 {m s : Nat} (hm : m < 2 ^ 31) (hs : s < 32) : (nI m >>> (nI s &&& 31)) &&& 1 = 0 ↔ m.testBit s = false := by
  rw [ss_bit hm hs, ← nI_0, nI_eq (ss_m2 _) (by decide), Nat.testBit_eq_decide_div_mod_eq, decide_eq_false_iff_not]
  generalize m / 2 ^ s = z
  omega
theorem ss_shl {n s : Nat} (hs : s < 32) (h : n * 2 ^ s < 2 ^ 32) : nI n <<< (nI s &&& 31) = nI (n * 2 ^ s) := pk_shlN _ s (s_l s hs) h
theorem ss_sh1 {s : Nat} (hs : s < 31) : (1 : Int32) <<< (nI s &&& 31) = nI (2 ^ s) := by
  have h : 1 * 2 ^ s < 2 ^ 32 := by
    rw [Nat.one_mul]
    exact Nat.pow_lt_pow_right (by decide) (by omega)
  have e := ss_shl (n := 1) (s := s) (by omega) h
  rw [Nat.one_mul] at e
  exact e
/-- a condition of a branch, told otherwise -/
theorem ss_if {c d A B : Prop} (e : c ↔ d) (f : d → A) (g : ¬ d → B) : (c → A) ∧ (¬ c → B) := ⟨fun h => f (e.mp h), fun h => g (fun z => h (e.mpr z))⟩
theorem ss_b1 {A B : Prop} (m s : Nat) (f : m.testBit s = true → A) (g : m.testBit s = false → B) (hm : m < 2 ^ 31 := by omega) (hs : s < 32 := by omega) : ((nI m >>> (nI s &&& 31)) &&& 1 = 1 → A) ∧ (¬ (nI m >>> (nI s &&& 31)) &&& 1 = 1 → B) := ss_if (ss_h1 hm hs) f (fun h => g (by cases e : m.testBit s with | true => exact absurd e h | false => rfl))
theorem ss_b0 {A B : Prop} (m s : Nat) (f : m.testBit s = false → A) (g : m.testBit s = true → B) (hm : m < 2 ^ 31 := by omega) (hs : s < 32 := by omega) : ((nI m >>> (nI s &&& 31)) &&& 1 = 0 → A) ∧ (¬ (nI m >>> (nI s &&& 31)) &&& 1 = 0 → B) := ss_if (ss_h0 hm hs) f (fun h => g (by cases e : m.testBit s with | true => rfl | false => exact absurd e h))
theorem ss_at {P : Int32 → Prop} {x y : Int32} (e : x = y) (h : P y) : P x := by
  rw [e]
  exact h
/-- an array of naturals -/
def na_f (c : Nat → Nat) : Nat → Int32 := fun i => nI (c i)
def na_u (c : Nat → Nat) (k x : Nat) : Nat → Nat := fun i => if i = k then x else c i
theorem na_upd (c : Nat → Nat) (k x : Nat) : upd (na_f c) k (nI x) = na_f (na_u c k x) := by
  funext i
  unfold upd na_f na_u
  split <;> rfl
theorem na_0 : (fun _ => 0 : Nat → Int32) = na_f (fun _ => 0) := by
  funext i
  exact nI_0.symm
theorem na_b {c : Nat → Nat} {k x b : Nat} (h : ∀ i, c i < b) (hx : x < b) : ∀ i, na_u c k x i < b := by
  intro i
  unfold na_u
  split
  · exact hx
  · exact h i
/-- an int that stands for a boolean -/
def bi_b (b : Bool) : Int32 := if b = true then 1 else 0
theorem bi_n (b : Bool) : narrow .boolean (.int (bi_b b)) = .int (bi_b b) := by cases b <;> rfl
theorem bi_z (b : Bool) : bi_b b = 0 ↔ b = false := by cases b <;> decide
theorem bi_o (b : Bool) : ¬ bi_b b = 0 ↔ b = true := by cases b <;> decide
theorem bi_v (b : Bool) : vp_nar .boolean (bi_b b) = bi_b b := by cases b <;> rfl
/-- indices -/
theorem ix_4 (s t : Nat) : (4 : Int32) * nI s + nI t = nI (4 * s + t) := by
  show nI 4 * nI s + nI t = _
  rw [pk_mul, nI_add]
theorem ix_9 (s t : Nat) : (9 : Int32) * nI s + nI t = nI (9 * s + t) := by
  show nI 9 * nI s + nI t = _
  rw [pk_mul, nI_add]
theorem ix_16 (s t u : Nat) : (16 : Int32) * nI s + 4 * nI t + nI u = nI (4 * (4 * s + t) + u) := by
  show nI 16 * nI s + nI 4 * nI t + nI u = _
  rw [pk_mul, pk_mul, nI_add, nI_add]
  exact congrArg nI (by omega)
theorem ix_44 (s t u : Nat) : (4 : Int32) * ((4 : Int32) * nI s + nI t) + nI u = nI (4 * (4 * s + t) + u) := by rw [ix_4, ix_4]
theorem ix_m (d : Nat) (s : Nat) : nI d * nI s = nI (d * s) := pk_mul d s
theorem ix_d4 {r : Nat} (h : r < 2 ^ 31) : nI r / 4 = nI (r / 4) := pk_div (d := 4) h (by decide) (by decide)
theorem ix_d16 {r : Nat} (h : r < 2 ^ 31) : nI r / 16 = nI (r / 16) := pk_div (d := 16) h (by decide) (by decide)
theorem ix_d3 {r : Nat} (h : r < 2 ^ 31) : nI r / 3 = nI (r / 3) := pk_div (d := 3) h (by decide) (by decide)
theorem ix_d15 {r : Nat} (h : r < 2 ^ 31) : nI r / 15 = nI (r / 15) := pk_div (d := 15) h (by decide) (by decide)
theorem ix_d225 {r : Nat} (h : r < 2 ^ 31) : nI r / 225 = nI (r / 225) := pk_div (d := 225) h (by decide) (by decide)
theorem ix_r4 {r : Nat} (h : r < 2 ^ 31) : nI r - nI r / 4 * 4 = nI (r % 4) := pk_rem (d := 4) h (by decide) (by decide)
theorem ix_r3 {r : Nat} (h : r < 2 ^ 31) : nI r - nI r / 3 * 3 = nI (r % 3) := pk_rem (d := 3) h (by decide) (by decide)
theorem ix_r15 {r : Nat} (h : r < 2 ^ 31) : nI r - nI r / 15 * 15 = nI (r % 15) := pk_rem (d := 15) h (by decide) (by decide)
theorem ix_ne {a b : Nat} (h : a ≠ b) (ha : a < 2 ^ 31) (hb : b < 2 ^ 31) : ¬ nI a = nI b := fun z => h ((nI_eq ha hb).mp z)
/-- out of range -/
theorem oo_ix (x : Int32) (n : Nat) (hn : n < 2 ^ 31) : (x < 0 ∨ nI n ≤ x) ∨ ∃ j : Nat, j < n ∧ x = nI j := by
  rcases pk_ix x hn with h | h | h
  · exact Or.inl (Or.inl h)
  · exact Or.inl (Or.inr h)
  · exact Or.inr h
theorem oo_nle {x : Int32} {a b : Nat} (h : nI b ≤ x) (hab : a < b) (hb : b < 2 ^ 31) : ¬ x ≤ nI a := by
  intro z
  rw [Int32.le_iff_toInt_le, nI_toInt hb] at h
  rw [Int32.le_iff_toInt_le, nI_toInt (by omega)] at z
  omega
theorem oo_ne {x : Int32} {a b : Nat} (h : nI b ≤ x) (hab : a < b) (hb : b < 2 ^ 31) : ¬ x = nI a := by
  intro z
  subst z
  rw [nI_leI hb (by omega)] at h
  omega
theorem oo_nn {x : Int32} {b : Nat} (h : nI b ≤ x) (hb : b < 2 ^ 31) : ¬ x < 0 := by
  intro z
  rw [Int32.le_iff_toInt_le, nI_toInt hb] at h
  rw [Int32.lt_iff_toInt_lt, show (0 : Int32).toInt = 0 from by decide] at z
  omega
theorem oo_neg {x : Int32} {a : Nat} (h : x < 0) (ha : a < 2 ^ 31) : ¬ x = nI a := by
  intro z
  subst z
  exact nI_pos ha h
end
section
/-! the closure of declared pairs, sets as naturals below 16 -/
def cs_st (U : Nat → Int32) (m c : Nat) : Nat := if ¬ U c = 0 ∧ m.testBit (c / 4) = true then m ||| 2 ^ (c % 4) else m
def cs_f (U : Nat → Int32) (m : Nat) : Nat → Nat
  | 0 => m
  | c + 1 => cs_st U (cs_f U m c) c
def cs_n (U : Nat → Int32) (m : Nat) : Nat → Nat
  | 0 => m
  | k + 1 => cs_f U (cs_n U m k) 16
def cs_cl (U : Nat → Int32) (s : Nat) : Nat := cs_n U (2 ^ s) 4

theorem cs_p4 {k : Nat} (h : k < 4) : 2 ^ k < 2 ^ 4 := Nat.pow_lt_pow_right (by decide) h
theorem cs_st_lt {U : Nat → Int32} {m c : Nat} (h : m < 2 ^ 4) : cs_st U m c < 2 ^ 4 := by
  unfold cs_st
  split
  · exact Nat.or_lt_two_pow h (cs_p4 (Nat.mod_lt _ (by decide)))
  · exact h
theorem cs_f_lt {U : Nat → Int32} {m : Nat} (h : m < 2 ^ 4) : ∀ c, cs_f U m c < 2 ^ 4
  | 0 => h
  | c + 1 => cs_st_lt (cs_f_lt h c)
theorem cs_n_lt {U : Nat → Int32} {m : Nat} (h : m < 2 ^ 4) : ∀ k, cs_n U m k < 2 ^ 4
  | 0 => h
  | k + 1 => cs_f_lt (cs_n_lt h k) 16
theorem cs_cl_lt {U : Nat → Int32} {s : Nat} (h : s < 4) : cs_cl U s < 2 ^ 4 := cs_n_lt (cs_p4 h) 4
theorem cs_st_sub {U : Nat → Int32} {m c i : Nat} (h : m.testBit i = true) : (cs_st U m c).testBit i = true := by
  unfold cs_st
  split
  · rw [Nat.testBit_or, h]; rfl
  · exact h
theorem cs_f_sub {U : Nat → Int32} {m i : Nat} (h : m.testBit i = true) : ∀ c, (cs_f U m c).testBit i = true
  | 0 => h
  | c + 1 => cs_st_sub (cs_f_sub h c)
theorem cs_n_sub {U : Nat → Int32} {m i : Nat} (h : m.testBit i = true) : ∀ k, (cs_n U m k).testBit i = true
  | 0 => h
  | k + 1 => cs_f_sub (cs_n_sub h k) 16
theorem cs_edge {U : Nat → Int32} {m c : Nat} (hU : ¬ U c = 0) (h : m.testBit (c / 4) = true) : ∀ n, c < n → (cs_f U m n).testBit (c % 4) = true := by
  intro n
  induction n with
  | zero => intro z; omega
  | succ n ih =>
    intro hn
    by_cases e : c < n
    · exact cs_st_sub (ih e)
    · have e' : n = c := by omega
      subst e'
      show (cs_st U (cs_f U m n) n).testBit (n % 4) = true
      unfold cs_st
      rw [if_pos ⟨hU, cs_f_sub h n⟩, Nat.testBit_or, Nat.testBit_two_pow]
      simp
/-- T is closed under the pairs -/
def cs_C (U : Nat → Int32) (T : Nat → Prop) : Prop := ∀ c, c < 16 → ¬ U c = 0 → T (c / 4) → T (c % 4)
theorem cs_f_min {U : Nat → Int32} {T : Nat → Prop} (hT : cs_C U T) {m : Nat} (hm : ∀ i, m.testBit i = true → T i) : ∀ c, c ≤ 16 → ∀ i, (cs_f U m c).testBit i = true → T i := by
  intro c
  induction c with
  | zero => intro _; exact hm
  | succ c ih =>
    intro hc i hi
    have hi' : (cs_st U (cs_f U m c) c).testBit i = true := hi
    unfold cs_st at hi'
    split at hi'
    · next h =>
      rw [Nat.testBit_or, Nat.testBit_two_pow, Bool.or_eq_true] at hi'
      cases hi' with
      | inl h1 => exact ih (by omega) i h1
      | inr h1 =>
        have e : c % 4 = i := of_decide_eq_true h1
        rw [← e]
        exact hT c (by omega) h.1 (ih (by omega) _ h.2)
    · exact ih (by omega) i hi'
theorem cs_n_min {U : Nat → Int32} {T : Nat → Prop} (hT : cs_C U T) {m : Nat} (hm : ∀ i, m.testBit i = true → T i) : ∀ k i, (cs_n U m k).testBit i = true → T i := by
  intro k
  induction k with
  | zero => exact hm
  | succ k ih => exact cs_f_min hT ih 16 (Nat.le_refl _)
def cs_pop (m : Nat) : Nat := m % 2 + m / 2 % 2 + m / 4 % 2 + m / 8 % 2
theorem cs_grow : ∀ m : Fin 16, ∀ m' : Fin 16, (∀ i : Fin 4, m.val.testBit i.val = true → m'.val.testBit i.val = true) → m = m' ∨ cs_pop m.val < cs_pop m'.val := by decide +kernel
theorem cs_pop1 : ∀ s : Fin 4, cs_pop (2 ^ s.val) = 1 := by decide +kernel
theorem cs_pop4 : ∀ m : Fin 16, cs_pop m.val ≤ 4 := by decide +kernel
theorem cs_g {m m' : Nat} (h : m < 2 ^ 4) (h' : m' < 2 ^ 4) (hs : ∀ i, m.testBit i = true → m'.testBit i = true) : m = m' ∨ cs_pop m < cs_pop m' := by
  cases cs_grow ⟨m, h⟩ ⟨m', h'⟩ (fun i => hs i.val) with
  | inl e => exact Or.inl (congrArg Fin.val e)
  | inr l => exact Or.inr l
theorem cs_fix {U : Nat → Int32} {s : Nat} (hs : s < 4) : cs_f U (cs_cl U s) 16 = cs_cl U s := by
  have hl : ∀ k, cs_n U (2 ^ s) k < 2 ^ 4 := cs_n_lt (cs_p4 hs)
  have g : ∀ k, cs_n U (2 ^ s) k = cs_n U (2 ^ s) (k + 1) ∨ cs_pop (cs_n U (2 ^ s) k) < cs_pop (cs_n U (2 ^ s) (k + 1)) := fun k => cs_g (hl k) (hl (k + 1)) (fun i h => cs_f_sub h 16)
  have st : ∀ k, cs_n U (2 ^ s) k = cs_n U (2 ^ s) (k + 1) → cs_n U (2 ^ s) (k + 1) = cs_n U (2 ^ s) (k + 2) := by
    intro k e
    show cs_f U (cs_n U (2 ^ s) k) 16 = cs_f U (cs_n U (2 ^ s) (k + 1)) 16
    rw [← e]
  have p0 : cs_pop (cs_n U (2 ^ s) 0) = 1 := cs_pop1 ⟨s, hs⟩
  have p5 : cs_pop (cs_n U (2 ^ s) 5) ≤ 4 := cs_pop4 ⟨_, hl 5⟩
  have e4 : cs_n U (2 ^ s) 4 = cs_n U (2 ^ s) 5 := by
    cases g 0 with
    | inl e => exact st 3 (st 2 (st 1 (st 0 e)))
    | inr l0 => cases g 1 with
      | inl e => exact st 3 (st 2 (st 1 e))
      | inr l1 => cases g 2 with
        | inl e => exact st 3 (st 2 e)
        | inr l2 => cases g 3 with
          | inl e => exact st 3 e
          | inr l3 => cases g 4 with
            | inl e => exact e
            | inr l4 =>
              exfalso
              have k0 : cs_pop (cs_n U (2 ^ s) 0) < cs_pop (cs_n U (2 ^ s) 1) := l0
              have k1 : cs_pop (cs_n U (2 ^ s) 1) < cs_pop (cs_n U (2 ^ s) 2) := l1
              have k2 : cs_pop (cs_n U (2 ^ s) 2) < cs_pop (cs_n U (2 ^ s) 3) := l2
              have k3 : cs_pop (cs_n U (2 ^ s) 3) < cs_pop (cs_n U (2 ^ s) 4) := l3
              have k4 : cs_pop (cs_n U (2 ^ s) 4) < cs_pop (cs_n U (2 ^ s) 5) := l4
              omega
  exact e4.symm
theorem cs_cl_self {U : Nat → Int32} {s : Nat} : (cs_cl U s).testBit s = true := cs_n_sub (by rw [Nat.testBit_two_pow]; simp) 4
theorem cs_cl_closed {U : Nat → Int32} {s : Nat} (hs : s < 4) : cs_C U (fun i => (cs_cl U s).testBit i = true) := by
  intro c hc hU h
  have e := cs_edge (n := 16) hU h hc
  rw [cs_fix hs] at e
  exact e
theorem cs_cl_min {U : Nat → Int32} {s : Nat} {T : Nat → Prop} (hT : cs_C U T) (h : T s) : ∀ i, (cs_cl U s).testBit i = true → T i :=
  cs_n_min hT (fun i hi => by rw [Nat.testBit_two_pow] at hi; rw [← of_decide_eq_true hi]; exact h) 4
theorem cs_ext {m m' : Nat} (h : ∀ i, m.testBit i = true ↔ m'.testBit i = true) : m = m' :=
  Nat.eq_of_testBit_eq (fun i => by rw [Bool.eq_iff_iff]; exact h i)
/-- a new pair -/
theorem cs_new {U : Nat → Int32} {a b s : Nat} {x : Int32} (hx : ¬ x = 0) (ha : a < 4) (hb : b < 4) (hs : s < 4) : cs_cl (upd U (4 * a + b) x) s = if (cs_cl U s).testBit a = true then cs_cl U s ||| cs_cl U b else cs_cl U s := by
  have hm : ∀ c, ¬ U c = 0 → ¬ upd U (4 * a + b) x c = 0 := by
    intro c h
    unfold upd
    split
    · exact hx
    · exact h
  have lo : ∀ t, t < 4 → ∀ i, (cs_cl U t).testBit i = true → (cs_cl (upd U (4 * a + b) x) t).testBit i = true := fun t ht =>
    cs_cl_min (fun c hc hU h => cs_cl_closed ht c hc (hm c hU) h) cs_cl_self
  have key : ∀ i, (cs_cl (upd U (4 * a + b) x) s).testBit i = true ↔ (cs_cl U s).testBit i = true ∨ ((cs_cl U s).testBit a = true ∧ (cs_cl U b).testBit i = true) := by
    intro i
    constructor
    · refine cs_cl_min (T := fun i => (cs_cl U s).testBit i = true ∨ ((cs_cl U s).testBit a = true ∧ (cs_cl U b).testBit i = true)) ?_ (Or.inl cs_cl_self) i
      intro c hc hU h
      by_cases e : c = 4 * a + b
      · have e1 : c / 4 = a := by omega
        have e2 : c % 4 = b := by omega
        rw [e1] at h
        rw [e2]
        cases h with
        | inl h => exact Or.inr ⟨h, cs_cl_self⟩
        | inr h => exact Or.inr ⟨h.1, cs_cl_self⟩
      · have hU' : ¬ U c = 0 := by
          unfold upd at hU
          rw [if_neg e] at hU
          exact hU
        cases h with
        | inl h => exact Or.inl (cs_cl_closed hs c hc hU' h)
        | inr h => exact Or.inr ⟨h.1, cs_cl_closed hb c hc hU' h.2⟩
    · intro h
      cases h with
      | inl h => exact lo s hs i h
      | inr h =>
        have ia : (cs_cl (upd U (4 * a + b) x) s).testBit a = true := lo s hs a h.1
        have ib : (cs_cl (upd U (4 * a + b) x) s).testBit b = true := by
          have q := cs_cl_closed (U := upd U (4 * a + b) x) hs (4 * a + b) (by omega) (by unfold upd; rw [if_pos rfl]; exact hx)
          have e1 : (4 * a + b) / 4 = a := by omega
          have e2 : (4 * a + b) % 4 = b := by omega
          rw [e1, e2] at q
          exact q ia
        exact cs_cl_min (T := fun i => (cs_cl (upd U (4 * a + b) x) s).testBit i = true) (fun c hc hU h => cs_cl_closed hs c hc (hm c hU) h) ib i h.2
  split
  · next h => exact cs_ext (fun i => by rw [key i, Nat.testBit_or, Bool.or_eq_true]; exact ⟨fun q => q.elim Or.inl (fun r => Or.inr r.2), fun q => q.elim Or.inl (fun r => Or.inr ⟨h, r⟩)⟩)
  · next h => exact cs_ext (fun i => by rw [key i]; exact ⟨fun q => q.elim id (fun r => absurd r.1 h), Or.inl⟩)
theorem cs_z {U : Nat → Int32} (hU : ∀ c, U c = 0) (m : Nat) : ∀ k, cs_f U m k = m
  | 0 => rfl
  | k + 1 => by
    show cs_st U (cs_f U m k) k = m
    unfold cs_st
    rw [if_neg (fun h => h.1 (hU k)), cs_z hU m k]
theorem cs_zn {U : Nat → Int32} (hU : ∀ c, U c = 0) (m : Nat) : ∀ k, cs_n U m k = m
  | 0 => rfl
  | k + 1 => by
    show cs_f U (cs_n U m k) 16 = m
    rw [cs_z hU, cs_zn hU m k]
theorem cs_0 {U : Nat → Int32} (hU : ∀ c, U c = 0) (s : Nat) : cs_cl U s = 2 ^ s := cs_zn hU _ 4
end
section
/-! pure pictures: sorts of things, missing counts, words, digits, solving, counting -/
/-- or of sets below 16 -/
theorem so_or {a b k : Nat} (ha : a < 2 ^ k) (hb : b < 2 ^ k) : a ||| b < 2 ^ k := Nat.or_lt_two_pow ha hb
/-- the bits of a set, one after the other -/
def up_f (m : Nat) : Nat → Nat
  | 0 => 0
  | b + 1 => up_f m b ||| (if m.testBit b = true then 2 ^ b else 0)
theorem up_all : ∀ m : Fin 16, up_f m.val 4 = m.val := by decide +kernel
theorem up_4 {m : Nat} (h : m < 2 ^ 4) : up_f m 4 = m := up_all ⟨m, h⟩
theorem up_lt {m : Nat} : ∀ b, b ≤ 4 → up_f m b < 2 ^ 4
  | 0, _ => (by decide : 0 < 2 ^ 4)
  | b + 1, h => by
    refine so_or (up_lt b (by omega)) ?_
    split
    · exact Nat.pow_lt_pow_right (by decide) (by omega)
    · decide
def so_f (F : Nat → Int32) (U : Nat → Int32) (m : Nat) : Nat → Nat
  | 0 => 0
  | r + 1 => if ¬ F r = 0 ∧ m.testBit (r / 4) = true then so_f F U m r ||| cs_cl U (r % 4) else so_f F U m r
def so_g (G : Nat → Int32) (U : Nat → Int32) (m1 m2 : Nat) : Nat → Nat
  | 0 => 0
  | r + 1 => if ¬ G r = 0 ∧ m1.testBit (r / 16) = true ∧ m2.testBit (r / 4 % 4) = true then so_g G U m1 m2 r ||| cs_cl U (r % 4) else so_g G U m1 m2 r
def so_q (G : Nat → Int32) (U : Nat → Int32) (q : Nat) : Nat → Nat
  | 0 => 0
  | u + 1 => if ¬ G (4 * q + u) = 0 then so_q G U q u ||| cs_cl U u else so_q G U q u
theorem so_m4 (U : Nat → Int32) (r : Nat) : cs_cl U (r % 4) < 2 ^ 4 := cs_cl_lt (Nat.mod_lt _ (by decide))
theorem so_f_lt {F U : Nat → Int32} {m : Nat} : ∀ r, so_f F U m r < 2 ^ 4
  | 0 => (by decide : 0 < 2 ^ 4)
  | r + 1 => by
    unfold so_f
    split
    · exact so_or (so_f_lt r) (so_m4 U r)
    · exact so_f_lt r
theorem so_g_lt {G U : Nat → Int32} {m1 m2 : Nat} : ∀ r, so_g G U m1 m2 r < 2 ^ 4
  | 0 => (by decide : 0 < 2 ^ 4)
  | r + 1 => by
    unfold so_g
    split
    · exact so_or (so_g_lt r) (so_m4 U r)
    · exact so_g_lt r
theorem so_q_lt {G U : Nat → Int32} {q : Nat} : ∀ u, u ≤ 4 → so_q G U q u < 2 ^ 4
  | 0, _ => (by decide : 0 < 2 ^ 4)
  | u + 1, h => by
    unfold so_q
    split
    · exact so_or (so_q_lt u (by omega)) (cs_cl_lt (by omega))
    · exact so_q_lt u (by omega)
theorem so_f_t {F U : Nat → Int32} {m r : Nat} (h : ¬ F r = 0) (h2 : m.testBit (r / 4) = true) : so_f F U m (r + 1) = so_f F U m r ||| cs_cl U (r % 4) := by rw [so_f, if_pos ⟨h, h2⟩]
theorem so_f_0 {F U : Nat → Int32} {m r : Nat} (h : F r = 0) : so_f F U m (r + 1) = so_f F U m r := by rw [so_f, if_neg (fun y => y.1 h)]
theorem so_f_b {F U : Nat → Int32} {m r : Nat} (h : m.testBit (r / 4) = false) : so_f F U m (r + 1) = so_f F U m r := by rw [so_f, if_neg (fun y => by rw [h] at y; exact absurd y.2 (by decide))]
theorem so_g_t {G U : Nat → Int32} {m1 m2 r : Nat} (h : ¬ G r = 0) (h1 : m1.testBit (r / 16) = true) (h2 : m2.testBit (r / 4 % 4) = true) : so_g G U m1 m2 (r + 1) = so_g G U m1 m2 r ||| cs_cl U (r % 4) := by rw [so_g, if_pos ⟨h, h1, h2⟩]
theorem so_g_0 {G U : Nat → Int32} {m1 m2 r : Nat} (h : G r = 0) : so_g G U m1 m2 (r + 1) = so_g G U m1 m2 r := by rw [so_g, if_neg (fun y => y.1 h)]
theorem so_g_b {G U : Nat → Int32} {m1 m2 r : Nat} (h : m1.testBit (r / 16) = false) : so_g G U m1 m2 (r + 1) = so_g G U m1 m2 r := by rw [so_g, if_neg (fun y => by rw [h] at y; exact absurd y.2.1 (by decide))]
theorem so_g_d {G U : Nat → Int32} {m1 m2 r : Nat} (h : m2.testBit (r / 4 % 4) = false) : so_g G U m1 m2 (r + 1) = so_g G U m1 m2 r := by rw [so_g, if_neg (fun y => by rw [h] at y; exact absurd y.2.2 (by decide))]
theorem so_q_t {G U : Nat → Int32} {q u : Nat} (h : ¬ G (4 * q + u) = 0) : so_q G U q (u + 1) = so_q G U q u ||| cs_cl U u := by rw [so_q, if_pos h]
theorem so_q_0 {G U : Nat → Int32} {q u : Nat} (h : G (4 * q + u) = 0) : so_q G U q (u + 1) = so_q G U q u := by rw [so_q, if_neg (fun y => y h)]
theorem so_gq {G U : Nat → Int32} {m1 m2 q : Nat} (h1 : m1.testBit (q / 4) = true) (h2 : m2.testBit (q % 4) = true) : ∀ u, u ≤ 4 → so_g G U m1 m2 (4 * q + u) = so_g G U m1 m2 (4 * q) ||| so_q G U q u
  | 0, _ => (Nat.or_zero _).symm
  | u + 1, h => by
    have ih := so_gq (G := G) (U := U) h1 h2 u (by omega)
    have e1 : (4 * q + u) / 16 = q / 4 := by omega
    have e2 : (4 * q + u) / 4 % 4 = q % 4 := by omega
    have e3 : (4 * q + u) % 4 = u := by omega
    show so_g G U m1 m2 ((4 * q + u) + 1) = _ ||| so_q G U q (u + 1)
    by_cases z : G (4 * q + u) = 0
    · rw [so_g_0 z, so_q_0 z, ih]
    · rw [so_g_t z (by rw [e1]; exact h1) (by rw [e2]; exact h2), so_q_t z, ih, e3, Nat.or_assoc]
theorem so_gn {G U : Nat → Int32} {m1 m2 q : Nat} (hn : ¬ (m1.testBit (q / 4) = true ∧ m2.testBit (q % 4) = true)) : ∀ u, u ≤ 4 → so_g G U m1 m2 (4 * q + u) = so_g G U m1 m2 (4 * q)
  | 0, _ => rfl
  | u + 1, h => by
    have ih := so_gn (G := G) (U := U) hn u (by omega)
    have e1 : (4 * q + u) / 16 = q / 4 := by omega
    have e2 : (4 * q + u) / 4 % 4 = q % 4 := by omega
    show so_g G U m1 m2 ((4 * q + u) + 1) = _
    rw [so_g, e1, e2, if_neg (fun y => hn y.2), ih]
/-- the sorts of a thing -/
def so_t (F G U : Nat → Int32) (c : Nat → Nat) (t : Nat) : Nat := if t < 3 then cs_cl U (c t) else if t < 6 then so_f F U (cs_cl U (c (t - 3))) 16 else so_g G U (cs_cl U (c ((t - 6) / 3))) (cs_cl U (c ((t - 6) % 3))) 64
theorem so_t_lt {F G U : Nat → Int32} {c : Nat → Nat} (hc : ∀ i, c i < 4) (t : Nat) : so_t F G U c t < 2 ^ 4 := by
  unfold so_t
  split
  · exact cs_cl_lt (hc _)
  · split
    · exact so_f_lt 16
    · exact so_g_lt 64
/-- what a side lacks -/
def mi_f (t : Nat → Nat) (s : Nat) : Nat → Int32
  | 0 => 1
  | k + 1 => if t (9 * s + k) = 1 then mi_f t s k + 1 else if t (9 * s + k) = 0 then mi_f t s k else mi_f t s k - 1
theorem mi_1 {t : Nat → Nat} {s k : Nat} (h : t (9 * s + k) = 1) : mi_f t s (k + 1) = mi_f t s k + 1 := by rw [mi_f, if_pos h]
theorem mi_0 {t : Nat → Nat} {s k : Nat} (h : t (9 * s + k) = 0) : mi_f t s (k + 1) = mi_f t s k := by rw [mi_f, if_neg (by omega), if_pos h]
theorem mi_2 {t : Nat → Nat} {s k : Nat} (h : t (9 * s + k) ≠ 0) (h1 : t (9 * s + k) ≠ 1) : mi_f t s (k + 1) = mi_f t s k - 1 := by rw [mi_f, if_neg h1, if_neg h]
theorem mi_2' {t : Nat → Nat} {s k : Nat} (h : t (9 * s + k) ≠ 0) (h1 : t (9 * s + k) ≠ 1) : mi_f t s (k + 1) = mi_f t s k + (-1) := by rw [mi_2 h h1, Int32.sub_eq_add_neg]
def wh_b (t n : Nat → Nat) (s : Nat) : Bool := decide (mi_f t s (n s) = 0)
/-- the tokens of a thing, the tokens that a token becomes -/
def wx_l (y : Nat) : List Nat := if y < 3 then [2 + y] else if y < 6 then [0, y - 1] else [1, 2 + (y - 6) / 3, 2 + (y - 6) % 3]
def wt_l (g : Nat → Nat) (x : Nat) : List Nat := if x < 5 then [x] else wx_l (g (x - 5))
def wl_l (t g : Nat → Nat) (s : Nat) : Nat → List Nat
  | 0 => []
  | k + 1 => wl_l t g s k ++ wt_l g (t (9 * s + k))
theorem wx_a {y : Nat} (h : y < 3) : wx_l y = [2 + y] := if_pos h
theorem wx_b {y : Nat} (h : 3 ≤ y) (h2 : y < 6) : wx_l y = [0, y - 1] := by
  unfold wx_l
  rw [if_neg (by omega), if_pos h2]
theorem wx_c {y : Nat} (h : 6 ≤ y) : wx_l y = [1, 2 + (y - 6) / 3, 2 + (y - 6) % 3] := by
  unfold wx_l
  rw [if_neg (by omega), if_neg (by omega)]
theorem wx_le (y : Nat) : (wx_l y).length ≤ 3 := by
  unfold wx_l
  split
  · exact (by decide : 1 ≤ 3)
  · split
    · exact (by decide : 2 ≤ 3)
    · exact (by decide : 3 ≤ 3)
theorem wt_le (g : Nat → Nat) (x : Nat) : (wt_l g x).length ≤ 3 := by
  unfold wt_l
  split
  · exact (by decide : 1 ≤ 3)
  · exact wx_le _
theorem wl_le (t g : Nat → Nat) (s : Nat) : ∀ k, (wl_l t g s k).length ≤ 3 * k
  | 0 => Nat.le_refl _
  | k + 1 => by
    have h1 := wl_le t g s k
    have h2 := wt_le g (t (9 * s + k))
    show (wl_l t g s k ++ wt_l g (t (9 * s + k))).length ≤ _
    rw [List.length_append]
    omega
/-- the array with a list written from p on -/
def ap_f (a : Nat → Int32) (p : Nat) : List Nat → Nat → Int32
  | [] => a
  | x :: L => ap_f (upd a p (nI x)) (p + 1) L
theorem ap_app (L M : List Nat) : ∀ (a : Nat → Int32) (p : Nat), ap_f a p (L ++ M) = ap_f (ap_f a p L) (p + L.length) M := by
  induction L with
  | nil =>
    intro a p
    rfl
  | cons x L ih =>
    intro a p
    show ap_f (upd a p (nI x)) (p + 1) (L ++ M) = ap_f (ap_f (upd a p (nI x)) (p + 1) L) (p + (L.length + 1)) M
    rw [ih, show p + 1 + L.length = p + (L.length + 1) from by omega]
theorem ap_lo (L : List Nat) : ∀ (a : Nat → Int32) (p j : Nat), j < p → ap_f a p L j = a j := by
  induction L with
  | nil =>
    intro a p j _
    rfl
  | cons x L ih =>
    intro a p j h
    show ap_f (upd a p (nI x)) (p + 1) L j = a j
    rw [ih _ _ _ (by omega), pk_un (by omega)]
theorem ap_at (L : List Nat) : ∀ (a : Nat → Int32) (p j x : Nat), L[j]? = some x → ap_f a p L (p + j) = nI x := by
  induction L with
  | nil =>
    intro a p j x h
    simp at h
  | cons y L ih =>
    intro a p j x h
    show ap_f (upd a p (nI y)) (p + 1) L (p + j) = nI x
    cases j with
    | zero =>
      have e : y = x := by
        simp at h
        exact h
      subst e
      rw [ap_lo _ _ _ _ (by omega)]
      exact pk_us
    | succ j =>
      have h' : L[j]? = some x := by
        simp at h
        exact h
      rw [show p + (j + 1) = p + 1 + j from by omega]
      exact ih _ _ _ _ h'
/-- the array holds the list from s on -/
def hd_p (a : Nat → Int32) (s : Nat) (L : List Nat) : Prop := ∀ j x, L[j]? = some x → a (s + j) = nI x
theorem hd_hi {a : Nat → Int32} {s : Nat} {L : List Nat} : hd_p (ap_f a s L) s L := fun j x h => ap_at L a s j x h
theorem hd_lo {a : Nat → Int32} {s : Nat} {L M : List Nat} (hs : L.length ≤ s) : hd_p (ap_f (ap_f a 0 L) s M) 0 L := by
  intro j x hj
  have hl : j < L.length := by
    rcases Nat.lt_or_ge j L.length with z | z
    · exact z
    · rw [List.getElem?_eq_none z] at hj
      cases hj
  rw [ap_lo _ _ _ _ (by omega)]
  exact ap_at L a 0 j x hj
/-- an array whose first k places are written -/
def pr_f (a v : Nat → Int32) (k : Nat) : Nat → Int32 := fun j => if j < k then v j else a j
theorem pr_0 (a v : Nat → Int32) : pr_f a v 0 = a := by
  funext j
  exact if_neg (by omega)
theorem pr_s (a v : Nat → Int32) (k : Nat) : upd (pr_f a v k) k (v k) = pr_f a v (k + 1) := by
  funext j
  unfold upd pr_f
  by_cases e : j = k
  · subst e
    rw [if_pos rfl, if_pos (by omega)]
  · rw [if_neg e]
    by_cases z : j < k
    · rw [if_pos z, if_pos (by omega)]
    · rw [if_neg z, if_neg (by omega)]
theorem pr_i {a v : Nat → Int32} {k j : Nat} (h : j < k) : pr_f a v k j = v j := if_pos h
theorem pr_o {a v : Nat → Int32} {k j : Nat} (h : k ≤ j) : pr_f a v k j = a j := if_neg (by omega)
theorem hd_eq {a : Nat → Int32} {s s' : Nat} {L L' : List Nat} (h : hd_p a s L) (h' : hd_p a s' L') (hL : ∀ x, x ∈ L → x < 2 ^ 31) (hL' : ∀ x, x ∈ L' → x < 2 ^ 31) (e : L.length = L'.length) (ha : ∀ j, j < L.length → a (s + j) = a (s' + j)) : L = L' := by
  apply List.ext_getElem? 
  intro j
  rcases Nat.lt_or_ge j L.length with z | z
  · have z' : j < L'.length := by omega
    have h1 := h j _ (List.getElem?_eq_getElem z)
    have h2 := h' j _ (List.getElem?_eq_getElem z')
    rw [ha j z, h2, nI_eq (hL' _ (List.getElem_mem z')) (hL _ (List.getElem_mem z))] at h1
    rw [List.getElem?_eq_getElem z, List.getElem?_eq_getElem z', h1]
  · rw [List.getElem?_eq_none z, List.getElem?_eq_none (by omega)]
theorem hd_ne {a : Nat → Int32} {s s' j : Nat} {L L' : List Nat} (h : hd_p a s L) (h' : hd_p a s' L') (hj : j < L.length) (ha : ¬ a (s + j) = a (s' + j)) : ¬ L = L' := by
  intro e
  subst e
  exact ha ((h j _ (List.getElem?_eq_getElem hj)).trans (h' j _ (List.getElem?_eq_getElem hj)).symm)
theorem wt_small {g : Nat → Nat} (hg : ∀ v, g v < 15) {x y : Nat} (hx : x < 8) (h : y ∈ wt_l g x) : y < 2 ^ 31 := by
  have hg' := hg (x - 5)
  unfold wt_l wx_l at h
  split at h
  · simp at h
    omega
  · split at h
    · simp at h
      omega
    · split at h
      · simp at h
        omega
      · simp at h
        omega
theorem wl_small {t g : Nat → Nat} {s : Nat} (hg : ∀ v, g v < 15) (ht : ∀ i, t i < 8) : ∀ k x, x ∈ wl_l t g s k → x < 2 ^ 31
  | 0, x, h => by
    cases h
  | k + 1, x, h => by
    rcases List.mem_append.mp h with z | z
    · exact wl_small hg ht k x z
    · exact wt_small hg (ht _) z
/-- the digits of an assignment -/
def dg_f (i v : Nat) : Nat := if v = 0 then i / 225 else if v = 1 then i / 15 % 15 else i % 15
theorem dg_lt {i : Nat} (h : i < 3375) (v : Nat) : dg_f i v < 15 := by
  unfold dg_f
  split
  · omega
  · split <;> omega
/-- the first k variables have their sorts -/
def hs_b (so g w : Nat → Nat) : Nat → Bool
  | 0 => true
  | v + 1 => hs_b so g w v && (so (g v)).testBit (w v)
def sm_b (t n g : Nat → Nat) : Bool := decide (wl_l t g 0 (n 0) = wl_l t g 1 (n 1))
def sv_b (so w t n : Nat → Nat) (i : Nat) : Bool := hs_b so (dg_f i) w 3 && sm_b t n (dg_f i)
theorem hs_f {so g w : Nat → Nat} {v : Nat} (h : (so (g v)).testBit (w v) = false) : ∀ k, v < k → hs_b so g w k = false
  | 0, z => by omega
  | k + 1, z => by
    show (hs_b so g w k && _) = false
    by_cases e : v = k
    · subst e
      rw [h, Bool.and_false]
    · rw [hs_f h k (by omega), Bool.false_and]
theorem hs_s {so g w : Nat → Nat} {v : Nat} (h : hs_b so g w v = true) (h2 : (so (g v)).testBit (w v) = true) : hs_b so g w (v + 1) = true := by
  show (hs_b so g w v && _) = true
  rw [h, h2]
  rfl
/-- the things that a variable of sort w may be, as the reference keeps them -/
def mf_f (so : Nat → Nat) (w : Nat) : Nat → Nat
  | 0 => 0
  | t + 1 => mf_f so w t ||| (so t / 2 ^ w % 2) * 2 ^ t
theorem mf_b01 (x w : Nat) : x / 2 ^ w % 2 = (if x.testBit w = true then 1 else 0) := by
  rw [Nat.testBit_eq_decide_div_mod_eq]
  generalize x / 2 ^ w = z
  by_cases h : z % 2 = 1
  · rw [h]
    rfl
  · have h0 : z % 2 = 0 := by omega
    rw [h0]
    rfl
theorem mf_one (x w t : Nat) : (x / 2 ^ w % 2) * 2 ^ t < 2 ^ (t + 1) := by
  rw [mf_b01]
  split
  · rw [Nat.one_mul]
    exact Nat.pow_lt_pow_right (by decide) (by omega)
  · rw [Nat.zero_mul]
    exact Nat.two_pow_pos _
theorem mf_lt (so : Nat → Nat) (w : Nat) : ∀ t, mf_f so w t < 2 ^ t
  | 0 => (by decide : 0 < 2 ^ 0)
  | t + 1 => so_or (Nat.lt_trans (mf_lt so w t) (Nat.pow_lt_pow_right (by decide) (by omega))) (mf_one _ _ _)
theorem mf_tb (x w t j : Nat) : ((x / 2 ^ w % 2) * 2 ^ t).testBit j = (decide (j = t) && x.testBit w) := by
  rw [mf_b01]
  split
  · next h =>
    rw [Nat.one_mul, Nat.testBit_two_pow, h, Bool.and_true]
    by_cases e : j = t
    · rw [decide_eq_true e, decide_eq_true e.symm]
    · rw [decide_eq_false e, decide_eq_false (fun z => e z.symm)]
  · next h =>
    have h0 : x.testBit w = false := by
      cases e : x.testBit w with
      | true => exact absurd e h
      | false => rfl
    rw [Nat.zero_mul, Nat.zero_testBit, h0, Bool.and_false]
theorem mf_bit (so : Nat → Nat) (w : Nat) : ∀ k t, t < k → (mf_f so w k).testBit t = (so t).testBit w
  | 0, t, h => by omega
  | k + 1, t, h => by
    show (mf_f so w k ||| (so k / 2 ^ w % 2) * 2 ^ k).testBit t = _
    rw [Nat.testBit_or, mf_tb]
    by_cases e : t = k
    · subst e
      rw [Nat.testBit_lt_two_pow (mf_lt so w t), decide_eq_true rfl, Bool.true_and, Bool.false_or]
    · rw [mf_bit so w k t (by omega), decide_eq_false e, Bool.false_and, Bool.or_false]
/-- counting, gathering, the first -/
def cn_f (P : Nat → Bool) : Nat → Int32
  | 0 => 0
  | i + 1 => if P i = true then cn_f P i + 1 else cn_f P i
def vs_f (P : Nat → Bool) (d : Nat → Nat) : Nat → Int32
  | 0 => 0
  | i + 1 => if P i = true then vs_f P d i ||| ((1 : Int32) <<< (nI (d i) &&& 31)) else vs_f P d i
def fd_f (P : Nat → Bool) (d : Nat → Nat) : Nat → Nat → Int32
  | 0, _ => -1
  | n + 1, i => if P i = true then nI (d i) else fd_f P d n (i + 1)
theorem cn_c {P Q : Nat → Bool} : ∀ k, (∀ i, i < k → P i = Q i) → cn_f P k = cn_f Q k
  | 0, _ => rfl
  | k + 1, h => by
    unfold cn_f
    rw [h k (by omega), cn_c k (fun i hi => h i (by omega))]
theorem vs_c {P Q : Nat → Bool} {d : Nat → Nat} : ∀ k, (∀ i, i < k → P i = Q i) → vs_f P d k = vs_f Q d k
  | 0, _ => rfl
  | k + 1, h => by
    unfold vs_f
    rw [h k (by omega), vs_c k (fun i hi => h i (by omega))]
theorem cn_0 {P : Nat → Bool} : ∀ k, (∀ i, i < k → P i = false) → cn_f P k = 0
  | 0, _ => rfl
  | k + 1, h => by
    rw [cn_f, h k (by omega), if_neg (by decide)]
    exact cn_0 k (fun i hi => h i (by omega))
theorem vs_0 {P : Nat → Bool} {d : Nat → Nat} : ∀ k, (∀ i, i < k → P i = false) → vs_f P d k = 0
  | 0, _ => rfl
  | k + 1, h => by
    rw [vs_f, h k (by omega), if_neg (by decide)]
    exact vs_0 k (fun i hi => h i (by omega))
theorem fd_0 {P : Nat → Bool} {d : Nat → Nat} {e : Nat} (h : ∀ i, i < e → P i = false) : ∀ k i, i + k = e → fd_f P d k i = -1
  | 0, _, _ => rfl
  | k + 1, i, hk => by
    rw [fd_f, h i (by omega), if_neg (by decide)]
    exact fd_0 h k (i + 1) (by omega)
theorem pr_e {a v : Nat → Int32} {k : Nat} (h : a k = v k) : pr_f a v (k + 1) = pr_f a v k := by
  rw [← pr_s]
  funext j
  unfold upd
  by_cases e : j = k
  · subst e
    rw [if_pos rfl, pr_o (Nat.le_refl _), h]
  · rw [if_neg e]
theorem cn_t {P : Nat → Bool} {i : Nat} (h : P i = true) : cn_f P (i + 1) = cn_f P i + 1 := by rw [cn_f, if_pos h]
theorem cn_n {P : Nat → Bool} {i : Nat} (h : P i = false) : cn_f P (i + 1) = cn_f P i := by rw [cn_f, h, if_neg (by decide)]
theorem vs_t {P : Nat → Bool} {d : Nat → Nat} {i : Nat} (h : P i = true) : vs_f P d (i + 1) = vs_f P d i ||| ((1 : Int32) <<< (nI (d i) &&& 31)) := by rw [vs_f, if_pos h]
theorem vs_n {P : Nat → Bool} {d : Nat → Nat} {i : Nat} (h : P i = false) : vs_f P d (i + 1) = vs_f P d i := by rw [vs_f, h, if_neg (by decide)]
theorem fd_t {P : Nat → Bool} {d : Nat → Nat} {k i : Nat} (h : P i = true) : fd_f P d (k + 1) i = nI (d i) := by rw [fd_f, if_pos h]
theorem fd_n {P : Nat → Bool} {d : Nat → Nat} {k i : Nat} (h : P i = false) : fd_f P d (k + 1) i = fd_f P d k (i + 1) := by rw [fd_f, h, if_neg (by decide)]
theorem fd_c {P Q : Nat → Bool} {d : Nat → Nat} {e : Nat} (h : ∀ i, i < e → P i = Q i) : ∀ k i, i + k = e → fd_f P d k i = fd_f Q d k i
  | 0, _, _ => rfl
  | k + 1, i, hk => by
    unfold fd_f
    rw [h i (by omega), fd_c h k (i + 1) (by omega)]
end
section
/-! the class: sorts and wholeness -/
section
variable {A F G U th ch rp so : Nat → Int32} {c w t n : Nat → Nat}
theorem x_holds {post : Int32 → Prop} {m s : Nat} (hm : m < 2 ^ 31) (hs : s < 32) (h : post (bi_b (m.testBit s))) : wpX_holds post (nI m) (nI s) :=
  ss_b1 m s (fun e => by rw [e] at h; exact h) (fun e => by rw [e] at h; exact h) hm hs
theorem x_leads {post : Int32 → Prop} {a b : Nat} (hA : ∀ s, s < 4 → A s = nI (cs_cl U s)) (ha : a < 4) (hb : b < 4) (h : post (bi_b ((cs_cl U a).testBit b))) : wpX_leadsTo post (A, na_f c, na_f w, F, G, na_f t, na_f n, th, ch, rp, so) (nI a) (nI b) := by
  refine And.intro (vp_in_nI ha (by decide)) ?_
  rw [nI_clamp (by omega), hA a ha]
  have hl := cs_cl_lt (U := U) ha
  exact x_holds (by omega) (by omega) ⟨bi_n _, h⟩
theorem x_whole_l {post : Int32 → Prop} {s : Nat} (hs : s < 2) (hn : n s ≤ 9) (ht : ∀ i, t i < 8) (h : post (bi_b (wh_b t n s))) : ∀ d k, k + d = n s → wX_isWhole_4 post (nI s) A (na_f c) (na_f w) F G (na_f t) (na_f n) th ch rp so (d + 1) (mi_f t s k) (nI k) := by
  intro d
  induction d with
  | zero =>
    intro k hk
    refine And.intro (vp_in_nI hs (by decide)) ?_
    rw [nI_clamp (n := s) (by omega)]
    refine pk_le (n s) k (fun _ => ?_) (fun z => by omega)
    have e : k = n s := by omega
    subst e
    unfold wh_b at h
    refine br_c (fun z => ?_) (fun z => ?_)
    · rw [decide_eq_true z] at h
      exact h
    · rw [decide_eq_false z] at h
      exact h
  | succ d ih =>
    intro k hk
    have hts := ht (9 * s + k)
    refine And.intro (vp_in_nI hs (by decide)) ?_
    rw [nI_clamp (n := s) (by omega)]
    refine pk_le (n s) k (fun z => by omega) (fun _ => ?_)
    rw [ix_9]
    refine And.intro (vp_in_nI (by omega) (by decide)) (nm_r (e' := nI (t (9 * s + k))) (by rw [nI_clamp (by omega)]; rfl) ?_)
    refine pk_eq (t (9 * s + k)) 1 (fun z => ?_) (fun z => pk_eq (t (9 * s + k)) 0 (fun z2 => ?_) (fun z2 => ?_))
    · exact nm_r (mi_1 z).symm (nm_r (nI_1 k) (ih (k + 1) (by omega)))
    · exact nm_r (nI_1 k) (by rw [← mi_0 z2]; exact ih (k + 1) (by omega))
    · exact nm_r (mi_2' z2 z).symm (nm_r (nI_1 k) (ih (k + 1) (by omega)))
theorem x_whole {post : Int32 → Prop} {s : Nat} (hs : s < 2) (hn : n s ≤ 9) (ht : ∀ i, t i < 8) (h : post (bi_b (wh_b t n s))) : wpX_isWhole post (A, na_f c, na_f w, F, G, na_f t, na_f n, th, ch, rp, so) (nI s) :=
  Exists.intro (n s + 1) (x_whole_l hs hn ht h (n s) 0 (by omega))
theorem x_sc {post : Int32 → Prop} {i : Nat} (hA : ∀ s, s < 4 → A s = nI (cs_cl U s)) (hc : ∀ i, c i < 4) (hi : i < 3) (h : post (nI (cs_cl U (c i)))) : wpX_sortsOfConstant post (A, na_f c, na_f w, F, G, na_f t, na_f n, th, ch, rp, so) (nI i) := by
  refine And.intro (vp_in_nI hi (by decide)) ?_
  have hci := hc i
  have e : na_f c i = nI (c i) := rfl
  rw [nI_clamp (n := i) (by omega), e, nI_clamp (by omega), hA _ hci]
  exact ⟨vp_in_nI hci (by decide), h⟩
theorem x_sf_i {post : Int32 → Prop} {J : Int32 → Int32 → Prop} {m s : Nat} (hA : ∀ s, s < 4 → A s = nI (cs_cl U s)) (hm : m < 2 ^ 4) (hs : s < 4) (h : J (nI (so_f F U m (4 * s + 4))) (nI (s + 1))) : ∀ d k, k + d = 4 → wX_sortsOfF_20 post J (nI m) (nI s) A (na_f c) (na_f w) F G (na_f t) (na_f n) th ch rp so (d + 1) (nI (so_f F U m (4 * s + k))) (nI k) := by
  intro d
  induction d with
  | zero =>
    intro k hk
    have e : k = 4 := by omega
    subst e
    exact pk_le 4 4 (fun _ => nm_r (nI_1 s) h) (fun z => by omega)
  | succ d ih =>
    intro k hk
    have ih' := ih (k + 1) (by omega)
    refine pk_le 4 k (fun z => by omega) (fun _ => ?_)
    rw [ix_4]
    refine And.intro (vp_in_nI (by omega) (by decide)) ?_
    rw [nI_clamp (n := 4 * s + k) (by omega)]
    have e1 : (4 * s + k) / 4 = s := by omega
    have e2 : (4 * s + k) % 4 = k := by omega
    refine br_c (fun z => nm_r (nI_1 k) ?_) (fun z => x_holds (by omega) (by omega) (br_c (fun y => nm_r (nI_1 k) ?_) (fun y => ?_)))
    · rw [← so_f_0 (U := U) (m := m) z]
      exact ih'
    · rw [← so_f_b (F := F) (U := U) (r := 4 * s + k) (by rw [e1]; exact (bi_z _).mp y)]
      exact ih'
    · have q := so_f_t (U := U) z (show m.testBit ((4 * s + k) / 4) = true by rw [e1]; exact (bi_o _).mp y)
      rw [e2] at q
      exact And.intro (vp_in_nI (by omega) (by decide)) (nm_r (e' := nI (so_f F U m (4 * s + k + 1))) (by rw [nI_clamp (by omega), hA k (by omega), ss_or, q]) (nm_r (nI_1 k) ih'))
theorem x_sf_o {post : Int32 → Prop} {m : Nat} (hA : ∀ s, s < 4 → A s = nI (cs_cl U s)) (hm : m < 2 ^ 4) (h : post (nI (so_f F U m 16))) : ∀ d s, s + d = 4 → wX_sortsOfF_11 post (nI m) A (na_f c) (na_f w) F G (na_f t) (na_f n) th ch rp so (d + 1) (nI (so_f F U m (4 * s))) (nI s) := by
  intro d
  induction d with
  | zero =>
    intro s hs
    have e : s = 4 := by omega
    subst e
    exact pk_le 4 4 (fun _ => h) (fun z => by omega)
  | succ d ih =>
    intro s hs
    have ih' := ih (s + 1) (by omega)
    rw [show 4 * (s + 1) = 4 * s + 4 from by omega] at ih'
    exact pk_le 4 s (fun z => by omega) (fun _ => Exists.intro 5 (x_sf_i hA hm (by omega) ih' 4 0 (by omega)))
theorem x_sf {post : Int32 → Prop} {i : Nat} (hA : ∀ s, s < 4 → A s = nI (cs_cl U s)) (hc : ∀ i, c i < 4) (hi : i < 3) (h : post (nI (so_f F U (cs_cl U (c i)) 16))) : wpX_sortsOfF post (A, na_f c, na_f w, F, G, na_f t, na_f n, th, ch, rp, so) (nI i) := by
  unfold wpX_sortsOfF
  dsimp only
  exact x_sc hA hc hi (Exists.intro 5 (x_sf_o hA (cs_cl_lt (hc i)) h 4 0 (by omega)))
theorem x_rg_l {post : Int32 → Prop} {s k : Nat} (hA : ∀ s, s < 4 → A s = nI (cs_cl U s)) (hs : s < 4) (hk : k < 4) (h : post (nI (so_q G U (4 * s + k) 4))) : ∀ d u, u + d = 4 → wX_resultsOfG_5 post (nI s) (nI k) A (na_f c) (na_f w) F G (na_f t) (na_f n) th ch rp so (d + 1) (nI (so_q G U (4 * s + k) u)) (nI u) := by
  intro d
  induction d with
  | zero =>
    intro u hu
    have e : u = 4 := by omega
    subst e
    exact pk_le 4 4 (fun _ => h) (fun z => by omega)
  | succ d ih =>
    intro u hu
    have ih' := ih (u + 1) (by omega)
    refine pk_le 4 u (fun z => by omega) (fun _ => ?_)
    rw [ix_44]
    refine And.intro (vp_in_nI (by omega) (by decide)) ?_
    rw [nI_clamp (n := 4 * (4 * s + k) + u) (by omega)]
    refine br_c (fun z => nm_r (nI_1 u) ?_) (fun z => ?_)
    · rw [← so_q_0 (U := U) z]
      exact ih'
    · exact And.intro (vp_in_nI (by omega) (by decide)) (nm_r (e' := nI (so_q G U (4 * s + k) (u + 1))) (by rw [nI_clamp (by omega), hA u (by omega), ss_or, so_q_t z]) (nm_r (nI_1 u) ih'))
theorem x_rg {post : Int32 → Prop} {s k : Nat} (hA : ∀ s, s < 4 → A s = nI (cs_cl U s)) (hs : s < 4) (hk : k < 4) (h : post (nI (so_q G U (4 * s + k) 4))) : wpX_resultsOfG post (A, na_f c, na_f w, F, G, na_f t, na_f n, th, ch, rp, so) (nI s) (nI k) :=
  Exists.intro 5 (x_rg_l hA hs hk h 4 0 (by omega))
theorem x_sg_i {post : Int32 → Prop} {J : Int32 → Int32 → Prop} {m1 m2 s : Nat} (hA : ∀ s, s < 4 → A s = nI (cs_cl U s)) (h1 : m1 < 2 ^ 4) (h2 : m2 < 2 ^ 4) (hs : s < 4) (h : J (nI (so_g G U m1 m2 (4 * (4 * s + 4)))) (nI (s + 1))) : ∀ d k, k + d = 4 → wX_sortsOfG_28 post J (nI m1) (nI m2) (nI s) A (na_f c) (na_f w) F G (na_f t) (na_f n) th ch rp so (d + 1) (nI (so_g G U m1 m2 (4 * (4 * s + k)))) (nI k) := by
  intro d
  induction d with
  | zero =>
    intro k hk
    have e : k = 4 := by omega
    subst e
    exact pk_le 4 4 (fun _ => nm_r (nI_1 s) h) (fun z => by omega)
  | succ d ih =>
    intro k hk
    have ih' := ih (k + 1) (by omega)
    rw [show 4 * (4 * s + (k + 1)) = 4 * (4 * s + k) + 4 from by omega] at ih'
    have e1 : (4 * s + k) / 4 = s := by omega
    have e2 : (4 * s + k) % 4 = k := by omega
    refine pk_le 4 k (fun z => by omega) (fun _ => x_holds (by omega) (by omega) (br_c (fun y => nm_r (nI_1 k) ?_) (fun y => x_holds (by omega) (by omega) (br_c (fun y2 => nm_r (nI_1 k) ?_) (fun y2 => x_rg hA hs (by omega) (nm_r (e' := nI (so_g G U m1 m2 (4 * (4 * s + k) + 4))) ?_ (nm_r (nI_1 k) ih')))))))
    · rw [so_gn (fun q => by rw [e1, (bi_z _).mp y] at q; exact absurd q.1 (by decide)) 4 (by omega)] at ih'
      exact ih'
    · rw [so_gn (fun q => by rw [e2, (bi_z _).mp y2] at q; exact absurd q.2 (by decide)) 4 (by omega)] at ih'
      exact ih'
    · rw [ss_or, so_gq (by rw [e1]; exact (bi_o _).mp y) (by rw [e2]; exact (bi_o _).mp y2) 4 (by omega)]
theorem x_sg_o {post : Int32 → Prop} {m1 m2 : Nat} (hA : ∀ s, s < 4 → A s = nI (cs_cl U s)) (h1 : m1 < 2 ^ 4) (h2 : m2 < 2 ^ 4) (h : post (nI (so_g G U m1 m2 64))) : ∀ d s, s + d = 4 → wX_sortsOfG_19 post (nI m1) (nI m2) A (na_f c) (na_f w) F G (na_f t) (na_f n) th ch rp so (d + 1) (nI (so_g G U m1 m2 (4 * (4 * s)))) (nI s) := by
  intro d
  induction d with
  | zero =>
    intro s hs
    have e : s = 4 := by omega
    subst e
    exact pk_le 4 4 (fun _ => h) (fun z => by omega)
  | succ d ih =>
    intro s hs
    have ih' := ih (s + 1) (by omega)
    rw [show 4 * (s + 1) = 4 * s + 4 from by omega] at ih'
    exact pk_le 4 s (fun z => by omega) (fun _ => Exists.intro 5 (x_sg_i hA h1 h2 (by omega) ih' 4 0 (by omega)))
theorem x_sg {post : Int32 → Prop} {i j : Nat} (hA : ∀ s, s < 4 → A s = nI (cs_cl U s)) (hc : ∀ i, c i < 4) (hi : i < 3) (hj : j < 3) (h : post (nI (so_g G U (cs_cl U (c i)) (cs_cl U (c j)) 64))) : wpX_sortsOfG post (A, na_f c, na_f w, F, G, na_f t, na_f n, th, ch, rp, so) (nI i) (nI j) := by
  unfold wpX_sortsOfG
  dsimp only
  exact x_sc hA hc hi (x_sc hA hc hj (Exists.intro 5 (x_sg_o hA (cs_cl_lt (hc i)) (cs_cl_lt (hc j)) h 4 0 (by omega))))
theorem x_st {post : Int32 → Prop} {k : Nat} (hA : ∀ s, s < 4 → A s = nI (cs_cl U s)) (hc : ∀ i, c i < 4) (hk : k < 15) (h : post (nI (so_t F G U c k))) : wpX_sortsOfThing post (A, na_f c, na_f w, F, G, na_f t, na_f n, th, ch, rp, so) (nI k) := by
  unfold wpX_sortsOfThing
  dsimp only
  unfold so_t at h
  refine pk_le 3 k (fun z => pk_le 6 k (fun z2 => nm_r (e' := nI (k - 6)) (pk_sub (b := 6) z2) ?_) (fun z2 => ?_)) (fun z => ?_)
  · rw [if_neg (by omega), if_neg (by omega)] at h
    rw [ix_r3 (by omega), ix_d3 (by omega)]
    exact ⟨by decide, by decide, x_sg hA hc (by omega) (by omega) h⟩
  · rw [if_neg (by omega), if_pos z2] at h
    rw [show nI k - 3 = nI (k - 3) from pk_sub (b := 3) z]
    exact x_sf hA hc (by omega) h
  · rw [if_pos z] at h
    exact x_sc hA hc z h
end
end
section
/-! the class: solving -/
section
variable {A F G U th ch rp so : Nat → Int32} {c w t n g : Nat → Nat}
theorem x_thing {post : Int32 → Prop} {i v : Nat} (hi : i < 3375) (hv : v < 3) (h : post (nI (dg_f i v))) : wpX_thingIn post (nI i) (nI v) := by
  unfold dg_f at h
  refine pk_eq v 0 (fun z => ?_) (fun z => pk_eq v 1 (fun z2 => ?_) (fun z2 => ?_))
  · rw [if_pos z] at h
    rw [ix_d225 (by omega)]
    exact ⟨by decide, h⟩
  · rw [if_neg z, if_pos z2] at h
    rw [ix_d15 (r := i) (by omega), ix_r15 (r := i / 15) (by omega)]
    exact ⟨by decide, by decide, h⟩
  · rw [if_neg z, if_neg z2] at h
    rw [ix_r15 (r := i) (by omega)]
    exact ⟨by decide, h⟩
theorem x_choose_l {post : SX → Prop} {i : Nat} (hi : i < 3375) (h : post (A, na_f c, na_f w, F, G, na_f t, na_f n, th, pr_f ch (na_f (dg_f i)) 3, rp, so)) : ∀ d v, v + d = 3 → wX_choose_2 post (nI i) (d + 1) (nI v) A (na_f c) (na_f w) F G (na_f t) (na_f n) th (pr_f ch (na_f (dg_f i)) v) rp so := by
  intro d
  induction d with
  | zero =>
    intro v hv
    have e : v = 3 := by omega
    subst e
    exact pk_le 3 3 (fun _ => h) (fun z => by omega)
  | succ d ih =>
    intro v hv
    have ih' := ih (v + 1) (by omega)
    exact pk_le 3 v (fun z => by omega) (fun _ => x_thing hi (by omega) (And.intro (vp_in_nI (by omega) (by decide)) (nm_r (e' := pr_f ch (na_f (dg_f i)) (v + 1)) (by rw [nI_clamp (by omega)]; exact pr_s ch (na_f (dg_f i)) v) (nm_r (nI_1 v) ih'))))
theorem x_choose {post : SX → Prop} {i : Nat} (hi : i < 3375) (h : post (A, na_f c, na_f w, F, G, na_f t, na_f n, th, pr_f ch (na_f (dg_f i)) 3, rp, so)) : wpX_choose post (A, na_f c, na_f w, F, G, na_f t, na_f n, th, ch, rp, so) (nI i) := by
  have q := x_choose_l hi h 3 0 (by omega)
  rw [pr_0] at q
  exact Exists.intro 4 q
theorem x_have_l {post : Int32 → Prop} {sx : Nat → Nat} (hch : ∀ v, v < 3 → ch v = nI (g v)) (hg : ∀ v, g v < 15) (hth : ∀ k, k < 15 → th k = nI (sx k)) (hsx : ∀ k, sx k < 2 ^ 4) (hw : ∀ i, w i < 4) (h : post (bi_b (hs_b sx g w 3))) : ∀ d v, v + d = 3 → hs_b sx g w v = true → wX_chosenHaveTheirSorts_2 post A (na_f c) (na_f w) F G (na_f t) (na_f n) th ch rp so (d + 1) (nI v) := by
  intro d
  induction d with
  | zero =>
    intro v hv hb
    have e : v = 3 := by omega
    subst e
    rw [hb] at h
    exact pk_le 3 3 (fun _ => h) (fun z => by omega)
  | succ d ih =>
    intro v hv hb
    have h1 := hg v
    have h2 := hsx (g v)
    have h3 := hw v
    refine pk_le 3 v (fun z => by omega) (fun _ => And.intro (vp_in_nI (by omega) (by decide)) ?_)
    rw [nI_clamp (n := v) (by omega), hch v (by omega), nI_clamp (n := g v) (by omega), hth _ h1]
    refine And.intro (vp_in_nI h1 (by decide)) (And.intro (vp_in_nI (by omega) (by decide)) (x_holds (s := w v) (by omega) (by omega) (br_c (fun y => ?_) (fun y => nm_r (nI_1 v) (ih (v + 1) (by omega) (hs_s hb ((bi_o _).mp y)))))))
    rw [hs_f ((bi_z _).mp y) 3 (by omega)] at h
    exact h
theorem x_have {post : Int32 → Prop} {sx : Nat → Nat} (hch : ∀ v, v < 3 → ch v = nI (g v)) (hg : ∀ v, g v < 15) (hth : ∀ k, k < 15 → th k = nI (sx k)) (hsx : ∀ k, sx k < 2 ^ 4) (hw : ∀ i, w i < 4) (h : post (bi_b (hs_b sx g w 3))) : wpX_chosenHaveTheirSorts post (A, na_f c, na_f w, F, G, na_f t, na_f n, th, ch, rp, so) :=
  Exists.intro 4 (x_have_l hch hg hth hsx hw h 3 0 (by omega) rfl)
theorem x_wth {post : Int32 → SX → Prop} {p y : Nat} (hp : p + 3 ≤ 54) (hy : y < 15) (h : post (nI (p + (wx_l y).length)) (A, na_f c, na_f w, F, G, na_f t, na_f n, th, ch, ap_f rp p (wx_l y), so)) : wpX_writeThing post (A, na_f c, na_f w, F, G, na_f t, na_f n, th, ch, rp, so) (nI p) (nI y) := by
  unfold wpX_writeThing
  dsimp only
  refine pk_le 3 y (fun z => pk_le 6 y (fun z2 => nm_r (e' := nI (y - 6)) (pk_sub (b := 6) z2) ?_) (fun z2 => ?_)) (fun z => ?_)
  · rw [wx_c z2] at h
    refine And.intro (vp_in_nI (by omega) (by decide)) (nm_r (e' := upd rp p (nI 1)) (by rw [nI_clamp (by omega)]; rfl) ?_)
    refine And.intro (by decide) (And.intro (pk_in (p + 1) 54 (by omega) (nI_1 p)) (nm_r (e' := upd (upd rp p (nI 1)) (p + 1) (nI (2 + (y - 6) / 3))) (by rw [nI_1 p, nI_clamp (by omega), ix_d3 (by omega), ← nI_add 2 ((y - 6) / 3)]; rfl) ?_))
    refine And.intro (by decide) (And.intro (pk_in (p + 2) 54 (by omega) (nI_add p 2)) (nm_r (e' := upd (upd (upd rp p (nI 1)) (p + 1) (nI (2 + (y - 6) / 3))) (p + 1 + 1) (nI (2 + (y - 6) % 3))) (by rw [show nI p + 2 = nI (p + 2) from nI_add p 2, nI_clamp (by omega), ix_r3 (by omega), ← nI_add 2 ((y - 6) % 3)]; rfl) ?_))
    rw [show nI p + 3 = nI (p + 3) from nI_add p 3]
    exact h
  · rw [wx_b z z2] at h
    refine And.intro (vp_in_nI (by omega) (by decide)) (nm_r (e' := upd rp p (nI 0)) (by rw [nI_clamp (by omega)]; rfl) ?_)
    refine And.intro (pk_in (p + 1) 54 (by omega) (nI_1 p)) (nm_r (e' := upd (upd rp p (nI 0)) (p + 1) (nI (y - 1))) (by rw [nI_1 p, nI_clamp (by omega), show (2 : Int32) + nI y = nI (2 + y) from nI_add 2 y, show nI (2 + y) - 3 = nI (2 + y - 3) from pk_sub (b := 3) (by omega), show 2 + y - 3 = y - 1 from by omega]) ?_)
    rw [show nI p + 2 = nI (p + 2) from nI_add p 2]
    exact h
  · rw [wx_a z] at h
    refine And.intro (vp_in_nI (by omega) (by decide)) (nm_r (e' := upd rp p (nI (2 + y))) (by rw [nI_clamp (by omega), show (2 : Int32) + nI y = nI (2 + y) from nI_add 2 y]) ?_)
    rw [nI_1 p]
    exact h
theorem x_rv_l {post : Int32 → SX → Prop} {s : Nat} (hs : s < 2) (hn : n s ≤ 9) (ht : ∀ i, t i < 8) (hch : ∀ v, v < 3 → ch v = nI (g v)) (hg : ∀ v, g v < 15) (h : post (nI (wl_l t g s (n s)).length) (A, na_f c, na_f w, F, G, na_f t, na_f n, th, ch, ap_f rp (27 * s) (wl_l t g s (n s)), so)) : ∀ d k, k + d = n s → wX_replaceVariables_10 post (nI s) (nI (27 * s)) (d + 1) (nI (27 * s + (wl_l t g s k).length)) (nI k) A (na_f c) (na_f w) F G (na_f t) (na_f n) th ch (ap_f rp (27 * s) (wl_l t g s k)) so := by
  intro d
  induction d with
  | zero =>
    intro k hk
    refine And.intro (vp_in_nI hs (by decide)) ?_
    rw [nI_clamp (n := s) (by omega)]
    refine pk_le (n s) k (fun _ => ?_) (fun z => by omega)
    have e : k = n s := by omega
    subst e
    rw [pk_sub (by omega), Nat.add_sub_cancel_left]
    exact h
  | succ d ih =>
    intro k hk
    have hts := ht (9 * s + k)
    have hl := wl_le t g s k
    have ih' := ih (k + 1) (by omega)
    refine And.intro (vp_in_nI hs (by decide)) ?_
    rw [nI_clamp (n := s) (by omega)]
    refine pk_le (n s) k (fun z => by omega) (fun _ => ?_)
    rw [ix_9]
    refine And.intro (vp_in_nI (by omega) (by decide)) (nm_r (e' := nI (t (9 * s + k))) (by rw [nI_clamp (by omega)]; rfl) ?_)
    refine pk_lt (t (9 * s + k)) 5 (fun z => ?_) (fun z => ?_)
    · have e : wl_l t g s (k + 1) = wl_l t g s k ++ [t (9 * s + k)] := by
        show wl_l t g s k ++ wt_l g (t (9 * s + k)) = _
        rw [wt_l, if_pos z]
      rw [e, ap_app, List.length_append, ← Nat.add_assoc] at ih'
      exact And.intro (vp_in_nI (by omega) (by decide)) (nm_r (e' := upd (ap_f rp (27 * s) (wl_l t g s k)) (27 * s + (wl_l t g s k).length) (nI (t (9 * s + k)))) (by rw [nI_clamp (by omega)]) (nm_r (nI_1 _) (nm_r (nI_1 k) ih')))
    · have e : wl_l t g s (k + 1) = wl_l t g s k ++ wx_l (g (t (9 * s + k) - 5)) := by
        show wl_l t g s k ++ wt_l g (t (9 * s + k)) = _
        rw [wt_l, if_neg (by omega)]
      rw [e, ap_app, List.length_append, ← Nat.add_assoc] at ih'
      rw [show nI (t (9 * s + k)) - 5 = nI (t (9 * s + k) - 5) from pk_sub (b := 5) z, nI_clamp (n := t (9 * s + k) - 5) (by omega), hch _ (by omega)]
      exact And.intro (vp_in_nI (by omega) (by decide)) (x_wth (by omega) (hg _) (nm_r (nI_1 k) ih'))
theorem x_rv {post : Int32 → SX → Prop} {s : Nat} (hs : s < 2) (hn : n s ≤ 9) (ht : ∀ i, t i < 8) (hch : ∀ v, v < 3 → ch v = nI (g v)) (hg : ∀ v, g v < 15) (h : post (nI (wl_l t g s (n s)).length) (A, na_f c, na_f w, F, G, na_f t, na_f n, th, ch, ap_f rp (27 * s) (wl_l t g s (n s)), so)) : wpX_replaceVariables post (A, na_f c, na_f w, F, G, na_f t, na_f n, th, ch, rp, so) (nI s) := by
  unfold wpX_replaceVariables
  dsimp only
  exact nm_r (e' := nI (27 * s)) (pk_mul 27 s) (Exists.intro (n s + 1) (x_rv_l hs hn ht hch hg h (n s) 0 (by omega)))
theorem x_same_l {post : Int32 → SX → Prop} {L M : List Nat} (hL : hd_p rp 0 L) (hM : hd_p rp 27 M) (zL : ∀ x, x ∈ L → x < 2 ^ 31) (zM : ∀ x, x ∈ M → x < 2 ^ 31) (hl : L.length ≤ 27) (e : L.length = M.length) (h : post (bi_b (decide (L = M))) (A, na_f c, na_f w, F, G, na_f t, na_f n, th, ch, rp, so)) : ∀ d k, k + d = L.length → (∀ j, j < k → rp (0 + j) = rp (27 + j)) → wX_sidesBecomeSame_21 post (nI L.length) A (na_f c) (na_f w) F G (na_f t) (na_f n) th ch rp so (d + 1) (nI k) := by
  intro d
  induction d with
  | zero =>
    intro k hk ha
    have e1 : k = L.length := by omega
    subst e1
    rw [decide_eq_true (hd_eq hL hM zL zM e ha)] at h
    exact pk_le L.length L.length (fun _ => h) (fun z => by omega)
  | succ d ih =>
    intro k hk ha
    refine pk_le L.length k (fun z => by omega) (fun _ => And.intro (vp_in_nI (by omega) (by decide)) ?_)
    rw [show (27 : Int32) + nI k = nI (27 + k) from nI_add 27 k, nI_clamp (n := k) (by omega), nI_clamp (n := 27 + k) (by omega)]
    refine And.intro (vp_in_nI (by omega) (by decide)) (br_c (fun z => nm_r (nI_1 k) (ih (k + 1) (by omega) (lt_s ha (by rw [Nat.zero_add]; exact z)))) (fun z => ?_))
    rw [decide_eq_false (hd_ne (j := k) hL hM (by omega) (by rw [Nat.zero_add]; exact z))] at h
    exact h
theorem x_same {post : Int32 → SX → Prop} (hn : ∀ s, n s ≤ 9) (ht : ∀ i, t i < 8) (hch : ∀ v, v < 3 → ch v = nI (g v)) (hg : ∀ v, g v < 15) (h : ∀ rp', post (bi_b (sm_b t n g)) (A, na_f c, na_f w, F, G, na_f t, na_f n, th, ch, rp', so)) : wpX_sidesBecomeSame post (A, na_f c, na_f w, F, G, na_f t, na_f n, th, ch, rp, so) := by
  unfold wpX_sidesBecomeSame
  dsimp only
  refine x_rv (s := 0) (by decide) (hn 0) ht hch hg (x_rv (s := 1) (by decide) (hn 1) ht hch hg ?_)
  have h0 := wl_le t g 0 (n 0)
  have h1 := wl_le t g 1 (n 1)
  have k0 := hn 0
  have k1 := hn 1
  have hh := h (ap_f (ap_f rp (27 * 0) (wl_l t g 0 (n 0))) (27 * 1) (wl_l t g 1 (n 1)))
  refine pk_eq (wl_l t g 0 (n 0)).length (wl_l t g 1 (n 1)).length (fun z => Exists.intro ((wl_l t g 0 (n 0)).length + 1) ?_) (fun z => ?_)
  · exact x_same_l (L := wl_l t g 0 (n 0)) (M := wl_l t g 1 (n 1)) (hd_lo (by omega)) hd_hi (wl_small hg ht _) (wl_small hg ht _) (by omega) z hh _ 0 (by omega) lt_0
  · unfold sm_b at hh
    rw [decide_eq_false (fun e => z (congrArg List.length e))] at hh
    exact hh
end
end
section
/-! the class: solve, counts -/
section
variable {A F G U th ch rp so : Nat → Int32} {c w t n : Nat → Nat}
theorem x_put {a P : Nat → Int32} {i : Nat} {z : Int32} (hi : i < 3375) (hz : vp_nar .boolean z = P i) : upd (pr_f a P i) (nI i).toNatClampNeg (vp_nar .boolean z) = pr_f a P (i + 1) := by
  rw [nI_clamp (by omega), hz]
  exact pr_s a P i
/-- what the class holds of assignment j -/
def sw_f (b : Bool) (sx w t n : Nat → Nat) : Nat → Int32 := fun j => bi_b (b && sv_b sx w t n j)
theorem sw_0 {b : Bool} {sx w t n : Nat → Nat} {j : Nat} (h : b = false) : vp_nar .boolean 0 = sw_f b sx w t n j := by
  unfold sw_f
  rw [h]
  exact bi_v false
theorem sw_1 {b : Bool} {sx w t n : Nat → Nat} {j : Nat} (h : hs_b sx (dg_f j) w 3 = false) : vp_nar .boolean 0 = sw_f b sx w t n j := by
  unfold sw_f sv_b
  rw [h, Bool.false_and, Bool.and_false]
  exact bi_v false
theorem sw_2 {b : Bool} {sx w t n : Nat → Nat} {j : Nat} (h : sm_b t n (dg_f j) = false) : vp_nar .boolean 0 = sw_f b sx w t n j := by
  unfold sw_f sv_b
  rw [h, Bool.and_false, Bool.and_false]
  exact bi_v false
theorem sw_3 {b : Bool} {sx w t n : Nat → Nat} {j : Nat} (hb : b = true) (h1 : hs_b sx (dg_f j) w 3 = true) (h : sm_b t n (dg_f j) = true) : vp_nar .boolean 1 = sw_f b sx w t n j := by
  unfold sw_f sv_b
  rw [h, h1, hb]
  exact bi_v true
theorem x_solve_l {post : SX → Prop} {b : Bool} (hc : ∀ i, c i < 4) (hw : ∀ i, w i < 4) (ht : ∀ i, t i < 8) (hn : ∀ s, n s ≤ 9) (hth : ∀ k, k < 15 → th k = nI (so_t F G U c k)) (h : ∀ ch rp, post (A, na_f c, na_f w, F, G, na_f t, na_f n, th, ch, rp, pr_f so (sw_f b (so_t F G U c) w t n) 3375)) : ∀ d i ch rp, i + d = 3375 → wX_solve_49 post (bi_b b) (d + 1) (nI i) A (na_f c) (na_f w) F G (na_f t) (na_f n) th ch rp (pr_f so (sw_f b (so_t F G U c) w t n) i) := by
  intro d
  induction d with
  | zero =>
    intro i ch rp hi
    have e : i = 3375 := by omega
    subst e
    exact pk_le 3375 3375 (fun _ => h ch rp) (fun z => by omega)
  | succ d ih =>
    intro i ch rp hi
    have hi' : i < 3375 := by omega
    have hin : vp_in (nI i) 3375 := vp_in_nI hi' (by decide)
    have hch : ∀ v, v < 3 → pr_f ch (na_f (dg_f i)) 3 v = nI (dg_f i v) := fun v hv => pr_i hv
    refine pk_le 3375 i (fun z => by omega) (fun _ => x_choose hi' (br_c (fun y => And.intro hin (nm_r (x_put hi' (sw_0 ((bi_z _).mp y))) (nm_r (nI_1 i) (ih (i + 1) _ _ (by omega))))) (fun y => x_have hch (dg_lt hi') hth (so_t_lt hc) hw (br_c (fun y1 => And.intro hin (nm_r (x_put hi' (sw_1 ((bi_z _).mp y1))) (nm_r (nI_1 i) (ih (i + 1) _ _ (by omega))))) (fun y1 => x_same hn ht hch (dg_lt hi') (fun rp' => br_c (fun y2 => And.intro hin (nm_r (x_put hi' (sw_2 ((bi_z _).mp y2))) (nm_r (nI_1 i) (ih (i + 1) _ _ (by omega))))) (fun y2 => And.intro hin (nm_r (x_put hi' (sw_3 ((bi_o _).mp y) ((bi_o _).mp y1) ((bi_o _).mp y2))) (nm_r (nI_1 i) (ih (i + 1) _ _ (by omega)))))))))))
theorem x_solve_o {post : SX → Prop} (hA : ∀ s, s < 4 → A s = nI (cs_cl U s)) (hc : ∀ i, c i < 4) (hw : ∀ i, w i < 4) (ht : ∀ i, t i < 8) (hn : ∀ s, n s ≤ 9) (h : ∀ th ch rp, post (A, na_f c, na_f w, F, G, na_f t, na_f n, th, ch, rp, pr_f so (sw_f (wh_b t n 0 && wh_b t n 1) (so_t F G U c) w t n) 3375)) : ∀ d k, k + d = 15 → wX_solve_2 post (d + 1) (nI k) A (na_f c) (na_f w) F G (na_f t) (na_f n) (pr_f th (na_f (so_t F G U c)) k) ch rp so := by
  intro d
  induction d with
  | zero =>
    intro k hk
    have e : k = 15 := by omega
    subst e
    have L : ∀ b : Bool, (wh_b t n 0 && wh_b t n 1) = b → ∃ n49, wX_solve_49 post (bi_b b) n49 0 A (na_f c) (na_f w) F G (na_f t) (na_f n) (pr_f th (na_f (so_t F G U c)) 15) ch rp so := by
      intro b eb
      have q := x_solve_l (A := A) (F := F) (G := G) (U := U) (so := so) (b := b) (th := pr_f th (na_f (so_t F G U c)) 15) hc hw ht hn (fun k hk => pr_i hk) (post := post) (fun ch rp => by rw [← eb]; exact h _ ch rp) 3375 0 ch rp (by omega)
      rw [pr_0] at q
      exact ⟨_, q⟩
    refine pk_le 15 15 (fun _ => x_whole (s := 0) (by decide) (hn 0) ht (br_c (fun y => L false ?_) (fun y => x_whole (s := 1) (by decide) (hn 1) ht (br_c (fun y2 => L false ?_) (fun y2 => L true ?_))))) (fun z => by omega)
    · rw [(bi_z _).mp y]
      rfl
    · rw [(bi_z _).mp y2, Bool.and_false]
    · rw [(bi_o _).mp y, (bi_o _).mp y2]
      rfl
  | succ d ih =>
    intro k hk
    have ih' := ih (k + 1) (by omega)
    exact pk_le 15 k (fun z => by omega) (fun _ => x_st hA hc (by omega) (And.intro (vp_in_nI (by omega) (by decide)) (nm_r (e' := pr_f th (na_f (so_t F G U c)) (k + 1)) (by rw [nI_clamp (by omega)]; exact pr_s th (na_f (so_t F G U c)) k) (nm_r (nI_1 k) ih'))))
theorem x_solve {post : SX → Prop} (hA : ∀ s, s < 4 → A s = nI (cs_cl U s)) (hc : ∀ i, c i < 4) (hw : ∀ i, w i < 4) (ht : ∀ i, t i < 8) (hn : ∀ s, n s ≤ 9) (h : ∀ th ch rp so, (∀ j, j < 3375 → so j = bi_b (wh_b t n 0 && wh_b t n 1 && sv_b (so_t F G U c) w t n j)) → post (A, na_f c, na_f w, F, G, na_f t, na_f n, th, ch, rp, so)) : wpX_solve post (A, na_f c, na_f w, F, G, na_f t, na_f n, th, ch, rp, so) := by
  have q := x_solve_o (th := th) (ch := ch) (rp := rp) (so := so) hA hc hw ht hn (fun th ch rp => h th ch rp _ (fun j hj => pr_i hj)) 15 0 (by omega)
  rw [pr_0] at q
  exact Exists.intro 16 q
theorem x_cnt {post : Int32 → SX → Prop} {P : Nat → Bool} (hso : ∀ j, j < 3375 → so j = bi_b (P j)) (h : post (cn_f P 3375) (A, na_f c, na_f w, F, G, na_f t, na_f n, th, ch, rp, so)) : ∀ d i, i + d = 3375 → wX_solutions_8 post A (na_f c) (na_f w) F G (na_f t) (na_f n) th ch rp so (d + 1) (cn_f P i) (nI i) := by
  intro d
  induction d with
  | zero =>
    intro i hi
    have e : i = 3375 := by omega
    subst e
    exact pk_le 3375 3375 (fun _ => h) (fun z => by omega)
  | succ d ih =>
    intro i hi
    have ih' := ih (i + 1) (by omega)
    refine pk_le 3375 i (fun z => by omega) (fun _ => And.intro (vp_in_nI (by omega) (by decide)) ?_)
    rw [nI_clamp (n := i) (by omega), hso i (by omega)]
    refine br_c (fun y => nm_r (nI_1 i) ?_) (fun y => nm_r (cn_t ((bi_o _).mp y)).symm (nm_r (nI_1 i) ih'))
    rw [← cn_n ((bi_z _).mp y)]
    exact ih'
theorem x_fst {post : Int32 → SX → Prop} {P : Nat → Bool} {v : Nat} (hv : v < 3) (hso : ∀ j, j < 3375 → so j = bi_b (P j)) : ∀ d i, i + d = 3375 → post (fd_f P (fun i => dg_f i v) d i) (A, na_f c, na_f w, F, G, na_f t, na_f n, th, ch, rp, so) → wX_first_15 post (nI v) A (na_f c) (na_f w) F G (na_f t) (na_f n) th ch rp so (d + 1) (nI i) := by
  intro d
  induction d with
  | zero =>
    intro i hi h
    have e : i = 3375 := by omega
    subst e
    exact pk_le 3375 3375 (fun _ => h) (fun z => by omega)
  | succ d ih =>
    intro i hi h
    refine pk_le 3375 i (fun z => by omega) (fun _ => And.intro (vp_in_nI (by omega) (by decide)) ?_)
    rw [nI_clamp (n := i) (by omega), hso i (by omega)]
    refine br_c (fun y => nm_r (nI_1 i) (ih (i + 1) (by omega) ?_)) (fun y => x_thing (by omega) hv ?_)
    · rw [fd_n ((bi_z _).mp y)] at h
      exact h
    · rw [fd_t ((bi_o _).mp y)] at h
      exact h
theorem x_val {post : Int32 → SX → Prop} {P : Nat → Bool} {v : Nat} (hv : v < 3) (hso : ∀ j, j < 3375 → so j = bi_b (P j)) (h : post (vs_f P (fun i => dg_f i v) 3375) (A, na_f c, na_f w, F, G, na_f t, na_f n, th, ch, rp, so)) : ∀ d i, i + d = 3375 → wX_values_17 post (nI v) A (na_f c) (na_f w) F G (na_f t) (na_f n) th ch rp so (d + 1) (vs_f P (fun i => dg_f i v) i) (nI i) := by
  intro d
  induction d with
  | zero =>
    intro i hi
    have e : i = 3375 := by omega
    subst e
    exact pk_le 3375 3375 (fun _ => h) (fun z => by omega)
  | succ d ih =>
    intro i hi
    have ih' := ih (i + 1) (by omega)
    refine pk_le 3375 i (fun z => by omega) (fun _ => And.intro (vp_in_nI (by omega) (by decide)) ?_)
    rw [nI_clamp (n := i) (by omega), hso i (by omega)]
    refine br_c (fun y => nm_r (nI_1 i) ?_) (fun y => x_thing (by omega) hv (nm_r (vs_t (d := fun i => dg_f i v) ((bi_o _).mp y)).symm (nm_r (nI_1 i) ih')))
    rw [← vs_n (d := fun i => dg_f i v) ((bi_z _).mp y)]
    exact ih'
theorem x_with {post : Int32 → SX → Prop} {P Q : Nat → Bool} {v k : Nat} (hv : v < 3) (hk : k < 15) (hso : ∀ j, j < 3375 → so j = bi_b (P j)) (hQ : ∀ j, Q j = (P j && decide (dg_f j v = k))) (h : post (cn_f Q 3375) (A, na_f c, na_f w, F, G, na_f t, na_f n, th, ch, rp, so)) : ∀ d i, i + d = 3375 → wX_solutionsWith_25 post (nI v) (nI k) A (na_f c) (na_f w) F G (na_f t) (na_f n) th ch rp so (d + 1) (cn_f Q i) (nI i) := by
  intro d
  induction d with
  | zero =>
    intro i hi
    have e : i = 3375 := by omega
    subst e
    exact pk_le 3375 3375 (fun _ => h) (fun z => by omega)
  | succ d ih =>
    intro i hi
    have ih' := ih (i + 1) (by omega)
    have hd := dg_lt (i := i) (by omega) v
    refine pk_le 3375 i (fun z => by omega) (fun _ => And.intro (vp_in_nI (by omega) (by decide)) ?_)
    rw [nI_clamp (n := i) (by omega), hso i (by omega)]
    refine br_c (fun y => nm_r (nI_1 i) ?_) (fun y => x_thing (by omega) hv (pk_eq (dg_f i v) k (fun z => nm_r (cn_t ?_).symm (nm_r (nI_1 i) ih')) (fun z => nm_r (nI_1 i) ?_)))
    · rw [← cn_n (P := Q) (by rw [hQ, (bi_z _).mp y]; rfl)]
      exact ih'
    · rw [hQ, (bi_o _).mp y, decide_eq_true z]
      rfl
    · rw [← cn_n (P := Q) (by rw [hQ, decide_eq_false z, Bool.and_false])]
      exact ih'
theorem x_alike {post : Int32 → SX → Prop} {P Q : Nat → Bool} {v k : Nat} (hv : v < 3) (hk : k < 3) (hso : ∀ j, j < 3375 → so j = bi_b (P j)) (hQ : ∀ j, Q j = (P j && decide (dg_f j v = dg_f j k))) (h : post (cn_f Q 3375) (A, na_f c, na_f w, F, G, na_f t, na_f n, th, ch, rp, so)) : ∀ d i, i + d = 3375 → wX_solutionsAlike_25 post (nI v) (nI k) A (na_f c) (na_f w) F G (na_f t) (na_f n) th ch rp so (d + 1) (cn_f Q i) (nI i) := by
  intro d
  induction d with
  | zero =>
    intro i hi
    have e : i = 3375 := by omega
    subst e
    exact pk_le 3375 3375 (fun _ => h) (fun z => by omega)
  | succ d ih =>
    intro i hi
    have ih' := ih (i + 1) (by omega)
    have hd := dg_lt (i := i) (by omega) v
    have hd2 := dg_lt (i := i) (by omega) k
    refine pk_le 3375 i (fun z => by omega) (fun _ => And.intro (vp_in_nI (by omega) (by decide)) ?_)
    rw [nI_clamp (n := i) (by omega), hso i (by omega)]
    refine br_c (fun y => nm_r (nI_1 i) ?_) (fun y => x_thing (by omega) hv (x_thing (by omega) hk (pk_eq (dg_f i v) (dg_f i k) (fun z => nm_r (cn_t ?_).symm (nm_r (nI_1 i) ih')) (fun z => nm_r (nI_1 i) ?_))))
    · rw [← cn_n (P := Q) (by rw [hQ, (bi_z _).mp y]; rfl)]
      exact ih'
    · rw [hQ, (bi_o _).mp y, decide_eq_true z]
      rfl
    · rw [← cn_n (P := Q) (by rw [hQ, decide_eq_false z, Bool.and_false])]
      exact ih'
end
end
section
/-! the reference: sorts and wholeness -/
section
variable {F G U my tg wd : Nat → Int32} {c w t n : Nat → Nat}
theorem oo_lt {x : Int32} {a b : Nat} (h : nI b ≤ x) (hab : a < b) (hb : b < 2 ^ 31) : nI a < x := Int32.not_le.mp (oo_nle h hab hb)
theorem y_sort {post : Int32 → Prop} {s : Nat} (hs : s < 4) (h : post 1) : wpY_sort post (U, na_f c, F, G, na_f w, na_f n, na_f t, my, tg, wd) (nI s) := br_f (nI_pos (by omega)) (pk_lt 3 s (fun z => by omega) (fun _ => h))
theorem y_sort0 {post : Int32 → Prop} {x : Int32} (hx : x < 0 ∨ nI 4 ≤ x) (h : post 0) : wpY_sort post (U, na_f c, F, G, na_f w, na_f n, na_f t, my, tg, wd) x := by
  rcases hx with z | z
  · exact br_t z h
  · exact br_f (oo_nn z (by decide)) (br_t (oo_lt (a := 3) z (by decide) (by decide)) h)
theorem cs_f_y {m k : Nat} (h : ¬ U k = 0) (h2 : (cs_f U m k).testBit (k / 4) = true) : cs_f U m (k + 1) = cs_f U m k ||| 2 ^ (k % 4) := by
  show cs_st U (cs_f U m k) k = _
  unfold cs_st
  rw [if_pos ⟨h, h2⟩]
theorem cs_f_u {m k : Nat} (h : U k = 0) : cs_f U m (k + 1) = cs_f U m k := by
  show cs_st U (cs_f U m k) k = _
  unfold cs_st
  rw [if_neg (fun y => y.1 h)]
theorem cs_f_v {m k : Nat} (h : (cs_f U m k).testBit (k / 4) = false) : cs_f U m (k + 1) = cs_f U m k := by
  show cs_st U (cs_f U m k) k = _
  unfold cs_st
  rw [if_neg (fun y => by rw [h] at y; exact absurd y.2 (by decide))]
theorem y_at_i {post : Int32 → Prop} {J : Int32 → Int32 → Prop} {x2 : Int32} {m p : Nat} (hm : m < 2 ^ 4) (h : J (nI (cs_f U m 16)) (nI (p + 1))) : ∀ d k, k + d = 16 → wY_atMost_34 post J x2 (nI p) U (na_f c) F G (na_f w) (na_f n) (na_f t) my tg wd (d + 1) (nI (cs_f U m k)) (nI k) := by
  intro d
  induction d with
  | zero =>
    intro k hk
    have e : k = 16 := by omega
    subst e
    exact pk_le 16 16 (fun _ => nm_r (nI_1 p) h) (fun z => by omega)
  | succ d ih =>
    intro k hk
    have ih' := ih (k + 1) (by omega)
    have hl := cs_f_lt (U := U) hm k
    refine pk_le 16 k (fun z => by omega) (fun _ => And.intro (vp_in_nI (by omega) (by decide)) ?_)
    rw [nI_clamp (n := k) (by omega), ix_r4 (r := k) (by omega), ix_d4 (r := k) (by omega)]
    refine br_c (fun z => nm_r (nI_1 k) ?_) (fun z => And.intro (by decide) (ss_b1 (cs_f U m k) (k / 4) (fun y => And.intro (by decide) (nm_r (e' := nI (cs_f U m (k + 1))) ?_ (nm_r (nI_1 k) ih'))) (fun y => nm_r (nI_1 k) ?_)))
    · rw [← cs_f_u (m := m) z]
      exact ih'
    · rw [ss_sh1 (by omega), ss_or, cs_f_y z y]
    · rw [← cs_f_v y]
      exact ih'
theorem y_at_o {post : Int32 → Prop} {a b : Nat} (ha : a < 4) (hb : b < 4) (h : post (bi_b ((cs_cl U a).testBit b))) : ∀ d p, p + d = 4 → wY_atMost_25 post (nI b) U (na_f c) F G (na_f w) (na_f n) (na_f t) my tg wd (d + 1) (nI (cs_n U (2 ^ a) p)) (nI p) := by
  intro d
  induction d with
  | zero =>
    intro p hp
    have e : p = 4 := by omega
    subst e
    have hl := cs_cl_lt (U := U) ha
    exact pk_le 4 4 (fun _ => ss_b1 (cs_cl U a) b (fun e => by rw [e] at h; exact h) (fun e => by rw [e] at h; exact h)) (fun z => by omega)
  | succ d ih =>
    intro p hp
    exact pk_le 4 p (fun z => by omega) (fun _ => Exists.intro 17 (y_at_i (m := cs_n U (2 ^ a) p) (cs_n_lt (cs_p4 ha) p) (ih (p + 1) (by omega)) 16 0 (by omega)))
theorem y_at {post : Int32 → Prop} {a b : Nat} (ha : a < 4) (hb : b < 4) (h : post (bi_b ((cs_cl U a).testBit b))) : wpY_atMost post (U, na_f c, F, G, na_f w, na_f n, na_f t, my, tg, wd) (nI a) (nI b) := by
  unfold wpY_atMost
  dsimp only
  exact y_sort ha (br_f (by decide) (y_sort hb (br_f (by decide) (nm_r (e' := nI (2 ^ a)) (ss_sh1 (by omega)) (Exists.intro 5 (y_at_o ha hb h 4 0 (by omega)))))))
theorem y_whole_l {post : Int32 → Prop} {s : Nat} (hs : s < 2) (hn : n s ≤ 9) (ht : ∀ i, t i < 8) (h : post (bi_b (wh_b t n s))) : ∀ d k, k + d = n s → wY_complete_15 post (nI s) U (na_f c) F G (na_f w) (na_f n) (na_f t) my tg wd (d + 1) (mi_f t s k) (nI k) := by
  intro d
  induction d with
  | zero =>
    intro k hk
    refine And.intro (vp_in_nI hs (by decide)) ?_
    rw [nI_clamp (n := s) (by omega)]
    refine pk_le (n s) k (fun _ => ?_) (fun z => by omega)
    have e : k = n s := by omega
    subst e
    unfold wh_b at h
    refine br_c (fun z => ?_) (fun z => ?_)
    · rw [decide_eq_true z] at h
      exact h
    · rw [decide_eq_false z] at h
      exact h
  | succ d ih =>
    intro k hk
    have hts := ht (9 * s + k)
    refine And.intro (vp_in_nI hs (by decide)) ?_
    rw [nI_clamp (n := s) (by omega)]
    refine pk_le (n s) k (fun z => by omega) (fun _ => ?_)
    rw [ix_9]
    refine And.intro (vp_in_nI (by omega) (by decide)) (nm_r (e' := nI (t (9 * s + k))) (by rw [nI_clamp (by omega)]; rfl) ?_)
    refine pk_eq (t (9 * s + k)) 0 (fun z2 => ?_) (fun z2 => pk_eq (t (9 * s + k)) 1 (fun z => ?_) (fun z => ?_))
    · exact nm_r (nI_1 k) (by rw [← mi_0 z2]; exact ih (k + 1) (by omega))
    · exact nm_r (mi_1 z).symm (nm_r (nI_1 k) (ih (k + 1) (by omega)))
    · exact nm_r (mi_2 z2 z).symm (nm_r (nI_1 k) (ih (k + 1) (by omega)))
theorem y_whole {post : Int32 → Prop} {s : Nat} (hs : s < 2) (hn : n s ≤ 9) (ht : ∀ i, t i < 8) (h : post (bi_b (wh_b t n s))) : wpY_complete post (U, na_f c, F, G, na_f w, na_f n, na_f t, my, tg, wd) (nI s) := by
  have q : ∃ n15, wY_complete_15 post (nI s) U (na_f c) F G (na_f w) (na_f n) (na_f t) my tg wd n15 1 0 := Exists.intro (n s + 1) (y_whole_l hs hn ht h (n s) 0 (by omega))
  exact pk_eq s 0 (fun _ => q) (fun z => pk_eq s 1 (fun _ => q) (fun z2 => by omega))
theorem y_up_l {post : Int32 → Prop} {s : Nat} (hs : s < 4) (h : post (nI (up_f (cs_cl U s) 4))) : ∀ d b, b + d = 4 → wY_up_4 post (nI s) U (na_f c) F G (na_f w) (na_f n) (na_f t) my tg wd (d + 1) (nI (up_f (cs_cl U s) b)) (nI b) := by
  intro d
  induction d with
  | zero =>
    intro b hb
    have e : b = 4 := by omega
    subst e
    exact pk_le 4 4 (fun _ => h) (fun z => by omega)
  | succ d ih =>
    intro b hb
    have ih' := ih (b + 1) (by omega)
    refine pk_le 4 b (fun z => by omega) (fun _ => y_at hs (by omega) (br_c (fun y => nm_r (e' := nI (up_f (cs_cl U s) (b + 1))) ?_ (nm_r (nI_1 b) ih')) (fun y => nm_r (e' := nI (up_f (cs_cl U s) (b + 1))) ?_ (nm_r (nI_1 b) ih'))))
    · show nI (up_f (cs_cl U s) b) ||| nI 0 = _
      rw [ss_or, up_f, (bi_z _).mp y]
      rfl
    · rw [ss_sh1 (by omega), ss_or, up_f, if_pos ((bi_o _).mp y)]
theorem y_up {post : Int32 → Prop} {s : Nat} (hs : s < 4) (h : post (nI (cs_cl U s))) : wpY_up post (U, na_f c, F, G, na_f w, na_f n, na_f t, my, tg, wd) (nI s) := by
  have h' : post (nI (up_f (cs_cl U s) 4)) := by
    rw [up_4 (cs_cl_lt hs)]
    exact h
  exact Exists.intro 5 (y_up_l hs h' 4 0 (by omega))
theorem y_sg {post : Int32 → Prop} {k m1 m2 : Nat} (hk : 6 ≤ k) (hk2 : k < 15) (h1 : m1 < 2 ^ 4) (h2 : m2 < 2 ^ 4) (h : post (nI (so_g G U m1 m2 64))) : ∀ d r, r + d = 64 → wY_sorts_157 post (nI k) (nI m1) (nI m2) U (na_f c) F G (na_f w) (na_f n) (na_f t) my tg wd (d + 1) (nI (so_g G U m1 m2 r)) (nI r) := by
  intro d
  induction d with
  | zero =>
    intro r hr
    have e : r = 64 := by omega
    subst e
    exact pk_le 64 64 (fun _ => h) (fun z => by omega)
  | succ d ih =>
    intro r hr
    have ih' := ih (r + 1) (by omega)
    refine pk_le 64 r (fun z => by omega) (fun _ => pk_lt k 6 (fun z => by omega) (fun _ => And.intro (vp_in_nI (by omega) (by decide)) ?_))
    rw [nI_clamp (n := r) (by omega), ix_r4 (r := r) (by omega), ix_d4 (r := r) (by omega), ix_r4 (r := r / 4) (by omega), ix_d16 (r := r) (by omega)]
    refine br_c (fun z => nm_r (nI_1 r) ?_) (fun z => And.intro (by decide) (ss_b1 m1 (r / 16) (fun y => And.intro (by decide) (And.intro (by decide) (ss_b1 m2 (r / 4 % 4) (fun y2 => And.intro (by decide) (y_up (by omega) (nm_r (e' := nI (so_g G U m1 m2 (r + 1))) ?_ (nm_r (nI_1 r) ih')))) (fun y2 => nm_r (nI_1 r) ?_)))) (fun y => nm_r (nI_1 r) ?_)))
    · rw [← so_g_0 (U := U) (m1 := m1) (m2 := m2) z]
      exact ih'
    · rw [ss_or, so_g_t z y y2]
    · rw [← so_g_d (G := G) (U := U) (m1 := m1) y2]
      exact ih'
    · rw [← so_g_b (G := G) (U := U) (m2 := m2) y]
      exact ih'
theorem y_sg0 {post : Int32 → Prop} {k : Nat} {x2 x3 x4 : Int32} (hk : k < 6) (h : post x4) : ∃ n157, wY_sorts_157 post (nI k) x2 x3 U (na_f c) F G (na_f w) (na_f n) (na_f t) my tg wd n157 x4 0 :=
  Exists.intro 1 (br_f (by decide) (pk_lt k 6 (fun _ => h) (fun z => by omega)))
theorem y_sf {post : Int32 → Prop} {k m1 : Nat} {x3 : Int32} (hk : 3 ≤ k) (hk2 : k < 6) (h1 : m1 < 2 ^ 4) (h : post (nI (so_f F U m1 16))) : ∀ d r, r + d = 16 → wY_sorts_90 post (nI k) (nI m1) x3 U (na_f c) F G (na_f w) (na_f n) (na_f t) my tg wd (d + 1) (nI (so_f F U m1 r)) (nI r) := by
  intro d
  induction d with
  | zero =>
    intro r hr
    have e : r = 16 := by omega
    subst e
    exact pk_le 16 16 (fun _ => y_sg0 hk2 h) (fun z => by omega)
  | succ d ih =>
    intro r hr
    have ih' := ih (r + 1) (by omega)
    refine pk_le 16 r (fun z => by omega) (fun _ => pk_lt k 3 (fun z => by omega) (fun _ => pk_le 6 k (fun z => by omega) (fun _ => And.intro (vp_in_nI (by omega) (by decide)) ?_)))
    rw [nI_clamp (n := r) (by omega), ix_r4 (r := r) (by omega), ix_d4 (r := r) (by omega)]
    refine br_c (fun z => nm_r (nI_1 r) ?_) (fun z => And.intro (by decide) (ss_b1 m1 (r / 4) (fun y => And.intro (by decide) (y_up (by omega) (nm_r (e' := nI (so_f F U m1 (r + 1))) ?_ (nm_r (nI_1 r) ih')))) (fun y => nm_r (nI_1 r) ?_)))
    · rw [← so_f_0 (U := U) (m := m1) z]
      exact ih'
    · rw [ss_or, so_f_t z y]
    · rw [← so_f_b (F := F) (U := U) y]
      exact ih'
theorem y_st {post : Int32 → Prop} {k : Nat} (hc : ∀ i, c i < 4) (hk : k < 15) (h : post (nI (so_t F G U c k))) : wpY_sorts post (U, na_f c, F, G, na_f w, na_f n, na_f t, my, tg, wd) (nI k) := by
  unfold wpY_sorts
  dsimp only
  unfold so_t at h
  refine br_f (nI_pos (by omega)) (pk_le k 14 (fun _ => pk_le 3 k (fun z => pk_le 6 k (fun z2 => And.intro (by decide) ?_) (fun z2 => ?_)) (fun z => ?_)) (fun z => by omega))
  · rw [if_neg (by omega), if_neg (by omega)] at h
    unfold wY_sorts_44
    rw [show nI k - 6 = nI (k - 6) from pk_sub (b := 6) z2, ix_r3 (by omega), ix_d3 (by omega), nI_clamp (n := (k - 6) / 3) (by omega), nI_clamp (n := (k - 6) % 3) (by omega)]
    refine And.intro (vp_in_nI (by omega) (by decide)) (y_up (s := c ((k - 6) / 3)) (hc _) (br_t (nI_le (a := 6) z2 (by omega)) (And.intro (by decide) (And.intro (vp_in_nI (by omega) (by decide)) (y_up (s := c ((k - 6) % 3)) (hc _) ?_)))))
    exact br_t (nI_le (a := 3) (by omega) (by omega)) (Exists.intro 1 (br_f (by decide) (br_f (nI_nlt (b := 3) (by omega) (by omega)) (br_t (nI_le (a := 6) z2 (by omega)) (Exists.intro 65 (y_sg z2 hk (cs_cl_lt (hc _)) (cs_cl_lt (hc _)) h 64 0 (by omega)))))))
  · rw [if_neg (by omega), if_pos z2] at h
    unfold wY_sorts_44
    rw [show nI k - 3 = nI (k - 3) from pk_sub (b := 3) z, nI_clamp (n := k - 3) (by omega)]
    exact And.intro (vp_in_nI (by omega) (by decide)) (y_up (s := c (k - 3)) (hc _) (br_f (nI_ge (b := 6) z2 (by decide)) (br_t (nI_le (a := 3) z (by omega)) (Exists.intro 17 (y_sf z z2 (cs_cl_lt (hc _)) h 16 0 (by omega))))))
  · rw [if_pos z] at h
    unfold wY_sorts_44
    rw [nI_clamp (n := k) (by omega)]
    exact And.intro (vp_in_nI (by omega) (by decide)) (y_up (s := c k) (hc _) (br_f (nI_ge (b := 6) (by omega) (by decide)) (br_f (nI_ge (b := 3) z (by decide)) (Exists.intro 1 (br_f (by decide) (br_t (nI_lt (b := 3) z (by decide)) (y_sg0 (by omega) h)))))))
end
end
section
/-! the reference: things, words, solving, counts -/
section
variable {F G U my tg wd : Nat → Int32} {c w t n g : Nat → Nat}
def ym_f (sx w : Nat → Nat) (k : Nat) : Nat → Int32 := fun v => nI (mf_f sx (w v) k)
theorem y_find_i {post : SY → Prop} {J : Int32 → (Nat → Int32) → (Nat → Int32) → (Nat → Int32) → (Nat → Int32) → (Nat → Int32) → (Nat → Int32) → (Nat → Int32) → (Nat → Int32) → (Nat → Int32) → (Nat → Int32) → Prop} {sx : Nat → Nat} {k : Nat} (hk : k < 15) (hw : ∀ i, w i < 4) (hsx : ∀ k, sx k < 2 ^ 4) (hmy : ∀ v, v < 3 → my v = ym_f sx w k v) (h : J (nI (k + 1)) U (na_f c) F G (na_f w) (na_f n) (na_f t) (pr_f my (ym_f sx w (k + 1)) 3) tg wd) : ∀ d v, v + d = 3 → wY_findThings_36 post J (nI k) (nI (sx k)) (d + 1) (nI v) U (na_f c) F G (na_f w) (na_f n) (na_f t) (pr_f my (ym_f sx w (k + 1)) v) tg wd := by
  intro d
  induction d with
  | zero =>
    intro v hv
    have e : v = 3 := by omega
    subst e
    exact pk_le 3 3 (fun _ => nm_r (nI_1 k) h) (fun z => by omega)
  | succ d ih =>
    intro v hv
    have ih' := ih (v + 1) (by omega)
    have h1 := hsx k
    have h2 := hw v
    refine pk_le 3 v (fun z => by omega) (fun _ => And.intro (vp_in_nI (by omega) (by decide)) (And.intro (vp_in_nI (by omega) (by decide)) (And.intro (vp_in_nI (by omega) (by decide)) (nm_r (e' := pr_f my (ym_f sx w (k + 1)) (v + 1)) ?_ (nm_r (nI_1 v) ih')))))
    have e1 : na_f w v = nI (w v) := rfl
    have e2 : (sx k / 2 ^ w v % 2) * 2 ^ k < 2 ^ 32 := Nat.lt_of_lt_of_le (mf_one _ _ _) (Nat.pow_le_pow_right (by decide) (by omega))
    rw [nI_clamp (n := v) (by omega), pr_o (Nat.le_refl v), hmy v (by omega), e1, ss_bit (by omega) (by omega), ss_shl (by omega) e2]
    rw [← pr_s my (ym_f sx w (k + 1)) v]
    unfold ym_f
    rw [ss_or]
    rfl
theorem y_find_o {post : SY → Prop} (hc : ∀ i, c i < 4) (hw : ∀ i, w i < 4) (h : ∀ my, (∀ v, v < 3 → my v = ym_f (so_t F G U c) w 15 v) → post (U, na_f c, F, G, na_f w, na_f n, na_f t, my, tg, wd)) : ∀ d k my, k + d = 15 → (∀ v, v < 3 → my v = ym_f (so_t F G U c) w k v) → wY_findThings_22 post (d + 1) (nI k) U (na_f c) F G (na_f w) (na_f n) (na_f t) my tg wd := by
  intro d
  induction d with
  | zero =>
    intro k my hk hmy
    have e : k = 15 := by omega
    subst e
    exact pk_le 15 15 (fun _ => h my hmy) (fun z => by omega)
  | succ d ih =>
    intro k my hk hmy
    refine pk_le 15 k (fun z => by omega) (fun _ => y_st hc (by omega) (Exists.intro 4 ?_))
    have q := y_find_i (U := U) (F := F) (G := G) (c := c) (t := t) (n := n) (tg := tg) (wd := wd) (post := post) (J := wY_findThings_22 post (d + 1)) (my := my) (k := k) (by omega) hw (so_t_lt hc) hmy (ih (k + 1) _ (by omega) (fun v hv => pr_i hv)) 3 0 (by omega)
    rw [pr_0] at q
    exact q
theorem y_find_z {post : SY → Prop} (hc : ∀ i, c i < 4) (hw : ∀ i, w i < 4) (h : ∀ my, (∀ v, v < 3 → my v = ym_f (so_t F G U c) w 15 v) → post (U, na_f c, F, G, na_f w, na_f n, na_f t, my, tg, wd)) : ∀ d v, v + d = 3 → wY_findThings_2 post (d + 1) (nI v) U (na_f c) F G (na_f w) (na_f n) (na_f t) (pr_f my (fun _ => 0) v) tg wd := by
  intro d
  induction d with
  | zero =>
    intro v hv
    have e : v = 3 := by omega
    subst e
    exact pk_le 3 3 (fun _ => Exists.intro 16 (y_find_o hc hw h 15 0 _ (by omega) (fun v hv => pr_i hv))) (fun z => by omega)
  | succ d ih =>
    intro v hv
    have ih' := ih (v + 1) (by omega)
    exact pk_le 3 v (fun z => by omega) (fun _ => And.intro (vp_in_nI (by omega) (by decide)) (nm_r (e' := pr_f my (fun _ => 0) (v + 1)) (by rw [nI_clamp (by omega)]; exact pr_s my (fun _ => 0) v) (nm_r (nI_1 v) ih')))
theorem y_find {post : SY → Prop} (hc : ∀ i, c i < 4) (hw : ∀ i, w i < 4) (h : ∀ my, (∀ v, v < 3 → my v = ym_f (so_t F G U c) w 15 v) → post (U, na_f c, F, G, na_f w, na_f n, na_f t, my, tg, wd)) : wpY_findThings post (U, na_f c, F, G, na_f w, na_f n, na_f t, my, tg, wd) := by
  have q := y_find_z (my := my) hc hw h 3 0 (by omega)
  rw [pr_0] at q
  exact Exists.intro 4 q
theorem y_wn {post : Int32 → SY → Prop} {J : Int32 → Int32 → (Nat → Int32) → (Nat → Int32) → (Nat → Int32) → (Nat → Int32) → (Nat → Int32) → (Nat → Int32) → (Nat → Int32) → (Nat → Int32) → (Nat → Int32) → (Nat → Int32) → Prop} {x1 x4 : Int32} {p k : Nat} (hp : p + 3 ≤ 60) (h : J (nI (p + 1)) (nI (k + 1)) U (na_f c) F G (na_f w) (na_f n) (na_f t) my tg (upd wd p x4)) : wY_write_49 post J x1 (nI p) (nI k) x4 (-1) U (na_f c) F G (na_f w) (na_f n) (na_f t) my tg wd := by
  refine br_f (by decide) (And.intro (vp_in_nI (by omega) (by decide)) (nm_r (e' := upd wd p x4) ?_ (nm_r (nI_1 p) (nm_r (nI_1 k) h))))
  rw [nI_clamp (by omega)]
theorem y_wt {post : Int32 → SY → Prop} {J : Int32 → Int32 → (Nat → Int32) → (Nat → Int32) → (Nat → Int32) → (Nat → Int32) → (Nat → Int32) → (Nat → Int32) → (Nat → Int32) → (Nat → Int32) → (Nat → Int32) → (Nat → Int32) → Prop} {x1 x4 : Int32} {p k y : Nat} (hp : p + 3 ≤ 60) (hy : y < 15) (h : J (nI (p + (wx_l y).length)) (nI (k + 1)) U (na_f c) F G (na_f w) (na_f n) (na_f t) my tg (ap_f wd p (wx_l y))) : wY_write_49 post J x1 (nI p) (nI k) x4 (nI y) U (na_f c) F G (na_f w) (na_f n) (na_f t) my tg wd := by
  refine br_t (nI_pos' (by omega)) (pk_le 3 y (fun z => pk_le 6 y (fun z2 => ?_) (fun z2 => ?_)) (fun z => ?_))
  · rw [wx_c z2] at h
    have e6 : nI y - 6 = nI (y - 6) := pk_sub (b := 6) z2
    refine And.intro (vp_in_nI (by omega) (by decide)) (nm_r (e' := upd wd p (nI 1)) (by rw [nI_clamp (by omega)]; rfl) ?_)
    refine And.intro (by decide) (And.intro (pk_in (p + 1) 60 (by omega) (nI_1 p)) (nm_r (e' := upd (upd wd p (nI 1)) (p + 1) (nI (2 + (y - 6) / 3))) (by rw [nI_1 p, nI_clamp (by omega), e6, ix_d3 (by omega), ← nI_add 2 ((y - 6) / 3)]; rfl) ?_))
    refine And.intro (by decide) (And.intro (pk_in (p + 2) 60 (by omega) (nI_add p 2)) (nm_r (e' := upd (upd (upd wd p (nI 1)) (p + 1) (nI (2 + (y - 6) / 3))) (p + 1 + 1) (nI (2 + (y - 6) % 3))) (by rw [show nI p + 2 = nI (p + 2) from nI_add p 2, nI_clamp (by omega), e6, ix_r3 (by omega), ← nI_add 2 ((y - 6) % 3)]; rfl) ?_))
    exact nm_r (nI_add p 3) (nm_r (nI_1 k) h)
  · rw [wx_b z z2] at h
    refine And.intro (vp_in_nI (by omega) (by decide)) (nm_r (e' := upd wd p (nI 0)) (by rw [nI_clamp (by omega)]; rfl) ?_)
    refine And.intro (pk_in (p + 1) 60 (by omega) (nI_1 p)) (nm_r (e' := upd (upd wd p (nI 0)) (p + 1) (nI (y - 1))) (by rw [nI_1 p, nI_clamp (by omega), show nI y - 1 = nI (y - 1) from pk_sub (b := 1) (by omega)]) ?_)
    exact nm_r (nI_add p 2) (nm_r (nI_1 k) h)
  · rw [wx_a z] at h
    refine And.intro (vp_in_nI (by omega) (by decide)) (nm_r (e' := upd wd p (nI (2 + y))) (by rw [nI_clamp (by omega), show (2 : Int32) + nI y = nI (2 + y) from nI_add 2 y]) ?_)
    exact nm_r (nI_1 p) (nm_r (nI_1 k) h)
theorem y_wr_l {post : Int32 → SY → Prop} {s : Nat} (hs : s < 2) (hn : n s ≤ 9) (ht : ∀ i, t i < 8) (htg : ∀ v, v < 3 → tg v = nI (g v)) (hg : ∀ v, g v < 15) (h : post (nI (wl_l t g s (n s)).length) (U, na_f c, F, G, na_f w, na_f n, na_f t, my, tg, ap_f wd (30 * s) (wl_l t g s (n s)))) : ∀ d k, k + d = n s → wY_write_7 post (nI s) (d + 1) (nI (30 * s + (wl_l t g s k).length)) (nI k) U (na_f c) F G (na_f w) (na_f n) (na_f t) my tg (ap_f wd (30 * s) (wl_l t g s k)) := by
  intro d
  induction d with
  | zero =>
    intro k hk
    refine And.intro (vp_in_nI hs (by decide)) ?_
    rw [nI_clamp (n := s) (by omega)]
    refine pk_le (n s) k (fun _ => ?_) (fun z => by omega)
    have e : k = n s := by omega
    subst e
    rw [show (30 : Int32) * nI s = nI (30 * s) from pk_mul 30 s, pk_sub (by omega), Nat.add_sub_cancel_left]
    exact h
  | succ d ih =>
    intro k hk
    have hts := ht (9 * s + k)
    have hl := wl_le t g s k
    have ih' := ih (k + 1) (by omega)
    refine And.intro (vp_in_nI hs (by decide)) ?_
    rw [nI_clamp (n := s) (by omega)]
    refine pk_le (n s) k (fun z => by omega) (fun _ => ?_)
    rw [ix_9]
    refine And.intro (vp_in_nI (by omega) (by decide)) (nm_r (e' := nI (t (9 * s + k))) (by rw [nI_clamp (by omega)]; rfl) ?_)
    refine pk_le 5 (t (9 * s + k)) (fun z => ?_) (fun z => ?_)
    · have e : wl_l t g s (k + 1) = wl_l t g s k ++ wx_l (g (t (9 * s + k) - 5)) := by
        show wl_l t g s k ++ wt_l g (t (9 * s + k)) = _
        rw [wt_l, if_neg (by omega)]
      rw [e, ap_app, List.length_append, ← Nat.add_assoc] at ih'
      rw [show nI (t (9 * s + k)) - 5 = nI (t (9 * s + k) - 5) from pk_sub (b := 5) z, nI_clamp (n := t (9 * s + k) - 5) (by omega), htg _ (by omega)]
      exact And.intro (vp_in_nI (by omega) (by decide)) (y_wt (by omega) (hg _) ih')
    · have e : wl_l t g s (k + 1) = wl_l t g s k ++ [t (9 * s + k)] := by
        show wl_l t g s k ++ wt_l g (t (9 * s + k)) = _
        rw [wt_l, if_pos z]
      rw [e, ap_app, List.length_append, ← Nat.add_assoc] at ih'
      exact y_wn (by omega) ih'
theorem y_wr {post : Int32 → SY → Prop} {s : Nat} (hs : s < 2) (hn : n s ≤ 9) (ht : ∀ i, t i < 8) (htg : ∀ v, v < 3 → tg v = nI (g v)) (hg : ∀ v, g v < 15) (h : post (nI (wl_l t g s (n s)).length) (U, na_f c, F, G, na_f w, na_f n, na_f t, my, tg, ap_f wd (30 * s) (wl_l t g s (n s)))) : wpY_write post (U, na_f c, F, G, na_f w, na_f n, na_f t, my, tg, wd) (nI s) := by
  unfold wpY_write
  dsimp only
  exact nm_r (e' := nI (30 * s)) (pk_mul 30 s) (Exists.intro (n s + 1) (y_wr_l hs hn ht htg hg h (n s) 0 (by omega)))
theorem y_sm_0 {post : Int32 → SY → Prop} {x2 x5 : Int32} (h : post 0 (U, na_f c, F, G, na_f w, na_f n, na_f t, my, tg, wd)) (d : Nat) : wY_solves_94 post x2 U (na_f c) F G (na_f w) (na_f n) (na_f t) my tg wd (d + 1) 0 x5 :=
  br_c (fun _ => And.intro (bi_n false) h) (fun _ => br_t rfl (And.intro (bi_n false) h))
theorem y_sm_l {post : Int32 → SY → Prop} {L M : List Nat} (hL : hd_p wd 0 L) (hM : hd_p wd 30 M) (zL : ∀ x, x ∈ L → x < 2 ^ 31) (zM : ∀ x, x ∈ M → x < 2 ^ 31) (hl : L.length ≤ 27) (e : L.length = M.length) (h : post (bi_b (decide (L = M))) (U, na_f c, F, G, na_f w, na_f n, na_f t, my, tg, wd)) : ∀ d k, k + d = L.length → (∀ j, j < k → wd (0 + j) = wd (30 + j)) → wY_solves_94 post (nI L.length) U (na_f c) F G (na_f w) (na_f n) (na_f t) my tg wd (d + 1) 1 (nI k) := by
  intro d
  induction d with
  | zero =>
    intro k hk ha
    have e1 : k = L.length := by omega
    subst e1
    rw [decide_eq_true (hd_eq hL hM zL zM e ha)] at h
    exact pk_le L.length L.length (fun _ => And.intro (bi_n true) h) (fun z => by omega)
  | succ d ih =>
    intro k hk ha
    refine pk_le L.length k (fun z => by omega) (fun _ => br_f (by decide) (And.intro (vp_in_nI (by omega) (by decide)) ?_))
    rw [show (30 : Int32) + nI k = nI (30 + k) from nI_add 30 k, nI_clamp (n := k) (by omega), nI_clamp (n := 30 + k) (by omega)]
    refine And.intro (vp_in_nI (by omega) (by decide)) (br_c (fun z => nm_r (nI_1 k) (ih (k + 1) (by omega) (lt_s ha (by rw [Nat.zero_add]; exact z)))) (fun z => nm_e (y_sm_0 ?_ d)))
    rw [decide_eq_false (hd_ne (j := k) hL hM (by omega) (by rw [Nat.zero_add]; exact z))] at h
    exact h
theorem y_sm {post : Int32 → SY → Prop} (hn : ∀ s, n s ≤ 9) (ht : ∀ i, t i < 8) (htg : ∀ v, v < 3 → tg v = nI (g v)) (hg : ∀ v, g v < 15) (h : ∀ wd', post (bi_b (sm_b t n g)) (U, na_f c, F, G, na_f w, na_f n, na_f t, my, tg, wd')) : wpY_write (fun r_12 u => match u with | (U, C, F, G, V, N, T, my, tg, wd) => wpY_write (fun r_23 u => match u with | (U, C, F, G, V, N, T, my, tg, wd) => ((r_12 = r_23 → (∃ n94 : Nat, wY_solves_94 post r_12 U C F G V N T my tg wd n94 1 0)) ∧ (¬ r_12 = r_23 → (∃ n94 : Nat, wY_solves_94 post r_12 U C F G V N T my tg wd n94 0 0)))) (U, C, F, G, V, N, T, my, tg, wd) 1) (U, na_f c, F, G, na_f w, na_f n, na_f t, my, tg, wd) 0 := by
  refine y_wr (s := 0) (by decide) (hn 0) ht htg hg (y_wr (s := 1) (by decide) (hn 1) ht htg hg ?_)
  have h0 := wl_le t g 0 (n 0)
  have h1 := wl_le t g 1 (n 1)
  have k0 := hn 0
  have k1 := hn 1
  have hh := h (ap_f (ap_f wd (30 * 0) (wl_l t g 0 (n 0))) (30 * 1) (wl_l t g 1 (n 1)))
  refine pk_eq (wl_l t g 0 (n 0)).length (wl_l t g 1 (n 1)).length (fun z => Exists.intro ((wl_l t g 0 (n 0)).length + 1) ?_) (fun z => Exists.intro 1 (y_sm_0 ?_ 0))
  · exact y_sm_l (L := wl_l t g 0 (n 0)) (M := wl_l t g 1 (n 1)) (hd_lo (by omega)) hd_hi (wl_small hg ht _) (wl_small hg ht _) (by omega) z hh _ 0 (by omega) lt_0
  · unfold sm_b at hh
    rw [decide_eq_false (fun e => z (congrArg List.length e))] at hh
    exact hh
theorem y_sv_l {post : Int32 → SY → Prop} {sx : Nat → Nat} (hn : ∀ s, n s ≤ 9) (ht : ∀ i, t i < 8) (htg : ∀ v, v < 3 → tg v = nI (g v)) (hg : ∀ v, g v < 15) (hmy : ∀ v, v < 3 → my v = ym_f sx w 15 v) (h : ∀ wd', post (bi_b (hs_b sx g w 3 && sm_b t n g)) (U, na_f c, F, G, na_f w, na_f n, na_f t, my, tg, wd')) : ∀ d v, v + d = 3 → hs_b sx g w v = true → wY_solves_36 post U (na_f c) F G (na_f w) (na_f n) (na_f t) my tg wd (d + 1) (nI v) := by
  intro d
  induction d with
  | zero =>
    intro v hv hb
    have e : v = 3 := by omega
    subst e
    rw [hb] at h
    exact pk_le 3 3 (fun _ => y_sm hn ht htg hg h) (fun z => by omega)
  | succ d ih =>
    intro v hv hb
    have h1 := hg v
    have h2 := mf_lt sx (w v) 15
    refine pk_le 3 v (fun z => by omega) (fun _ => And.intro (vp_in_nI (by omega) (by decide)) (And.intro (vp_in_nI (by omega) (by decide)) ?_))
    rw [nI_clamp (n := v) (by omega), htg v (by omega), hmy v (by omega)]
    refine ss_b0 (mf_f sx (w v) 15) (g v) (fun y => ?_) (fun y => nm_r (nI_1 v) (ih (v + 1) (by omega) (hs_s hb ?_)))
    · rw [mf_bit sx (w v) 15 (g v) h1] at y
      have hh := h wd
      rw [hs_f y 3 (by omega)] at hh
      exact hh
    · rw [mf_bit sx (w v) 15 (g v) h1] at y
      exact y
theorem y_solves {post : Int32 → SY → Prop} {sx : Nat → Nat} {i : Nat} (hi : i < 3375) (hn : ∀ s, n s ≤ 9) (ht : ∀ i, t i < 8) (hmy : ∀ v, v < 3 → my v = ym_f sx w 15 v) (h : ∀ tg wd, (∀ v, v < 3 → tg v = nI (dg_f i v)) → post (bi_b (sv_b sx w t n i)) (U, na_f c, F, G, na_f w, na_f n, na_f t, my, tg, wd)) : wpY_solves post (U, na_f c, F, G, na_f w, na_f n, na_f t, my, tg, wd) (nI i) := by
  unfold wpY_solves
  dsimp only
  refine And.intro (by decide) (nm_r (e' := upd tg 0 (nI (i / 225))) (by rw [ix_d225 (by omega)]) (And.intro (by decide) (And.intro (by decide) (nm_r (e' := upd (upd tg 0 (nI (i / 225))) 1 (nI (i / 15 % 15))) (by rw [ix_d15 (r := i) (by omega), ix_r15 (r := i / 15) (by omega)]) (And.intro (by decide) (nm_r (e' := upd (upd (upd tg 0 (nI (i / 225))) 1 (nI (i / 15 % 15))) 2 (nI (i % 15))) (by rw [ix_r15 (r := i) (by omega)]) (Exists.intro 4 ?_)))))))
  have htg : ∀ v, v < 3 → upd (upd (upd tg 0 (nI (i / 225))) 1 (nI (i / 15 % 15))) 2 (nI (i % 15)) v = nI (dg_f i v) := by
    intro v hv
    rcases (by omega : v = 0 ∨ v = 1 ∨ v = 2) with e | e | e <;> subst e <;> rfl
  exact y_sv_l hn ht htg (dg_lt hi) hmy (fun wd' => h _ wd' htg) 3 0 (by omega) rfl
end
end
section
/-! the reference: counts; guards of both -/
section
variable {F G U my tg wd : Nat → Int32} {c w t n : Nat → Nat}
theorem y_cnt_w {post : Int32 → SY → Prop} {sx : Nat → Nat} {Q : Nat → Bool} {v k : Nat} (hv : v < 3) (hk : k < 15) (hn : ∀ s, n s ≤ 9) (ht : ∀ i, t i < 8) (hmy : ∀ v, v < 3 → my v = ym_f sx w 15 v) (hQ : ∀ j, Q j = (sv_b sx w t n j && decide (dg_f j v = k))) (h : ∀ tg wd, post (cn_f Q 3375) (U, na_f c, F, G, na_f w, na_f n, na_f t, my, tg, wd)) : ∀ d i tg wd, i + d = 3375 → wY_count_28 post (nI v) (nI k) (nI v) (d + 1) (cn_f Q i) (nI i) U (na_f c) F G (na_f w) (na_f n) (na_f t) my tg wd := by
  intro d
  induction d with
  | zero =>
    intro i tg wd hi
    have e : i = 3375 := by omega
    subst e
    exact pk_le 3375 3375 (fun _ => h tg wd) (fun z => by omega)
  | succ d ih =>
    intro i tg wd hi
    have hi' : i < 3375 := by omega
    have hd := dg_lt hi' v
    refine pk_le 3375 i (fun z => by omega) (fun _ => y_solves hi' hn ht hmy (fun tg' wd' htg => ?_))
    have ih' := ih (i + 1) tg' wd' (by omega)
    refine br_c (fun y => nm_r (nI_1 i) ?_) (fun y => br_f (nI_pos (by omega)) (And.intro (vp_in_nI hv (by decide)) ?_))
    · rw [← cn_n (P := Q) (by rw [hQ, (bi_z _).mp y]; rfl)]
      exact ih'
    · rw [nI_clamp (n := v) (by omega), htg v hv]
      refine pk_eq (dg_f i v) k (fun z => And.intro (vp_in_nI hv (by decide)) (And.intro (vp_in_nI hv (by decide)) (br_t rfl (nm_r (cn_t ?_).symm (nm_r (nI_1 i) ih'))))) (fun z => nm_r (nI_1 i) ?_)
      · rw [hQ, (bi_o _).mp y, decide_eq_true z]
        rfl
      · rw [← cn_n (P := Q) (by rw [hQ, decide_eq_false z, Bool.and_false])]
        exact ih'
theorem y_cnt_a {post : Int32 → SY → Prop} {sx : Nat → Nat} {Q : Nat → Bool} {v k : Nat} (hv : v < 3) (hk : k < 3) (hn : ∀ s, n s ≤ 9) (ht : ∀ i, t i < 8) (hmy : ∀ v, v < 3 → my v = ym_f sx w 15 v) (hQ : ∀ j, Q j = (sv_b sx w t n j && decide (dg_f j v = dg_f j k))) (h : ∀ tg wd, post (cn_f Q 3375) (U, na_f c, F, G, na_f w, na_f n, na_f t, my, tg, wd)) : ∀ d i tg wd, i + d = 3375 → wY_count_28 post (nI v) (-1) (nI k) (d + 1) (cn_f Q i) (nI i) U (na_f c) F G (na_f w) (na_f n) (na_f t) my tg wd := by
  intro d
  induction d with
  | zero =>
    intro i tg wd hi
    have e : i = 3375 := by omega
    subst e
    exact pk_le 3375 3375 (fun _ => h tg wd) (fun z => by omega)
  | succ d ih =>
    intro i tg wd hi
    have hi' : i < 3375 := by omega
    have hd := dg_lt hi' v
    have hd2 := dg_lt hi' k
    refine pk_le 3375 i (fun z => by omega) (fun _ => y_solves hi' hn ht hmy (fun tg' wd' htg => ?_))
    have ih' := ih (i + 1) tg' wd' (by omega)
    refine br_c (fun y => nm_r (nI_1 i) ?_) (fun y => br_t (by decide) (And.intro (vp_in_nI hv (by decide)) (And.intro (vp_in_nI hk (by decide)) ?_)))
    · rw [← cn_n (P := Q) (by rw [hQ, (bi_z _).mp y]; rfl)]
      exact ih'
    · rw [nI_clamp (n := v) (by omega), nI_clamp (n := k) (by omega), htg v hv, htg k hk]
      refine pk_eq (dg_f i v) (dg_f i k) (fun z => nm_r (cn_t ?_).symm (nm_r (nI_1 i) ih')) (fun z => nm_r (nI_1 i) ?_)
      · rw [hQ, (bi_o _).mp y, decide_eq_true z]
        rfl
      · rw [← cn_n (P := Q) (by rw [hQ, decide_eq_false z, Bool.and_false])]
        exact ih'
theorem y_fst_l {post : Int32 → SY → Prop} {sx : Nat → Nat} {v : Nat} (hv : v < 3) (hn : ∀ s, n s ≤ 9) (ht : ∀ i, t i < 8) (hmy : ∀ v, v < 3 → my v = ym_f sx w 15 v) : ∀ d i tg wd, i + d = 3375 → (∀ tg wd, post (fd_f (sv_b sx w t n) (fun i => dg_f i v) d i) (U, na_f c, F, G, na_f w, na_f n, na_f t, my, tg, wd)) → wY_first_33 post (nI v) (d + 1) (nI i) U (na_f c) F G (na_f w) (na_f n) (na_f t) my tg wd := by
  intro d
  induction d with
  | zero =>
    intro i tg wd hi h
    have e : i = 3375 := by omega
    subst e
    exact pk_le 3375 3375 (fun _ => h tg wd) (fun z => by omega)
  | succ d ih =>
    intro i tg wd hi h
    have hi' : i < 3375 := by omega
    refine pk_le 3375 i (fun z => by omega) (fun _ => y_solves hi' hn ht hmy (fun tg' wd' htg => br_c (fun y => nm_r (nI_1 i) (ih (i + 1) tg' wd' (by omega) (fun tg wd => ?_))) (fun y => And.intro (vp_in_nI hv (by decide)) ?_)))
    · have hh := h tg wd
      rw [fd_n ((bi_z _).mp y)] at hh
      exact hh
    · have hh := h tg' wd'
      rw [fd_t ((bi_o _).mp y)] at hh
      rw [nI_clamp (n := v) (by omega), htg v hv]
      exact hh
theorem y_val_l {post : Int32 → SY → Prop} {sx : Nat → Nat} {v : Nat} (hv : v < 3) (hn : ∀ s, n s ≤ 9) (ht : ∀ i, t i < 8) (hmy : ∀ v, v < 3 → my v = ym_f sx w 15 v) (h : ∀ tg wd, post (vs_f (sv_b sx w t n) (fun i => dg_f i v) 3375) (U, na_f c, F, G, na_f w, na_f n, na_f t, my, tg, wd)) : ∀ d i tg wd, i + d = 3375 → wY_values_35 post (nI v) (d + 1) (vs_f (sv_b sx w t n) (fun i => dg_f i v) i) (nI i) U (na_f c) F G (na_f w) (na_f n) (na_f t) my tg wd := by
  intro d
  induction d with
  | zero =>
    intro i tg wd hi
    have e : i = 3375 := by omega
    subst e
    exact pk_le 3375 3375 (fun _ => h tg wd) (fun z => by omega)
  | succ d ih =>
    intro i tg wd hi
    have hi' : i < 3375 := by omega
    refine pk_le 3375 i (fun z => by omega) (fun _ => y_solves hi' hn ht hmy (fun tg' wd' htg => ?_))
    have ih' := ih (i + 1) tg' wd' (by omega)
    refine br_c (fun y => nm_r (nI_1 i) ?_) (fun y => And.intro (vp_in_nI hv (by decide)) (nm_r (e' := vs_f (sv_b sx w t n) (fun i => dg_f i v) (i + 1)) ?_ (nm_r (nI_1 i) ih')))
    · rw [← vs_n (d := fun i => dg_f i v) ((bi_z _).mp y)]
      exact ih'
    · rw [nI_clamp (n := v) (by omega), htg v hv]
      exact (vs_t (d := fun i => dg_f i v) ((bi_o _).mp y)).symm
theorem y_count_w {post : Int32 → SY → Prop} {Q : Nat → Bool} {v k : Nat} (hv : v < 3) (hk : k < 15) (hc : ∀ i, c i < 4) (hw : ∀ i, w i < 4) (hn : ∀ s, n s ≤ 9) (ht : ∀ i, t i < 8) (hQ : ∀ j, Q j = (wh_b t n 0 && wh_b t n 1 && sv_b (so_t F G U c) w t n j && decide (dg_f j v = k))) (h : ∀ my tg wd, post (cn_f Q 3375) (U, na_f c, F, G, na_f w, na_f n, na_f t, my, tg, wd)) : wpY_count post (U, na_f c, F, G, na_f w, na_f n, na_f t, my, tg, wd) (nI v) (nI k) (nI v) := by
  unfold wpY_count
  dsimp only
  refine y_whole (s := 0) (by decide) (hn 0) ht (br_c (fun y => ?_) (fun y => y_whole (s := 1) (by decide) (hn 1) ht (br_c (fun y1 => ?_) (fun y1 => y_find hc hw (fun my hmy => ?_)))))
  · have hh := h my tg wd
    rw [cn_0 3375 (fun i _ => by rw [hQ, (bi_z _).mp y]; rfl)] at hh
    exact hh
  · have hh := h my tg wd
    rw [cn_0 3375 (fun i _ => by rw [hQ, (bi_z _).mp y1, Bool.and_false]; rfl)] at hh
    exact hh
  · exact Exists.intro 3376 (y_cnt_w hv hk hn ht hmy (fun j => by rw [hQ, (bi_o _).mp y, (bi_o _).mp y1]; rfl) (h my) 3375 0 tg wd (by omega))
theorem y_count_a {post : Int32 → SY → Prop} {Q : Nat → Bool} {v k : Nat} (hv : v < 3) (hk : k < 3) (hc : ∀ i, c i < 4) (hw : ∀ i, w i < 4) (hn : ∀ s, n s ≤ 9) (ht : ∀ i, t i < 8) (hQ : ∀ j, Q j = (wh_b t n 0 && wh_b t n 1 && sv_b (so_t F G U c) w t n j && decide (dg_f j v = dg_f j k))) (h : ∀ my tg wd, post (cn_f Q 3375) (U, na_f c, F, G, na_f w, na_f n, na_f t, my, tg, wd)) : wpY_count post (U, na_f c, F, G, na_f w, na_f n, na_f t, my, tg, wd) (nI v) (-1) (nI k) := by
  unfold wpY_count
  dsimp only
  refine y_whole (s := 0) (by decide) (hn 0) ht (br_c (fun y => ?_) (fun y => y_whole (s := 1) (by decide) (hn 1) ht (br_c (fun y1 => ?_) (fun y1 => y_find hc hw (fun my hmy => ?_)))))
  · have hh := h my tg wd
    rw [cn_0 3375 (fun i _ => by rw [hQ, (bi_z _).mp y]; rfl)] at hh
    exact hh
  · have hh := h my tg wd
    rw [cn_0 3375 (fun i _ => by rw [hQ, (bi_z _).mp y1, Bool.and_false]; rfl)] at hh
    exact hh
  · exact Exists.intro 3376 (y_cnt_a hv hk hn ht hmy (fun j => by rw [hQ, (bi_o _).mp y, (bi_o _).mp y1]; rfl) (h my) 3375 0 tg wd (by omega))
theorem sv_w {b0 b1 : Bool} {P : Nat → Bool} (h0 : b0 = true) (h1 : b1 = true) : (fun j => b0 && b1 && P j) = P := by
  funext j
  rw [h0, h1]
  rfl
theorem y_fst {post : Int32 → SY → Prop} {v : Nat} (hv : v < 3) (hc : ∀ i, c i < 4) (hw : ∀ i, w i < 4) (hn : ∀ s, n s ≤ 9) (ht : ∀ i, t i < 8) (h : ∀ my tg wd, post (fd_f (fun j => wh_b t n 0 && wh_b t n 1 && sv_b (so_t F G U c) w t n j) (fun i => dg_f i v) 3375 0) (U, na_f c, F, G, na_f w, na_f n, na_f t, my, tg, wd)) : wpY_first post (U, na_f c, F, G, na_f w, na_f n, na_f t, my, tg, wd) (nI v) := by
  unfold wpY_first
  dsimp only
  refine y_whole (s := 0) (by decide) (hn 0) ht (br_c (fun y => ?_) (fun y => y_whole (s := 1) (by decide) (hn 1) ht (br_c (fun y1 => ?_) (fun y1 => br_f (nI_pos (by omega)) (pk_le v 2 (fun _ => y_find hc hw (fun my hmy => ?_)) (fun z => by omega))))))
  · have hh := h my tg wd
    rw [fd_0 (fun i _ => by rw [(bi_z _).mp y]; rfl) 3375 0 rfl] at hh
    exact hh
  · have hh := h my tg wd
    rw [fd_0 (fun i _ => by rw [(bi_z _).mp y1, Bool.and_false]; rfl) 3375 0 rfl] at hh
    exact hh
  · rw [sv_w ((bi_o _).mp y) ((bi_o _).mp y1)] at h
    exact Exists.intro 3376 (y_fst_l hv hn ht hmy 3375 0 tg wd (by omega) (h my))
theorem y_val {post : Int32 → SY → Prop} {v : Nat} (hv : v < 3) (hc : ∀ i, c i < 4) (hw : ∀ i, w i < 4) (hn : ∀ s, n s ≤ 9) (ht : ∀ i, t i < 8) (h : ∀ my tg wd, post (vs_f (fun j => wh_b t n 0 && wh_b t n 1 && sv_b (so_t F G U c) w t n j) (fun i => dg_f i v) 3375) (U, na_f c, F, G, na_f w, na_f n, na_f t, my, tg, wd)) : wpY_values post (U, na_f c, F, G, na_f w, na_f n, na_f t, my, tg, wd) (nI v) := by
  unfold wpY_values
  dsimp only
  refine y_whole (s := 0) (by decide) (hn 0) ht (br_c (fun y => ?_) (fun y => y_whole (s := 1) (by decide) (hn 1) ht (br_c (fun y1 => ?_) (fun y1 => br_f (nI_pos (by omega)) (pk_le v 2 (fun _ => y_find hc hw (fun my hmy => ?_)) (fun z => by omega))))))
  · have hh := h my tg wd
    rw [vs_0 3375 (fun i _ => by rw [(bi_z _).mp y]; rfl)] at hh
    exact hh
  · have hh := h my tg wd
    rw [vs_0 3375 (fun i _ => by rw [(bi_z _).mp y1, Bool.and_false]; rfl)] at hh
    exact hh
  · rw [sv_w ((bi_o _).mp y) ((bi_o _).mp y1)] at h
    exact Exists.intro 3376 (y_val_l hv hn ht hmy (h my) 3375 0 tg wd (by omega))
theorem y_first0 {post : Int32 → SY → Prop} {x : Int32} (hx : x < 0 ∨ nI 3 ≤ x) (hn : ∀ s, n s ≤ 9) (ht : ∀ i, t i < 8) (h : post (-1) (U, na_f c, F, G, na_f w, na_f n, na_f t, my, tg, wd)) : wpY_first post (U, na_f c, F, G, na_f w, na_f n, na_f t, my, tg, wd) x := by
  unfold wpY_first
  dsimp only
  refine y_whole (s := 0) (by decide) (hn 0) ht (br_c (fun y => h) (fun y => y_whole (s := 1) (by decide) (hn 1) ht (br_c (fun y1 => h) (fun y1 => ?_))))
  rcases hx with z | z
  · exact br_t z h
  · exact br_f (oo_nn z (by decide)) (br_f (oo_nle (a := 2) z (by decide) (by decide)) h)
theorem y_values0 {post : Int32 → SY → Prop} {x : Int32} (hx : x < 0 ∨ nI 3 ≤ x) (hn : ∀ s, n s ≤ 9) (ht : ∀ i, t i < 8) (h : post 0 (U, na_f c, F, G, na_f w, na_f n, na_f t, my, tg, wd)) : wpY_values post (U, na_f c, F, G, na_f w, na_f n, na_f t, my, tg, wd) x := by
  unfold wpY_values
  dsimp only
  refine y_whole (s := 0) (by decide) (hn 0) ht (br_c (fun y => h) (fun y => y_whole (s := 1) (by decide) (hn 1) ht (br_c (fun y1 => h) (fun y1 => ?_))))
  rcases hx with z | z
  · exact br_t z h
  · exact br_f (oo_nn z (by decide)) (br_f (oo_nle (a := 2) z (by decide) (by decide)) h)
theorem x_sort {post : Int32 → Prop} {s : Nat} (hs : s < 4) (h : post 1) : wpX_isSort post (nI s) := br_f (nI_pos (by omega)) (pk_le 4 s (fun z => by omega) (fun _ => h))
theorem x_var {post : Int32 → Prop} {s : Nat} (hs : s < 3) (h : post 1) : wpX_isVariable post (nI s) := br_f (nI_pos (by omega)) (pk_le 3 s (fun z => by omega) (fun _ => h))
theorem x_side {post : Int32 → Prop} {s : Nat} (hs : s < 2) (h : post 1) : wpX_isSide post (nI s) := br_f (nI_pos (by omega)) (pk_le 2 s (fun z => by omega) (fun _ => h))
theorem x_isth {post : Int32 → Prop} {s : Nat} (hs : s < 15) (h : post 1) : wpX_isThing post (nI s) := br_f (nI_pos (by omega)) (pk_le 15 s (fun z => by omega) (fun _ => h))
theorem x_sort0 {post : Int32 → Prop} {x : Int32} (hx : x < 0 ∨ nI 4 ≤ x) (h : post 0) : wpX_isSort post x := by
  rcases hx with z | z
  · exact br_t z h
  · exact br_f (oo_nn z (by decide)) (br_t z h)
theorem x_var0 {post : Int32 → Prop} {x : Int32} (hx : x < 0 ∨ nI 3 ≤ x) (h : post 0) : wpX_isVariable post x := by
  rcases hx with z | z
  · exact br_t z h
  · exact br_f (oo_nn z (by decide)) (br_t z h)
theorem x_side0 {post : Int32 → Prop} {x : Int32} (hx : x < 0 ∨ nI 2 ≤ x) (h : post 0) : wpX_isSide post x := by
  rcases hx with z | z
  · exact br_t z h
  · exact br_f (oo_nn z (by decide)) (br_t z h)
theorem x_isth0 {post : Int32 → Prop} {x : Int32} (hx : x < 0 ∨ nI 15 ≤ x) (h : post 0) : wpX_isThing post x := by
  rcases hx with z | z
  · exact br_t z h
  · exact br_f (oo_nn z (by decide)) (br_t z h)
end
end
section
/-! the relation and what is owed -/
section
variable {A F G U th ch rp so my tg wd : Nat → Int32} {c w t n : Nat → Nat}
theorem x_leads1 {post : Int32 → Prop} {a b m : Nat} (hAa : A a = nI m) (hm : m < 2 ^ 4) (ha : a < 4) (hb : b < 4) (h : post (bi_b (m.testBit b))) : wpX_leadsTo post (A, na_f c, na_f w, F, G, na_f t, na_f n, th, ch, rp, so) (nI a) (nI b) := by
  refine And.intro (vp_in_nI ha (by decide)) ?_
  rw [nI_clamp (by omega), hAa]
  exact x_holds (by omega) (by omega) ⟨bi_n _, h⟩
def nu_f (U : Nat → Int32) (a b : Nat) : Nat → Int32 := fun s => nI (cs_cl (upd U (4 * a + b) 1) s)
theorem x_below_l {post : Int32 → SX → Prop} {a b : Nat} (hA : ∀ s, s < 4 → A s = nI (cs_cl U s)) (ha : a < 4) (hb : b < 4) (hno : (cs_cl U b).testBit a = false) (h : post 1 (pr_f A (nu_f U a b) 4, na_f c, na_f w, F, G, na_f t, na_f n, th, ch, rp, so)) : ∀ d s, s + d = 4 → wX_below_27 post (nI a) (nI b) (d + 1) (nI s) (pr_f A (nu_f U a b) s) (na_f c) (na_f w) F G (na_f t) (na_f n) th ch rp so := by
  intro d
  induction d with
  | zero =>
    intro s hs
    have e : s = 4 := by omega
    subst e
    exact pk_le 4 4 (fun _ => h) (fun z => by omega)
  | succ d ih =>
    intro s hs
    have hs' : s < 4 := by omega
    have ih' := ih (s + 1) (by omega)
    have es : pr_f A (nu_f U a b) s s = nI (cs_cl U s) := by
      rw [pr_o (Nat.le_refl s), hA s hs']
    have eb : pr_f A (nu_f U a b) s b = nI (cs_cl U b) := by
      by_cases z : b < s
      · rw [pr_i z]
        unfold nu_f
        rw [cs_new (by decide) ha hb hb, hno, if_neg (by decide)]
      · rw [pr_o (by omega), hA b hb]
    refine pk_le 4 s (fun z => by omega) (fun _ => x_leads1 es (cs_cl_lt hs') hs' ha (br_c (fun y => nm_r (nI_1 s) ?_) (fun y => ?_)))
    · have e1 : A s = nu_f U a b s := by
        unfold nu_f
        rw [cs_new (by decide) ha hb hs', (bi_z _).mp y, if_neg (by decide), hA s hs']
      rw [← pr_e e1]
      exact ih'
    · have e1 : nI (cs_cl U s ||| cs_cl U b) = nu_f U a b s := by
        unfold nu_f
        rw [cs_new (by decide) ha hb hs', if_pos ((bi_o _).mp y)]
      refine And.intro (vp_in_nI hs' (by decide)) (And.intro (vp_in_nI hb (by decide)) (And.intro (vp_in_nI hs' (by decide)) (nm_r (e' := pr_f A (nu_f U a b) (s + 1)) ?_ (nm_r (nI_1 s) ih'))))
      rw [nI_clamp (n := s) (by omega), nI_clamp (n := b) (by omega), es, eb, ss_or, e1, pr_s]
theorem x_init_l {post : SX → Prop} {C V T N : Nat → Int32} (h : post (pr_f A (fun s => nI (2 ^ s)) 4, C, V, F, G, T, N, th, ch, rp, so)) : ∀ d s, s + d = 4 → wX_init_90 post (d + 1) (nI s) (pr_f A (fun s => nI (2 ^ s)) s) C V F G T N th ch rp so := by
  intro d
  induction d with
  | zero =>
    intro s hs
    have e : s = 4 := by omega
    subst e
    exact pk_le 4 4 (fun _ => h) (fun z => by omega)
  | succ d ih =>
    intro s hs
    have ih' := ih (s + 1) (by omega)
    exact pk_le 4 s (fun z => by omega) (fun _ => And.intro (vp_in_nI (by omega) (by decide)) (nm_r (e' := pr_f A (fun s => nI (2 ^ s)) (s + 1)) (by rw [nI_clamp (by omega), ss_sh1 (by omega)]; exact pr_s A (fun s => nI (2 ^ s)) s) (nm_r (nI_1 s) ih')))
/-- the constants' and variables' sorts, ranks, tokens and counts are the same on both sides; the class's sets are the closures of the reference's pairs -/
def i_Rel (_ : Nat) (u : SX) (v : SY) : Prop := ∃ (A F G U th ch rp so my tg wd : Nat → Int32) (c w t n : Nat → Nat), u = (A, na_f c, na_f w, F, G, na_f t, na_f n, th, ch, rp, so) ∧ v = (U, na_f c, F, G, na_f w, na_f n, na_f t, my, tg, wd) ∧ (∀ s, s < 4 → A s = nI (cs_cl U s)) ∧ (∀ i, c i < 4) ∧ (∀ i, w i < 4) ∧ (∀ i, t i < 8) ∧ (∀ s, n s ≤ 9)
theorem i_mk {k : Nat} (hA : ∀ s, s < 4 → A s = nI (cs_cl U s)) (hc : ∀ i, c i < 4) (hw : ∀ i, w i < 4) (ht : ∀ i, t i < 8) (hn : ∀ s, n s ≤ 9) : i_Rel k (A, na_f c, na_f w, F, G, na_f t, na_f n, th, ch, rp, so) (U, na_f c, F, G, na_f w, na_f n, na_f t, my, tg, wd) := ⟨A, F, G, U, th, ch, rp, so, my, tg, wd, c, w, t, n, rfl, rfl, hA, hc, hw, ht, hn⟩
end
theorem i_up {k : Nat} {u : SX} {v : SY} (h : i_Rel k u v) : i_Rel (k + 5) u v := h
theorem i_vc0 : wpX_init (fun u => wpY_init (fun v => i_Rel 0 u v)) := by
  have q := x_init_l (post := fun u => wpY_init (fun v => i_Rel 0 u v)) (A := fun _ => 0) (F := fun _ => 0) (G := fun _ => 0) (th := fun _ => 0) (ch := fun _ => 0) (rp := fun _ => 0) (so := fun _ => 0) (C := fun _ => 0) (V := fun _ => 0) (T := fun _ => 0) (N := fun _ => 0) (by
    show i_Rel 0 _ _
    exact ⟨_, _, _, fun _ => 0, _, _, _, _, _, _, _, fun _ => 0, fun _ => 0, fun _ => 0, fun _ => 0, rfl, rfl, fun s hs => by rw [pr_i hs, cs_0 (fun _ => rfl)], fun _ => (by decide : 0 < 4), fun _ => (by decide : 0 < 4), fun _ => (by decide : 0 < 8), fun _ => (by decide : 0 ≤ 9)⟩) 4 0 (by omega)
  rw [pr_0] at q
  exact Exists.intro 5 q
theorem i_vc_below {k : Nat} {u : SX} {v : SY} (I : i_Rel k u v) (hk : k + 5 ≤ 2560) (v1 : Int32) (v2 : Int32) : wpX_below (fun r u' => wpY_below (fun r' v' => r' = r ∧ i_Rel (k + 5) u' v') v v1 v2) u v1 v2 := by
  obtain ⟨A, F, G, U, th, ch, rp, so, my, tg, wd, c, w, t, n, rfl, rfl, hA, hc, hw, ht, hn⟩ := I
  unfold wpX_below wpY_below
  dsimp only
  rcases oo_ix v1 4 (by decide) with h1 | ⟨a, ha, rfl⟩
  · exact x_sort0 h1 (br_t rfl (y_sort0 h1 (br_t rfl ⟨rfl, i_mk hA hc hw ht hn⟩)))
  · refine x_sort ha (br_f (by decide) ?_)
    rcases oo_ix v2 4 (by decide) with h2 | ⟨b, hb, rfl⟩
    · exact x_sort0 h2 (br_t rfl (y_sort ha (br_f (by decide) (y_sort0 h2 (br_t rfl ⟨rfl, i_mk hA hc hw ht hn⟩)))))
    · refine x_sort hb (br_f (by decide) (x_leads hA hb ha (br_c (fun y => Exists.intro 5 ?_) (fun y => y_sort ha (br_f (by decide) (y_sort hb (br_f (by decide) (y_at hb ha (br_f y ⟨rfl, i_mk hA hc hw ht hn⟩)))))))))
      have q := x_below_l (post := fun r u' => wpY_sort (fun r_1 => ((r_1 = 0 → 0 = r ∧ i_Rel (k + 5) u' (U, na_f c, F, G, na_f w, na_f n, na_f t, my, tg, wd)) ∧ (¬ r_1 = 0 → wpY_sort (fun r_13 => ((r_13 = 0 → 0 = r ∧ i_Rel (k + 5) u' (U, na_f c, F, G, na_f w, na_f n, na_f t, my, tg, wd)) ∧ (¬ r_13 = 0 → wpY_atMost (fun r_25 => ((r_25 = 0 → (vp_in ((4 * nI a) + nI b) 16 ∧ ∀ U2 : Nat → Int32, U2 = upd U ((4 * nI a) + nI b).toNatClampNeg (vp_nar .boolean 1) → 1 = r ∧ i_Rel (k + 5) u' (U2, na_f c, F, G, na_f w, na_f n, na_f t, my, tg, wd))) ∧ (¬ r_25 = 0 → 0 = r ∧ i_Rel (k + 5) u' (U, na_f c, F, G, na_f w, na_f n, na_f t, my, tg, wd)))) (U, na_f c, F, G, na_f w, na_f n, na_f t, my, tg, wd) (nI b) (nI a)))) (U, na_f c, F, G, na_f w, na_f n, na_f t, my, tg, wd) (nI b)))) (U, na_f c, F, G, na_f w, na_f n, na_f t, my, tg, wd) (nI a)) (F := F) (G := G) (th := th) (ch := ch) (rp := rp) (so := so) (c := c) (w := w) (t := t) (n := n) hA ha hb ((bi_z _).mp y) (y_sort ha (br_f (by decide) (y_sort hb (br_f (by decide) (y_at hb ha (br_t y (And.intro (pk_in (4 * a + b) 16 (by omega) (ix_4 a b)) (nm_r (e' := upd U (4 * a + b) 1) (by rw [ix_4, nI_clamp (by omega)]; rfl) ⟨rfl, i_mk (fun s hs => pr_i hs) hc hw ht hn⟩)))))))) 4 0 (by omega)
      rw [pr_0] at q
      exact q
theorem i_vc_atMost {k : Nat} {u : SX} {v : SY} (I : i_Rel k u v) (hk : k + 5 ≤ 2560) (v1 : Int32) (v2 : Int32) : wpX_atMost (fun r => wpY_atMost (fun r' => r' = r ∧ i_Rel (k + 5) u v) v v1 v2) u v1 v2 := by
  have J : i_Rel (k + 5) u v := I
  obtain ⟨A, F, G, U, th, ch, rp, so, my, tg, wd, c, w, t, n, rfl, rfl, hA, hc, hw, ht, hn⟩ := I
  unfold wpX_atMost
  dsimp only
  rcases oo_ix v1 4 (by decide) with h1 | ⟨a, ha, rfl⟩
  · refine x_sort0 h1 (br_t rfl ?_)
    unfold wpY_atMost
    dsimp only
    exact y_sort0 h1 (br_t rfl ⟨rfl, J⟩)
  · refine x_sort ha (br_f (by decide) ?_)
    rcases oo_ix v2 4 (by decide) with h2 | ⟨b, hb, rfl⟩
    · refine x_sort0 h2 (br_t rfl ?_)
      unfold wpY_atMost
      dsimp only
      exact y_sort ha (br_f (by decide) (y_sort0 h2 (br_t rfl ⟨rfl, J⟩)))
    · refine x_sort hb (br_f (by decide) (x_leads hA ha hb (br_c (fun y => y_at ha hb ⟨y, J⟩) (fun y => y_at ha hb ⟨?_, J⟩))))
      rw [(bi_o _).mp y]
      rfl
theorem i_vc_constant {k : Nat} {u : SX} {v : SY} (I : i_Rel k u v) (hk : k + 5 ≤ 2560) (v1 : Int32) (v2 : Int32) : wpX_constant (fun r u' => wpY_constant (fun r' v' => r' = r ∧ i_Rel (k + 5) u' v') v v1 v2) u v1 v2 := by
  obtain ⟨A, F, G, U, th, ch, rp, so, my, tg, wd, c, w, t, n, rfl, rfl, hA, hc, hw, ht, hn⟩ := I
  unfold wpX_constant wpY_constant
  dsimp only
  rcases oo_ix v1 3 (by decide) with h1 | ⟨a, ha, rfl⟩
  · rcases h1 with z | z
    · exact br_t z (br_t z ⟨rfl, i_mk hA hc hw ht hn⟩)
    · exact br_f (oo_nn z (by decide)) (br_t z (br_f (oo_nn z (by decide)) (br_t (oo_lt (a := 2) z (by decide) (by decide)) ⟨rfl, i_mk hA hc hw ht hn⟩)))
  · refine br_f (nI_pos (by omega)) (br_f (nI_ge (b := 3) ha (by decide)) ?_)
    rcases oo_ix v2 4 (by decide) with h2 | ⟨b, hb, rfl⟩
    · exact x_sort0 h2 (br_t rfl (br_f (nI_pos (by omega)) (br_f (nI_nlt (a := 2) (b := a) (by omega) (by decide)) (y_sort0 h2 (br_t rfl ⟨rfl, i_mk hA hc hw ht hn⟩)))))
    · exact x_sort hb (br_f (by decide) (And.intro (vp_in_nI ha (by decide)) (nm_r (e' := na_f (na_u c a b)) (by rw [nI_clamp (by omega), na_upd]) (br_f (nI_pos (by omega)) (br_f (nI_nlt (a := 2) (b := a) (by omega) (by decide)) (y_sort hb (br_f (by decide) (And.intro (vp_in_nI ha (by decide)) (nm_r (e' := na_f (na_u c a b)) (by rw [nI_clamp (by omega), na_upd]) ⟨rfl, i_mk hA (na_b hc hb) hw ht hn⟩)))))))))
theorem i_vc_rankF {k : Nat} {u : SX} {v : SY} (I : i_Rel k u v) (hk : k + 5 ≤ 2560) (v1 : Int32) (v2 : Int32) (v3 : Int32) : wpX_rankF (fun r u' => wpY_rankF (fun r' v' => r' = r ∧ i_Rel (k + 5) u' v') v v1 v2 (lw_bz v3)) u v1 v2 (lw_bz v3) := by
  obtain ⟨A, F, G, U, th, ch, rp, so, my, tg, wd, c, w, t, n, rfl, rfl, hA, hc, hw, ht, hn⟩ := I
  unfold wpX_rankF wpY_rankF
  dsimp only
  rcases oo_ix v1 4 (by decide) with h1 | ⟨a, ha, rfl⟩
  · exact x_sort0 h1 (br_t rfl (y_sort0 h1 (br_t rfl ⟨rfl, i_mk hA hc hw ht hn⟩)))
  · refine x_sort ha (br_f (by decide) ?_)
    rcases oo_ix v2 4 (by decide) with h2 | ⟨b, hb, rfl⟩
    · exact x_sort0 h2 (br_t rfl (y_sort ha (br_f (by decide) (y_sort0 h2 (br_t rfl ⟨rfl, i_mk hA hc hw ht hn⟩)))))
    · exact x_sort hb (br_f (by decide) (And.intro (pk_in (4 * a + b) 16 (by omega) (ix_4 a b)) (nm_e (y_sort ha (br_f (by decide) (y_sort hb (br_f (by decide) (And.intro (pk_in (4 * a + b) 16 (by omega) (ix_4 a b)) (nm_e ⟨rfl, i_mk hA hc hw ht hn⟩)))))))))
theorem i_vc_rankG {k : Nat} {u : SX} {v : SY} (I : i_Rel k u v) (hk : k + 5 ≤ 2560) (v1 : Int32) (v2 : Int32) (v3 : Int32) (v4 : Int32) : wpX_rankG (fun r u' => wpY_rankG (fun r' v' => r' = r ∧ i_Rel (k + 5) u' v') v v1 v2 v3 (lw_bz v4)) u v1 v2 v3 (lw_bz v4) := by
  obtain ⟨A, F, G, U, th, ch, rp, so, my, tg, wd, c, w, t, n, rfl, rfl, hA, hc, hw, ht, hn⟩ := I
  unfold wpX_rankG wpY_rankG
  dsimp only
  rcases oo_ix v1 4 (by decide) with h1 | ⟨a, ha, rfl⟩
  · exact x_sort0 h1 (br_t rfl (y_sort0 h1 (br_t rfl ⟨rfl, i_mk hA hc hw ht hn⟩)))
  · refine x_sort ha (br_f (by decide) ?_)
    rcases oo_ix v2 4 (by decide) with h2 | ⟨b, hb, rfl⟩
    · exact x_sort0 h2 (br_t rfl (y_sort ha (br_f (by decide) (y_sort0 h2 (br_t rfl ⟨rfl, i_mk hA hc hw ht hn⟩)))))
    · refine x_sort hb (br_f (by decide) ?_)
      rcases oo_ix v3 4 (by decide) with h3 | ⟨d, hd, rfl⟩
      · exact x_sort0 h3 (br_t rfl (y_sort ha (br_f (by decide) (y_sort hb (br_f (by decide) (y_sort0 h3 (br_t rfl ⟨rfl, i_mk hA hc hw ht hn⟩)))))))
      · exact x_sort hd (br_f (by decide) (And.intro (pk_in (4 * (4 * a + b) + d) 64 (by omega) (ix_44 a b d)) (nm_r (e' := upd G (4 * (4 * a + b) + d) (vp_nar .boolean (lw_bz v4))) (by rw [ix_44, nI_clamp (by omega)]) (y_sort ha (br_f (by decide) (y_sort hb (br_f (by decide) (y_sort hd (br_f (by decide) (And.intro (pk_in (4 * (4 * a + b) + d) 64 (by omega) (ix_16 a b d)) (nm_r (e' := upd G (4 * (4 * a + b) + d) (vp_nar .boolean (lw_bz v4))) (by rw [ix_16, nI_clamp (by omega)]) ⟨rfl, i_mk hA hc hw ht hn⟩)))))))))))
theorem i_vc_variable {k : Nat} {u : SX} {v : SY} (I : i_Rel k u v) (hk : k + 5 ≤ 2560) (v1 : Int32) (v2 : Int32) : wpX_variable (fun r u' => wpY_variable (fun r' v' => r' = r ∧ i_Rel (k + 5) u' v') v v1 v2) u v1 v2 := by
  obtain ⟨A, F, G, U, th, ch, rp, so, my, tg, wd, c, w, t, n, rfl, rfl, hA, hc, hw, ht, hn⟩ := I
  unfold wpX_variable wpY_variable
  dsimp only
  rcases oo_ix v1 3 (by decide) with h1 | ⟨a, ha, rfl⟩
  · refine x_var0 h1 (br_t rfl ?_)
    rcases h1 with z | z
    · exact br_t z ⟨rfl, i_mk hA hc hw ht hn⟩
    · exact br_f (oo_nn z (by decide)) (br_t (oo_lt (a := 2) z (by decide) (by decide)) ⟨rfl, i_mk hA hc hw ht hn⟩)
  · refine x_var ha (br_f (by decide) ?_)
    rcases oo_ix v2 4 (by decide) with h2 | ⟨b, hb, rfl⟩
    · exact x_sort0 h2 (br_t rfl (br_f (nI_pos (by omega)) (br_f (nI_nlt (a := 2) (b := a) (by omega) (by decide)) (y_sort0 h2 (br_t rfl ⟨rfl, i_mk hA hc hw ht hn⟩)))))
    · exact x_sort hb (br_f (by decide) (And.intro (vp_in_nI ha (by decide)) (nm_r (e' := na_f (na_u w a b)) (by rw [nI_clamp (by omega), na_upd]) (br_f (nI_pos (by omega)) (br_f (nI_nlt (a := 2) (b := a) (by omega) (by decide)) (y_sort hb (br_f (by decide) (And.intro (vp_in_nI ha (by decide)) (nm_r (e' := na_f (na_u w a b)) (by rw [nI_clamp (by omega), na_upd]) ⟨rfl, i_mk hA hc (na_b hw hb) ht hn⟩)))))))))
end
section
/-! what is owed: terms and solutions -/
theorem n9_b {n : Nat → Nat} {s x : Nat} (hn : ∀ s, n s ≤ 9) (hx : x ≤ 9) : ∀ i, na_u n s x i ≤ 9 := fun i => Nat.le_of_lt_succ (na_b (b := 10) (fun i => Nat.lt_succ_of_le (hn i)) (Nat.lt_succ_of_le hx) i)
theorem na_s (c : Nat → Nat) (k x : Nat) : na_f (na_u c k x) k = nI x := congrArg nI (if_pos rfl)
theorem i_vc_feed {k : Nat} {u : SX} {v : SY} (I : i_Rel k u v) (hk : k + 5 ≤ 2560) (v1 : Int32) (v2 : Int32) : wpX_feed (fun r u' => wpY_feed (fun r' v' => r' = r ∧ i_Rel (k + 5) u' v') v v1 v2) u v1 v2 := by
  obtain ⟨A, F, G, U, th, ch, rp, so, my, tg, wd, c, w, t, n, rfl, rfl, hA, hc, hw, ht, hn⟩ := I
  unfold wpX_feed wpY_feed
  dsimp only
  rcases oo_ix v1 2 (by decide) with h1 | ⟨s, hs, rfl⟩
  · refine x_side0 h1 (br_t rfl ?_)
    rcases h1 with z | z
    · exact br_f (oo_neg (a := 0) z (by decide)) (br_f (oo_neg (a := 1) z (by decide)) ⟨rfl, i_mk hA hc hw ht hn⟩)
    · exact br_f (oo_ne (a := 0) z (by decide) (by decide)) (br_f (oo_ne (a := 1) z (by decide) (by decide)) ⟨rfl, i_mk hA hc hw ht hn⟩)
  · have hY : ∀ r u', wY_feed_9 (fun r' v' => r' = r ∧ i_Rel (k + 5) u' v') (nI s) v2 U (na_f c) F G (na_f w) (na_f n) (na_f t) my tg wd → ((nI s = 0 → wY_feed_9 (fun r' v' => r' = r ∧ i_Rel (k + 5) u' v') (nI s) v2 U (na_f c) F G (na_f w) (na_f n) (na_f t) my tg wd) ∧ (¬ nI s = 0 → ((nI s = 1 → wY_feed_9 (fun r' v' => r' = r ∧ i_Rel (k + 5) u' v') (nI s) v2 U (na_f c) F G (na_f w) (na_f n) (na_f t) my tg wd) ∧ (¬ nI s = 1 → (-1 = r ∧ i_Rel (k + 5) u' (U, na_f c, F, G, na_f w, na_f n, na_f t, my, tg, wd)))))) := fun r u' q => pk_eq s 0 (fun _ => q) (fun z => pk_eq s 1 (fun _ => q) (fun z2 => by omega))
    have hns := hn s
    refine x_side hs (br_f (by decide) ?_)
    rcases oo_ix v2 8 (by decide) with h2 | ⟨x, hx, rfl⟩
    · rcases h2 with z | z
      · exact br_t z (hY _ _ (br_t z ⟨rfl, i_mk hA hc hw ht hn⟩))
      · exact br_f (oo_nn z (by decide)) (br_f (Int32.not_lt.mpr z) (hY _ _ (br_f (oo_nn z (by decide)) (br_t (oo_lt (a := 7) z (by decide) (by decide)) ⟨rfl, i_mk hA hc hw ht hn⟩))))
    · have hy : ∀ {r : Int32} {u' : SX}, (∀ q : Int32 → Prop, q (bi_b (wh_b t n s)) → wpY_complete q (U, na_f c, F, G, na_f w, na_f n, na_f t, my, tg, wd) (nI s)) := fun {_ _} q h => y_whole hs hns ht h
      refine br_f (nI_pos (by omega)) (br_t (nI_lt (b := 8) hx (by decide)) (x_whole hs hns ht (br_c (fun y => And.intro (vp_in_nI hs (by decide)) ?_) (fun y => hY _ _ (br_f (nI_pos (by omega)) (br_f (nI_nlt (a := 7) (b := x) (by omega) (by decide)) (y_whole hs hns ht (br_f y ⟨rfl, i_mk hA hc hw ht hn⟩))))))))
      rw [nI_clamp (n := s) (by omega)]
      have e : na_f n s = nI (n s) := rfl
      refine pk_lt (n s) 9 (fun z => ?_) (fun z => hY _ _ (br_f (nI_pos (by omega)) (br_f (nI_nlt (a := 7) (b := x) (by omega) (by decide)) (y_whole hs hns ht (br_t y (And.intro (vp_in_nI hs (by decide)) (br_f (by rw [nI_clamp (by omega)]; exact nI_nlt (b := 9) z (by omega)) ⟨rfl, i_mk hA hc hw ht hn⟩)))))))
      have h' : ∀ (u' : SX), i_Rel (k + 5) u' (U, na_f c, F, G, na_f w, na_f (na_u n s (n s + 1)), na_f (na_u t (9 * s + n s) x), my, tg, wd) → wY_feed_9 (fun r' v' => r' = na_f (na_u n s (n s + 1)) s ∧ i_Rel (k + 5) u' v') (nI s) (nI x) U (na_f c) F G (na_f w) (na_f n) (na_f t) my tg wd := by
        intro u' hR
        refine br_f (nI_pos (by omega)) (br_f (nI_nlt (a := 7) (b := x) (by omega) (by decide)) (y_whole hs hns ht (br_t y (And.intro (vp_in_nI hs (by decide)) ?_))))
        rw [nI_clamp (n := s) (by omega)]
        refine br_t (nI_lt (b := 9) z (by decide)) (And.intro (vp_in_nI hs (by decide)) ?_)
        rw [e, ix_9, nI_1]
        exact And.intro (vp_in_nI (by omega) (by decide)) (nm_r (e' := na_f (na_u t (9 * s + n s) x)) (by rw [nI_clamp (by omega), na_upd]) (And.intro (vp_in_nI hs (by decide)) (And.intro (vp_in_nI hs (by decide)) (nm_r (e' := na_f (na_u n s (n s + 1))) (na_upd n s (n s + 1)) (And.intro (vp_in_nI hs (by decide)) ⟨rfl, hR⟩)))))
      rw [e, ix_9, nI_1]
      exact And.intro (vp_in_nI hs (by decide)) (And.intro (vp_in_nI (by omega) (by decide)) (nm_r (e' := na_f (na_u t (9 * s + n s) x)) (by rw [nI_clamp (by omega), na_upd]) (And.intro (vp_in_nI hs (by decide)) (And.intro (vp_in_nI hs (by decide)) (nm_r (e' := na_f (na_u n s (n s + 1))) (na_upd n s (n s + 1)) (And.intro (vp_in_nI hs (by decide)) (hY _ _ (h' _ (i_mk hA hc hw (na_b ht hx) (n9_b hn (by omega)))))))))))
theorem i_vc_back {k : Nat} {u : SX} {v : SY} (I : i_Rel k u v) (hk : k + 5 ≤ 2560) (v1 : Int32) : wpX_back (fun r u' => wpY_back (fun r' v' => r' = r ∧ i_Rel (k + 5) u' v') v v1) u v1 := by
  obtain ⟨A, F, G, U, th, ch, rp, so, my, tg, wd, c, w, t, n, rfl, rfl, hA, hc, hw, ht, hn⟩ := I
  unfold wpX_back wpY_back
  dsimp only
  rcases oo_ix v1 2 (by decide) with h1 | ⟨s, hs, rfl⟩
  · refine x_side0 h1 (br_t rfl ?_)
    rcases h1 with z | z
    · exact br_f (oo_neg (a := 0) z (by decide)) (br_f (oo_neg (a := 1) z (by decide)) ⟨rfl, i_mk hA hc hw ht hn⟩)
    · exact br_f (oo_ne (a := 0) z (by decide) (by decide)) (br_f (oo_ne (a := 1) z (by decide) (by decide)) ⟨rfl, i_mk hA hc hw ht hn⟩)
  · have hY : ∀ r u', wY_back_9 (fun r' v' => r' = r ∧ i_Rel (k + 5) u' v') (nI s) U (na_f c) F G (na_f w) (na_f n) (na_f t) my tg wd → ((nI s = 0 → wY_back_9 (fun r' v' => r' = r ∧ i_Rel (k + 5) u' v') (nI s) U (na_f c) F G (na_f w) (na_f n) (na_f t) my tg wd) ∧ (¬ nI s = 0 → ((nI s = 1 → wY_back_9 (fun r' v' => r' = r ∧ i_Rel (k + 5) u' v') (nI s) U (na_f c) F G (na_f w) (na_f n) (na_f t) my tg wd) ∧ (¬ nI s = 1 → (-1 = r ∧ i_Rel (k + 5) u' (U, na_f c, F, G, na_f w, na_f n, na_f t, my, tg, wd)))))) := fun r u' q => pk_eq s 0 (fun _ => q) (fun z => pk_eq s 1 (fun _ => q) (fun z2 => by omega))
    have hns := hn s
    have e : na_f n s = nI (n s) := rfl
    refine x_side hs (br_f (by decide) (And.intro (vp_in_nI hs (by decide)) ?_))
    rw [nI_clamp (n := s) (by omega), e]
    refine pk_eq (n s) 0 (fun z => hY _ _ (And.intro (vp_in_nI hs (by decide)) (br_t (by rw [nI_clamp (by omega), e, z]; rfl) ⟨rfl, i_mk hA hc hw ht hn⟩))) (fun z => ?_)
    have e1 : nI (n s) - 1 = nI (n s - 1) := pk_sub (b := 1) (by omega)
    have e2 : upd (na_f n) s (nI (n s - 1)) = na_f (na_u n s (n s - 1)) := na_upd n s (n s - 1)
    have e3 : na_f (na_u n s (n s - 1)) s = nI (n s - 1) := na_s n s (n s - 1)
    rw [e1]
    have h' : ∀ (u' : SX), i_Rel (k + 5) u' (U, na_f c, F, G, na_f w, na_f (na_u n s (n s - 1)), na_f t, my, tg, wd) → wY_back_9 (fun r' v' => r' = na_f t (9 * s + (n s - 1)) ∧ i_Rel (k + 5) u' v') (nI s) U (na_f c) F G (na_f w) (na_f n) (na_f t) my tg wd := by
      intro u' hR
      refine And.intro (vp_in_nI hs (by decide)) ?_
      rw [nI_clamp (n := s) (by omega), e, e1]
      refine br_f (nI_ne0 (by omega) (by omega)) (And.intro (vp_in_nI hs (by decide)) (And.intro (vp_in_nI hs (by decide)) (nm_r e2 (And.intro (vp_in_nI hs (by decide)) ?_))))
      rw [e3, ix_9, nI_clamp (n := 9 * s + (n s - 1)) (by omega)]
      exact And.intro (vp_in_nI (by omega) (by decide)) ⟨rfl, hR⟩
    refine And.intro (vp_in_nI hs (by decide)) (And.intro (vp_in_nI hs (by decide)) (nm_r e2 (And.intro (vp_in_nI hs (by decide)) ?_)))
    rw [e3, ix_9, nI_clamp (n := 9 * s + (n s - 1)) (by omega)]
    exact And.intro (vp_in_nI (by omega) (by decide)) (hY _ _ (h' _ (i_mk hA hc hw ht (n9_b hn (by omega)))))
theorem i_vc_complete {k : Nat} {u : SX} {v : SY} (I : i_Rel k u v) (hk : k + 5 ≤ 2560) (v1 : Int32) : wpX_complete (fun r => wpY_complete (fun r' => r' = r ∧ i_Rel (k + 5) u v) v v1) u v1 := by
  have J : i_Rel (k + 5) u v := I
  obtain ⟨A, F, G, U, th, ch, rp, so, my, tg, wd, c, w, t, n, rfl, rfl, hA, hc, hw, ht, hn⟩ := I
  unfold wpX_complete
  dsimp only
  rcases oo_ix v1 2 (by decide) with h1 | ⟨s, hs, rfl⟩
  · refine x_side0 h1 (br_t rfl ?_)
    unfold wpY_complete
    dsimp only
    rcases h1 with z | z
    · exact br_f (oo_neg (a := 0) z (by decide)) (br_f (oo_neg (a := 1) z (by decide)) ⟨rfl, J⟩)
    · exact br_f (oo_ne (a := 0) z (by decide) (by decide)) (br_f (oo_ne (a := 1) z (by decide) (by decide)) ⟨rfl, J⟩)
  · refine x_side hs (br_f (by decide) (x_whole hs (hn s) ht (br_c (fun y => y_whole hs (hn s) ht ⟨y, J⟩) (fun y => y_whole hs (hn s) ht ⟨?_, J⟩))))
    rw [(bi_o _).mp y]
    rfl
theorem i_vc_sorts {k : Nat} {u : SX} {v : SY} (I : i_Rel k u v) (hk : k + 5 ≤ 2560) (v1 : Int32) : wpX_sorts (fun r => wpY_sorts (fun r' => r' = r ∧ i_Rel (k + 5) u v) v v1) u v1 := by
  have J : i_Rel (k + 5) u v := I
  obtain ⟨A, F, G, U, th, ch, rp, so, my, tg, wd, c, w, t, n, rfl, rfl, hA, hc, hw, ht, hn⟩ := I
  unfold wpX_sorts
  dsimp only
  rcases oo_ix v1 15 (by decide) with h1 | ⟨s, hs, rfl⟩
  · refine x_isth0 h1 (br_t rfl ?_)
    unfold wpY_sorts
    dsimp only
    rcases h1 with z | z
    · exact br_t z ⟨rfl, J⟩
    · exact br_f (oo_nn z (by decide)) (br_f (oo_nle (a := 14) z (by decide) (by decide)) ⟨rfl, J⟩)
  · exact x_isth hs (br_f (by decide) (x_st hA hc hs (y_st hc hs ⟨rfl, J⟩)))
theorem i_vc_solutions {k : Nat} {u : SX} {v : SY} (I : i_Rel k u v) (hk : k + 5 ≤ 2560) : wpX_solutions (fun r u' => wpY_solutions (fun r' v' => r' = r ∧ i_Rel (k + 5) u' v') v) u := by
  obtain ⟨A, F, G, U, th, ch, rp, so, my, tg, wd, c, w, t, n, rfl, rfl, hA, hc, hw, ht, hn⟩ := I
  unfold wpX_solutions wpY_solutions
  dsimp only
  refine x_solve hA hc hw ht hn (fun th ch rp so hso => Exists.intro 3376 (x_cnt hso (y_count_a (v := 0) (k := 0) (by decide) (by decide) hc hw hn ht (fun j => ?_) (fun my tg wd => ⟨rfl, i_mk hA hc hw ht hn⟩)) 3375 0 (by omega)))
  rw [decide_eq_true rfl, Bool.and_true]
theorem i_vc_first {k : Nat} {u : SX} {v : SY} (I : i_Rel k u v) (hk : k + 5 ≤ 2560) (v1 : Int32) : wpX_first (fun r u' => wpY_first (fun r' v' => r' = r ∧ i_Rel (k + 5) u' v') v v1) u v1 := by
  obtain ⟨A, F, G, U, th, ch, rp, so, my, tg, wd, c, w, t, n, rfl, rfl, hA, hc, hw, ht, hn⟩ := I
  unfold wpX_first
  dsimp only
  rcases oo_ix v1 3 (by decide) with h1 | ⟨a, ha, rfl⟩
  · exact x_var0 h1 (br_t rfl (y_first0 h1 hn ht ⟨rfl, i_mk hA hc hw ht hn⟩))
  · exact x_var ha (br_f (by decide) (x_solve hA hc hw ht hn (fun th ch rp so hso => Exists.intro 3376 (x_fst ha hso 3375 0 (by omega) (y_fst ha hc hw hn ht (fun my tg wd => ⟨rfl, i_mk hA hc hw ht hn⟩))))))
theorem i_vc_values {k : Nat} {u : SX} {v : SY} (I : i_Rel k u v) (hk : k + 5 ≤ 2560) (v1 : Int32) : wpX_values (fun r u' => wpY_values (fun r' v' => r' = r ∧ i_Rel (k + 5) u' v') v v1) u v1 := by
  obtain ⟨A, F, G, U, th, ch, rp, so, my, tg, wd, c, w, t, n, rfl, rfl, hA, hc, hw, ht, hn⟩ := I
  unfold wpX_values
  dsimp only
  rcases oo_ix v1 3 (by decide) with h1 | ⟨a, ha, rfl⟩
  · exact x_var0 h1 (br_t rfl (y_values0 h1 hn ht ⟨rfl, i_mk hA hc hw ht hn⟩))
  · exact x_var ha (br_f (by decide) (x_solve hA hc hw ht hn (fun th ch rp so hso => Exists.intro 3376 (x_val ha hso (y_val ha hc hw hn ht (fun my tg wd => ⟨rfl, i_mk hA hc hw ht hn⟩)) 3375 0 (by omega)))))
theorem i_vc_solutionsWith {k : Nat} {u : SX} {v : SY} (I : i_Rel k u v) (hk : k + 5 ≤ 2560) (v1 : Int32) (v2 : Int32) : wpX_solutionsWith (fun r u' => wpY_solutionsWith (fun r' v' => r' = r ∧ i_Rel (k + 5) u' v') v v1 v2) u v1 v2 := by
  obtain ⟨A, F, G, U, th, ch, rp, so, my, tg, wd, c, w, t, n, rfl, rfl, hA, hc, hw, ht, hn⟩ := I
  unfold wpX_solutionsWith wpY_solutionsWith
  dsimp only
  rcases oo_ix v1 3 (by decide) with h1 | ⟨a, ha, rfl⟩
  · refine x_var0 h1 (br_t rfl ?_)
    rcases h1 with z | z
    · exact br_t z ⟨rfl, i_mk hA hc hw ht hn⟩
    · exact br_f (oo_nn z (by decide)) (br_t (oo_lt (a := 2) z (by decide) (by decide)) ⟨rfl, i_mk hA hc hw ht hn⟩)
  · refine x_var ha (br_f (by decide) ?_)
    have p1 : ¬ nI a < 0 := nI_pos (by omega)
    have p2 : ¬ (2 : Int32) < nI a := nI_nlt (a := 2) (b := a) (by omega) (by decide)
    rcases oo_ix v2 15 (by decide) with h2 | ⟨b, hb, rfl⟩
    · refine x_isth0 h2 (br_t rfl (br_f p1 (br_f p2 ?_)))
      rcases h2 with z | z
      · exact br_t z ⟨rfl, i_mk hA hc hw ht hn⟩
      · exact br_f (oo_nn z (by decide)) (br_f (oo_nle (a := 14) z (by decide) (by decide)) ⟨rfl, i_mk hA hc hw ht hn⟩)
    · exact x_isth hb (br_f (by decide) (x_solve hA hc hw ht hn (fun th ch rp so hso => Exists.intro 3376 (x_with ha hb hso (fun j => rfl) (br_f p1 (br_f p2 (br_f (nI_pos (by omega)) (br_t (nI_le (b := 14) (by omega) (by decide)) (y_count_w ha hb hc hw hn ht (fun j => rfl) (fun my tg wd => ⟨rfl, i_mk hA hc hw ht hn⟩)))))) 3375 0 (by omega)))))
theorem i_vc_solutionsAlike {k : Nat} {u : SX} {v : SY} (I : i_Rel k u v) (hk : k + 5 ≤ 2560) (v1 : Int32) (v2 : Int32) : wpX_solutionsAlike (fun r u' => wpY_solutionsAlike (fun r' v' => r' = r ∧ i_Rel (k + 5) u' v') v v1 v2) u v1 v2 := by
  obtain ⟨A, F, G, U, th, ch, rp, so, my, tg, wd, c, w, t, n, rfl, rfl, hA, hc, hw, ht, hn⟩ := I
  unfold wpX_solutionsAlike wpY_solutionsAlike
  dsimp only
  rcases oo_ix v1 3 (by decide) with h1 | ⟨a, ha, rfl⟩
  · refine x_var0 h1 (br_t rfl ?_)
    rcases h1 with z | z
    · exact br_t z ⟨rfl, i_mk hA hc hw ht hn⟩
    · exact br_f (oo_nn z (by decide)) (br_t (oo_lt (a := 2) z (by decide) (by decide)) ⟨rfl, i_mk hA hc hw ht hn⟩)
  · refine x_var ha (br_f (by decide) ?_)
    have p1 : ¬ nI a < 0 := nI_pos (by omega)
    have p2 : ¬ (2 : Int32) < nI a := nI_nlt (a := 2) (b := a) (by omega) (by decide)
    rcases oo_ix v2 3 (by decide) with h2 | ⟨b, hb, rfl⟩
    · refine x_var0 h2 (br_t rfl (br_f p1 (br_f p2 ?_)))
      rcases h2 with z | z
      · exact br_t z ⟨rfl, i_mk hA hc hw ht hn⟩
      · exact br_f (oo_nn z (by decide)) (br_f (oo_nle (a := 2) z (by decide) (by decide)) ⟨rfl, i_mk hA hc hw ht hn⟩)
    · exact x_var hb (br_f (by decide) (x_solve hA hc hw ht hn (fun th ch rp so hso => Exists.intro 3376 (x_alike ha hb hso (fun j => rfl) (br_f p1 (br_f p2 (br_f (nI_pos (by omega)) (br_t (nI_le (b := 2) (by omega) (by decide)) (y_count_a ha hb hc hw hn ht (fun j => rfl) (fun my tg wd => ⟨rfl, i_mk hA hc hw ht hn⟩)))))) 3375 0 (by omega)))))
end
