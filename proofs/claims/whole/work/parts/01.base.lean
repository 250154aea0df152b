/-! rows of kit/rows (pasted) and the small arithmetic of this claim -/
theorem pk_us {f : Nat → Int32} {k : Nat} {x : Int32} : upd f k x k = x := if_pos rfl
theorem pk_un {f : Nat → Int32} {k j : Nat} {x : Int32} (h : j ≠ k) : upd f k x j = f j := if_neg h
theorem pk_sub {a b : Nat} (h : b ≤ a) : nI a - nI b = nI (a - b) := by
  obtain ⟨c, rfl⟩ : ∃ c, a = c + b := ⟨a - b, by omega⟩
  rw [← nI_add, Int32.add_sub_cancel, Nat.add_sub_cancel]
theorem pk_m1 (n : Nat) : nI (n + 1) + (-1) = nI n := by
  rw [← nI_1, Int32.add_assoc, show (1 : Int32) + (-1) = 0 from rfl, Int32.add_zero]
theorem pk_mul (a b : Nat) : nI a * nI b = nI (a * b) := (Int32.ofNat_mul a b).symm
theorem pk_div {a d : Nat} (ha : a < 2 ^ 31) (h0 : 0 < d) (hd : d < 2 ^ 31) : nI a / nI d = nI (a / d) := by
  apply Int32.toInt_inj.mp
  rw [lg_idiv_nonneg (by rw [nI_toInt ha]; omega) (by rw [nI_toInt hd]; omega), nI_toInt ha, nI_toInt hd, nI_toInt (Nat.lt_of_le_of_lt (Nat.div_le_self a d) ha)]
  first | rfl | exact (Int.natCast_ediv _ _).symm
theorem pk_rem {a d : Nat} (ha : a < 2 ^ 31) (h0 : 0 < d) (hd : d < 2 ^ 31) : nI a - nI a / nI d * nI d = nI (a % d) := by
  rw [pk_div ha h0 hd, pk_mul, pk_sub (Nat.div_mul_le_self a d)]
  exact congrArg nI (by have := Nat.div_add_mod' a d; omega)
theorem pk_ix (x : Int32) {n : Nat} (hn : n < 2 ^ 31) : x < 0 ∨ nI n ≤ x ∨ ∃ j : Nat, j < n ∧ x = nI j := by
  by_cases h : x < 0
  · exact Or.inl h
  · obtain ⟨j, hj, rfl⟩ := nI_of h
    by_cases h2 : j < n
    · exact Or.inr (Or.inr ⟨j, h2, rfl⟩)
    · exact Or.inr (Or.inl (nI_le (by omega) hj))
theorem pk_le {x y : Int32} {A B : Prop} (a b : Nat) (f : a ≤ b → A) (g : b < a → B) (hx : x = nI a := by rfl) (hy : y = nI b := by rfl) (ha : a < 2 ^ 31 := by omega) (hb : b < 2 ^ 31 := by omega) : (x ≤ y → A) ∧ (¬ x ≤ y → B) := by
  subst hx hy
  rw [nI_leI ha hb]
  exact ⟨f, fun z => g (by omega)⟩
theorem pk_lt {x y : Int32} {A B : Prop} (a b : Nat) (f : a < b → A) (g : b ≤ a → B) (hx : x = nI a := by rfl) (hy : y = nI b := by rfl) (ha : a < 2 ^ 31 := by omega) (hb : b < 2 ^ 31 := by omega) : (x < y → A) ∧ (¬ x < y → B) := by
  subst hx hy
  rw [nI_ltI ha hb]
  exact ⟨f, fun z => g (by omega)⟩
theorem pk_eq {x y : Int32} {A B : Prop} (a b : Nat) (f : a = b → A) (g : a ≠ b → B) (hx : x = nI a := by rfl) (hy : y = nI b := by rfl) (ha : a < 2 ^ 31 := by omega) (hb : b < 2 ^ 31 := by omega) : (x = y → A) ∧ (¬ x = y → B) := by
  subst hx hy
  rw [nI_eq ha hb]
  exact ⟨f, g⟩
theorem pk_in {x : Int32} (n N : Nat) (h : n < N) (hx : x = nI n := by rfl) (hN : N < 2 ^ 31 := by omega) : vp_in x N := by
  subst hx
  exact vp_in_nI h hN
theorem pk_cl {x : Int32} (n : Nat) (hx : x = nI n := by rfl) (h : n < 2 ^ 31 := by omega) : x.toNatClampNeg = n := by
  subst hx
  exact nI_clamp h
theorem pk_tn {n : Nat} (h : n < 2 ^ 32) : (nI n).toBitVec.toNat = n := Nat.mod_eq_of_lt h
theorem pk_and (x : Int32) {m : Int32} (k : Nat) (hm : m.toBitVec.toNat = 2 ^ k - 1) : x &&& m = nI (x.toBitVec.toNat % 2 ^ k) := by
  apply Int32.toBitVec_inj.mp
  apply BitVec.eq_of_toNat_eq
  rw [Int32.toBitVec_and, BitVec.toNat_and, hm, Nat.and_two_pow_sub_one_eq_mod]
  show _ = (BitVec.ofNat 32 _).toNat
  rw [BitVec.toNat_ofNat]
  exact (Nat.mod_eq_of_lt (Nat.lt_of_le_of_lt (Nat.mod_le _ _) x.toBitVec.isLt)).symm
theorem pk_andN {n : Nat} (h : n < 2 ^ 32) {m : Int32} (k : Nat) (hm : m.toBitVec.toNat = 2 ^ k - 1) : nI n &&& m = nI (n % 2 ^ k) := by
  rw [pk_and _ k hm, pk_tn h]
theorem pk_shl (a s : Int32) (k : Nat) (hs : (s.toBitVec.smod 32).toNat = k) : (a <<< s).toBitVec.toNat = a.toBitVec.toNat * 2 ^ k % 2 ^ 32 := by
  show (a.toBitVec <<< (s.toBitVec.smod 32).toNat).toNat = _
  rw [hs, BitVec.toNat_shiftLeft, Nat.shiftLeft_eq]
theorem pk_shlN {n : Nat} (s : Int32) (k : Nat) (hs : (s.toBitVec.smod 32).toNat = k) (h : n * 2 ^ k < 2 ^ 32) : nI n <<< s = nI (n * 2 ^ k) := by
  apply Int32.toBitVec_inj.mp
  apply BitVec.eq_of_toNat_eq
  have hn : n < 2 ^ 32 := Nat.lt_of_le_of_lt (Nat.le_mul_of_pos_right n (Nat.two_pow_pos k)) h
  rw [pk_shl _ _ k hs, pk_tn hn, pk_tn h, Nat.mod_eq_of_lt h]
theorem pk_shr (a s : Int32) (k : Nat) (hs : (s.toBitVec.smod 32).toNat = k) : (a >>> s).toInt = a.toInt >>> k := by
  show (a.toBitVec.sshiftRight (s.toBitVec.smod 32).toNat).toInt = _
  rw [hs, BitVec.toInt_sshiftRight]
  rfl
theorem pk_shrN {n : Nat} (h : n < 2 ^ 31) (s : Int32) (k : Nat) (hs : (s.toBitVec.smod 32).toNat = k) : nI n >>> s = nI (n / 2 ^ k) := by
  apply Int32.toInt_inj.mp
  have h2 : n / 2 ^ k ≤ n := Nat.div_le_self _ _
  rw [pk_shr _ _ k hs, nI_toInt h, nI_toInt (by omega), Int.shiftRight_eq_div_pow]
  rfl
theorem s_l : ∀ n, n < 32 → ((nI n &&& 31).toBitVec.smod 32).toNat = n := by decide +kernel
theorem nx_and (a b : Nat) : nI a &&& nI b = nI (a &&& b) := by
  apply Int32.toBitVec_inj.1
  show BitVec.ofNat 32 a &&& BitVec.ofNat 32 b = BitVec.ofNat 32 (a &&& b)
  apply BitVec.eq_of_getLsbD_eq
  intro i hi
  simp [hi]
theorem ss_or (a b : Nat) : nI a ||| nI b = nI (a ||| b) := by
  apply Int32.toBitVec_inj.1
  show BitVec.ofNat 32 a ||| BitVec.ofNat 32 b = BitVec.ofNat 32 (a ||| b)
  apply BitVec.eq_of_getLsbD_eq
  intro i hi
  simp [hi]
theorem ss_m2 (x : Nat) : x % 2 < 2 ^ 31 := Nat.lt_of_lt_of_le (Nat.mod_lt _ (by decide)) (by decide)
theorem ss_bit {m s : Nat} (hm : m < 2 ^ 31) (hs : s < 32) : (nI m >>> (nI s &&& 31)) &&& 1 = nI (m / 2 ^ s % 2) := by
  rw [pk_shrN hm _ s (s_l s hs)]
  exact pk_andN (Nat.lt_of_le_of_lt (Nat.div_le_self _ _) (Nat.lt_trans hm (by decide))) 1 (by decide)
theorem ss_h1 {m s : Nat} (hm : m < 2 ^ 31) (hs : s < 32) : (nI m >>> (nI s &&& 31)) &&& 1 = 1 ↔ m.testBit s = true := by
  rw [ss_bit hm hs]
  show nI (m / 2 ^ s % 2) = nI 1 ↔ _
  rw [nI_eq (ss_m2 _) (by decide), Nat.testBit_eq_decide_div_mod_eq, decide_eq_true_iff]
theorem ss_h0 {m s : Nat} (hm : m < 2 ^ 31) (hs : s < 32) : (nI m >>> (nI s &&& 31)) &&& 1 = 0 ↔ m.testBit s = false := by
  rw [ss_bit hm hs, ← nI_0, nI_eq (ss_m2 _) (by decide), Nat.testBit_eq_decide_div_mod_eq, decide_eq_false_iff_not]
  generalize m / 2 ^ s = z
  omega
theorem ss_shl {n s : Nat} (hs : s < 32) (h : n * 2 ^ s < 2 ^ 32) : nI n <<< (nI s &&& 31) = nI (n * 2 ^ s) := pk_shlN _ s (s_l s hs) h
theorem ss_sh1 {s : Nat} (hs : s < 31) : (1 : Int32) <<< (nI s &&& 31) = nI (2 ^ s) := by
  have h : 1 * 2 ^ s < 2 ^ 32 := by
    rw [Nat.one_mul]
    exact Nat.pow_lt_pow_right (by decide) (by omega)
  have e := ss_shl (n := 1) (s := s) (by omega) h
  rw [Nat.one_mul] at e
  exact e
/-- a condition of a branch, told otherwise -/
theorem ss_if {c d A B : Prop} (e : c ↔ d) (f : d → A) (g : ¬ d → B) : (c → A) ∧ (¬ c → B) := ⟨fun h => f (e.mp h), fun h => g (fun z => h (e.mpr z))⟩
theorem ss_b1 {A B : Prop} (m s : Nat) (f : m.testBit s = true → A) (g : m.testBit s = false → B) (hm : m < 2 ^ 31 := by omega) (hs : s < 32 := by omega) : ((nI m >>> (nI s &&& 31)) &&& 1 = 1 → A) ∧ (¬ (nI m >>> (nI s &&& 31)) &&& 1 = 1 → B) := ss_if (ss_h1 hm hs) f (fun h => g (by cases e : m.testBit s with | true => exact absurd e h | false => rfl))
theorem ss_b0 {A B : Prop} (m s : Nat) (f : m.testBit s = false → A) (g : m.testBit s = true → B) (hm : m < 2 ^ 31 := by omega) (hs : s < 32 := by omega) : ((nI m >>> (nI s &&& 31)) &&& 1 = 0 → A) ∧ (¬ (nI m >>> (nI s &&& 31)) &&& 1 = 0 → B) := ss_if (ss_h0 hm hs) f (fun h => g (by cases e : m.testBit s with | true => rfl | false => exact absurd e h))
theorem ss_at {P : Int32 → Prop} {x y : Int32} (e : x = y) (h : P y) : P x := by
  rw [e]
  exact h
/-- an array of naturals -/
def na_f (c : Nat → Nat) : Nat → Int32 := fun i => nI (c i)
def na_u (c : Nat → Nat) (k x : Nat) : Nat → Nat := fun i => if i = k then x else c i
theorem na_upd (c : Nat → Nat) (k x : Nat) : upd (na_f c) k (nI x) = na_f (na_u c k x) := by
  funext i
  unfold upd na_f na_u
  split <;> rfl
theorem na_0 : (fun _ => 0 : Nat → Int32) = na_f (fun _ => 0) := by
  funext i
  exact nI_0.symm
theorem na_b {c : Nat → Nat} {k x b : Nat} (h : ∀ i, c i < b) (hx : x < b) : ∀ i, na_u c k x i < b := by
  intro i
  unfold na_u
  split
  · exact hx
  · exact h i
/-- an int that stands for a boolean -/
def bi_b (b : Bool) : Int32 := if b = true then 1 else 0
theorem bi_n (b : Bool) : narrow .boolean (.int (bi_b b)) = .int (bi_b b) := by cases b <;> rfl
theorem bi_z (b : Bool) : bi_b b = 0 ↔ b = false := by cases b <;> decide
theorem bi_o (b : Bool) : ¬ bi_b b = 0 ↔ b = true := by cases b <;> decide
theorem bi_v (b : Bool) : vp_nar .boolean (bi_b b) = bi_b b := by cases b <;> rfl
/-- indices -/
theorem ix_4 (s t : Nat) : (4 : Int32) * nI s + nI t = nI (4 * s + t) := by
  show nI 4 * nI s + nI t = _
  rw [pk_mul, nI_add]
theorem ix_9 (s t : Nat) : (9 : Int32) * nI s + nI t = nI (9 * s + t) := by
  show nI 9 * nI s + nI t = _
  rw [pk_mul, nI_add]
theorem ix_16 (s t u : Nat) : (16 : Int32) * nI s + 4 * nI t + nI u = nI (4 * (4 * s + t) + u) := by
  show nI 16 * nI s + nI 4 * nI t + nI u = _
  rw [pk_mul, pk_mul, nI_add, nI_add]
  exact congrArg nI (by omega)
theorem ix_44 (s t u : Nat) : (4 : Int32) * ((4 : Int32) * nI s + nI t) + nI u = nI (4 * (4 * s + t) + u) := by rw [ix_4, ix_4]
theorem ix_m (d : Nat) (s : Nat) : nI d * nI s = nI (d * s) := pk_mul d s
theorem ix_d4 {r : Nat} (h : r < 2 ^ 31) : nI r / 4 = nI (r / 4) := pk_div (d := 4) h (by decide) (by decide)
theorem ix_d16 {r : Nat} (h : r < 2 ^ 31) : nI r / 16 = nI (r / 16) := pk_div (d := 16) h (by decide) (by decide)
theorem ix_d3 {r : Nat} (h : r < 2 ^ 31) : nI r / 3 = nI (r / 3) := pk_div (d := 3) h (by decide) (by decide)
theorem ix_d15 {r : Nat} (h : r < 2 ^ 31) : nI r / 15 = nI (r / 15) := pk_div (d := 15) h (by decide) (by decide)
theorem ix_d225 {r : Nat} (h : r < 2 ^ 31) : nI r / 225 = nI (r / 225) := pk_div (d := 225) h (by decide) (by decide)
theorem ix_r4 {r : Nat} (h : r < 2 ^ 31) : nI r - nI r / 4 * 4 = nI (r % 4) := pk_rem (d := 4) h (by decide) (by decide)
theorem ix_r3 {r : Nat} (h : r < 2 ^ 31) : nI r - nI r / 3 * 3 = nI (r % 3) := pk_rem (d := 3) h (by decide) (by decide)
theorem ix_r15 {r : Nat} (h : r < 2 ^ 31) : nI r - nI r / 15 * 15 = nI (r % 15) := pk_rem (d := 15) h (by decide) (by decide)
theorem ix_ne {a b : Nat} (h : a ≠ b) (ha : a < 2 ^ 31) (hb : b < 2 ^ 31) : ¬ nI a = nI b := fun z => h ((nI_eq ha hb).mp z)
/-- out of range -/
theorem oo_ix (x : Int32) (n : Nat) (hn : n < 2 ^ 31) : (x < 0 ∨ nI n ≤ x) ∨ ∃ j : Nat, j < n ∧ x = nI j := by
  rcases pk_ix x hn with h | h | h
  · exact Or.inl (Or.inl h)
  · exact Or.inl (Or.inr h)
  · exact Or.inr h
theorem oo_nle {x : Int32} {a b : Nat} (h : nI b ≤ x) (hab : a < b) (hb : b < 2 ^ 31) : ¬ x ≤ nI a := by
  intro z
  rw [Int32.le_iff_toInt_le, nI_toInt hb] at h
  rw [Int32.le_iff_toInt_le, nI_toInt (by omega)] at z
  omega
theorem oo_ne {x : Int32} {a b : Nat} (h : nI b ≤ x) (hab : a < b) (hb : b < 2 ^ 31) : ¬ x = nI a := by
  intro z
  subst z
  rw [nI_leI hb (by omega)] at h
  omega
theorem oo_nn {x : Int32} {b : Nat} (h : nI b ≤ x) (hb : b < 2 ^ 31) : ¬ x < 0 := by
  intro z
  rw [Int32.le_iff_toInt_le, nI_toInt hb] at h
  rw [Int32.lt_iff_toInt_lt, show (0 : Int32).toInt = 0 from by decide] at z
  omega
theorem oo_neg {x : Int32} {a : Nat} (h : x < 0) (ha : a < 2 ^ 31) : ¬ x = nI a := by
  intro z
  subst z
  exact nI_pos ha h
