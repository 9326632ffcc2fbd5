section RGA2
/-! E: numbers -/
theorem rg_us {f : Nat → Int32} {k : Nat} {x : Int32} : upd f k x k = x := if_pos rfl
theorem rg_un {f : Nat → Int32} {k j : Nat} {x : Int32} (h : j ≠ k) : upd f k x j = f j := if_neg h
theorem rg_mul (a b : Nat) : nI a * nI b = nI (a * b) := (Int32.ofNat_mul a b).symm
theorem rg_cell (r e : Nat) : nI r * 40 + nI e = nI (r * 40 + e) := by
  rw [← nI_add, ← rg_mul]
  rfl
theorem rg_m1 {n : Nat} (h : 0 < n) : nI n - 1 = nI (n - 1) := by
  obtain ⟨m, rfl⟩ : ∃ m, n = m + 1 := ⟨n - 1, by omega⟩
  exact nI_pred m
theorem rg_m1' {n : Nat} (h : 0 < n) : nI n + (-1) = nI (n - 1) := by
  obtain ⟨m, rfl⟩ : ∃ m, n = m + 1 := ⟨n - 1, by omega⟩
  show nI (m + 1) + (-1) = nI m
  rw [← nI_1, Int32.add_assoc, show (1 : Int32) + (-1) = 0 from rfl, Int32.add_zero]
theorem rg_ix (x : Int32) {n : Nat} (hn : n < 2 ^ 31) : x < 0 ∨ nI n ≤ x ∨ ∃ j : Nat, j < n ∧ x = nI j := by
  by_cases h : x < 0
  · exact Or.inl h
  · obtain ⟨j, hj, rfl⟩ := nI_of h
    by_cases h2 : j < n
    · exact Or.inr (Or.inr ⟨j, h2, rfl⟩)
    · exact Or.inr (Or.inl (nI_le (by omega) hj))
theorem rg_le {x y : Int32} {A B : Prop} (a b : Nat) (f : a ≤ b → A) (g : b < a → B) (hx : x = nI a := by rfl) (hy : y = nI b := by rfl) (ha : a < 2 ^ 31 := by omega) (hb : b < 2 ^ 31 := by omega) : (x ≤ y → A) ∧ (¬ x ≤ y → B) := by
  subst hx hy
  rw [nI_leI ha hb]
  exact ⟨f, fun z => g (by omega)⟩
theorem rg_lt {x y : Int32} {A B : Prop} (a b : Nat) (f : a < b → A) (g : b ≤ a → B) (hx : x = nI a := by rfl) (hy : y = nI b := by rfl) (ha : a < 2 ^ 31 := by omega) (hb : b < 2 ^ 31 := by omega) : (x < y → A) ∧ (¬ x < y → B) := by
  subst hx hy
  rw [nI_ltI ha hb]
  exact ⟨f, fun z => g (by omega)⟩
theorem rg_eq {x y : Int32} {A B : Prop} (a b : Nat) (f : a = b → A) (g : a ≠ b → B) (hx : x = nI a := by rfl) (hy : y = nI b := by rfl) (ha : a < 2 ^ 31 := by omega) (hb : b < 2 ^ 31 := by omega) : (x = y → A) ∧ (¬ x = y → B) := by
  subst hx hy
  rw [nI_eq ha hb]
  exact ⟨f, g⟩
theorem rg_in {x : Int32} (n N : Nat) (h : n < N) (hx : x = nI n := by rfl) (hN : N < 2 ^ 31 := by omega) : vp_in x N := by
  subst hx
  exact vp_in_nI h hN
theorem rg_ne5 {n : Nat} (h : n < 2 ^ 31) : ¬ nI n = -5 := by
  intro e
  have := nI_pos h
  rw [e] at this
  exact this (by decide)
theorem rg_and255 (x : Int32) : ∃ m : Nat, m < 256 ∧ x &&& 255 = nI m := by
  refine ⟨x.toBitVec.toNat % 2 ^ 8, Nat.mod_lt _ (by decide), ?_⟩
  apply Int32.toBitVec_inj.mp
  apply BitVec.eq_of_toNat_eq
  have hm : (255 : Int32).toBitVec.toNat = 2 ^ 8 - 1 := by decide
  rw [Int32.toBitVec_and, BitVec.toNat_and, hm, Nat.and_two_pow_sub_one_eq_mod]
  show _ = (BitVec.ofNat 32 _).toNat
  rw [BitVec.toNat_ofNat]
  exact (Nat.mod_eq_of_lt (Nat.lt_of_le_of_lt (Nat.mod_le _ _) x.toBitVec.isLt)).symm
theorem rg_nb0 : vp_nar .boolean 0 = 0 := by decide
theorem rg_nb1 : vp_nar .boolean 1 = 1 := by decide
theorem rg_bo {x : Int32} (h : x = 0 ∨ x = 1) : narrow .boolean (.int x) = .int x := by
  rcases h with h | h <;> subst h <;> rfl

/-! F: the relation -/
def rg_pc : Option Nat → Int32
  | none => -5
  | some p => nI p
def rg_A (AB : Nat → Int32) (e k : Nat) : Prop := ¬ AB (e * 40 + k) = 0
def rg_k (K : Nat → Int32) (r e : Nat) : Bool := !(decide (K (r * 40 + e) = 0))
def rg_h (K D : Nat → Int32) (r e : Nat) : Bool := rg_k K r e && decide (D (r * 40 + e) = 0)
def rg_R (n : Nat) (s o ord pos c : Nat → Nat) (par : Nat → Option Nat) (CH ST OR ORD K D CK P AB : Nat → Int32) : Prop :=
  n ≤ 40 ∧ rg_G n s o ord pos par (rg_A AB) ∧
  (∀ e, e < n → ST e = nI (s e) ∧ OR e = nI (o e) ∧ s e ≤ n ∧ o e < 3 ∧ s e ≤ c (o e)) ∧
  (∀ r, r < 3 → CK r = nI (c r) ∧ c r ≤ n) ∧
  (∀ i, i < n → ORD i = nI (ord i)) ∧
  (∀ e, e < n → P e = rg_pc (par e)) ∧
  (∀ j, (K j = 0 ∨ K j = 1) ∧ (D j = 0 ∨ D j = 1)) ∧
  (∀ r e, r < 3 → e < n → ¬ K (r * 40 + e) = 0 → s e ≤ c r) ∧
  (∀ r e, r < 3 → n ≤ e → e < 40 → K (r * 40 + e) = 0) ∧
  (∀ e, e < n → ∃ m : Nat, m < 256 ∧ CH e = nI m)
end RGA2
/-- one state of knowledge; X has the order, Y the parents and who stands above whom -/
def i_Rel (_ : Nat) (u : SX) (v : SY) : Prop :=
  ∃ (n : Nat) (s o ord pos c : Nat → Nat) (par : Nat → Option Nat) (CH ST OR ORD K D CK P AB YO : Nat → Int32) (fo : Int32),
    u = (nI n, CH, ST, OR, ORD, K, D, CK) ∧ v = (nI n, fo, CH, ST, OR, P, AB, K, D, CK, YO) ∧ rg_R n s o ord pos c par CH ST OR ORD K D CK P AB
