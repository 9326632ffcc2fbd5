def rg_w {α : Type} (f : Nat → α) (k : Nat) (x : α) : Nat → α := fun j => if j = k then x else f j
theorem rg_w_s {α : Type} {f : Nat → α} {k : Nat} {x : α} : rg_w f k x k = x := if_pos rfl
theorem rg_w_n {α : Type} {f : Nat → α} {k j : Nat} {x : α} (h : j ≠ k) : rg_w f k x j = f j := if_neg h
def rg_st : Option Nat → Nat
  | none => 0
  | some i => i + 1
section RGA8
variable {CH ST OR ORD K D CK P AB YO : Nat → Int32} {nn fo : Int32} {n : Nat} {s o ord pos c : Nat → Nat} {par : Nat → Option Nat}
theorem rx_gf {post : Int32 → Prop} {a b : Nat} (ha : a < 40) (hb : b < 40) (ea : ST a = nI (s a) ∧ OR a = nI (o a) ∧ s a ≤ 41 ∧ o a < 3) (eb : ST b = nI (s b) ∧ OR b = nI (o b) ∧ s b ≤ 41 ∧ o b < 3) (h1 : rg_gt s o a b → post 1) (h0 : ¬ rg_gt s o a b → post 0) :
    wpX_goesFirst post (nn, CH, ST, OR, ORD, K, D, CK) (nI a) (nI b) := by
  obtain ⟨a1, a2, a3, a4⟩ := ea
  obtain ⟨b1, b2, b3, b4⟩ := eb
  have ia : vp_in (nI a) 40 := vp_in_nI (by omega) (by omega)
  have ib : vp_in (nI b) 40 := vp_in_nI (by omega) (by omega)
  unfold rg_gt at h1 h0
  unfold wpX_goesFirst
  dsimp only
  rw [nI_clamp (n := a) (by omega), nI_clamp (n := b) (by omega), a1, b1, a2, b2]
  exact ⟨ia, ib, rg_eq (s a) (s b) (fun z => ⟨ia, ib, rg_le (o a) (o b) (fun z2 => h0 (by omega)) (fun z2 => h1 (by omega))⟩) (fun z => ⟨ia, ib, rg_le (s a) (s b) (fun z2 => h0 (by omega)) (fun z2 => h1 (by omega))⟩)⟩
/-- the first from here that doesn't go first -/
theorem rx_pf (hn : n < 40) (ho : ∀ i, i < n → ORD i = nI (ord i) ∧ ord i < n) (hS : ∀ e, e < n + 1 → ST e = nI (s e) ∧ OR e = nI (o e) ∧ s e ≤ 41 ∧ o e < 3) : ∀ d i : Nat, i + d = n →
    ∃ q, i ≤ q ∧ q ≤ n ∧ (∀ j, i ≤ j → j < q → rg_gt s o (ord j) n) ∧ (q < n → ¬ rg_gt s o (ord q) n) ∧
    ∀ (post : Int32 → Prop) (m : Nat), d < m → post (nI q) → wX_positionFrom_2 post (nI n) (nI n) CH ST OR ORD K D CK m (nI i) := by
  intro d
  induction d with
  | zero =>
    intro i hi
    have e : i = n := by omega
    refine ⟨n, by omega, Nat.le_refl _, fun j h1 h2 => by omega, fun h => by omega, fun post m hm h => ?_⟩
    obtain ⟨m, rfl⟩ : ∃ m', m = m' + 1 := ⟨m - 1, by omega⟩
    rw [e]
    exact br_t (nI_le (Nat.le_refl _) (by omega)) h
  | succ d ih =>
    intro i hi
    have hin : i < n := by omega
    have e1 : ORD (nI i).toNatClampNeg = nI (ord i) := by
      rw [nI_clamp (by omega)]
      exact (ho i hin).1
    have e2 := (ho i hin).2
    have hge : ¬ nI n ≤ nI i := nI_ge hin (by omega)
    have hv : vp_in (nI i) 40 := vp_in_nI (by omega) (by omega)
    by_cases z : rg_gt s o (ord i) n
    · obtain ⟨q, q1, q2, q3, q4, q5⟩ := ih (i + 1) (by omega)
      refine ⟨q, by omega, q2, fun j h1 h2 => ?_, q4, fun post m hm h => ?_⟩
      · by_cases w : j = i
        · rw [w]
          exact z
        · exact q3 j (by omega) h2
      · obtain ⟨m, rfl⟩ : ∃ m', m = m' + 1 := ⟨m - 1, by omega⟩
        refine br_f hge ⟨hv, ?_⟩
        rw [e1]
        exact rx_gf (by omega) hn (hS (ord i) (by omega)) (hS n (by omega)) (fun _ => br_f rg_10 (nm_r (nI_1 _) (q5 post m (by omega) h))) (fun w => (w z).elim)
    · refine ⟨i, Nat.le_refl _, by omega, fun j h1 h2 => by omega, fun _ => z, fun post m hm h => ?_⟩
      obtain ⟨m, rfl⟩ : ∃ m', m = m' + 1 := ⟨m - 1, by omega⟩
      refine br_f hge ⟨hv, ?_⟩
      rw [e1]
      exact rx_gf (by omega) hn (hS (ord i) (by omega)) (hS n (by omega)) (fun w => (z w).elim) (fun _ => br_t rfl h)
/-- room in the order -/
theorem rx_oo {post : SX → Prop} {q : Nat} (hn : n < 40) (hp : ∀ A : Nat → Int32, (∀ j, j ≤ q → A j = ORD j) → (∀ j, q < j → j ≤ n → A j = ORD (j - 1)) → post (nI n, CH, ST, OR, A, K, D, CK)) : ∀ (m i : Nat) (A : Nat → Int32), q ≤ i → i ≤ n → i - q < m → (∀ j, j ≤ i → A j = ORD j) → (∀ j, i < j → j ≤ n → A j = ORD (j - 1)) →
    wX_openOrderAt_5 post (nI q) (nI n) m (nI i) CH ST OR A K D CK := by
  intro m
  induction m with
  | zero => intro i A _ _ h; omega
  | succ m ih =>
    intro i A h1 h2 h3 h4 h5
    refine rg_le i q (fun z => ?_) (fun z => ?_)
    · have e : i = q := by omega
      rw [e] at h4 h5
      exact hp A h4 h5
    · rw [rg_m1 (n := i) (by omega), nI_clamp (n := i) (by omega), nI_clamp (n := i - 1) (by omega)]
      refine ⟨vp_in_nI (by omega) (by omega), vp_in_nI (by omega) (by omega), nm_e (nm_r (rg_m1' (by omega)) (ih (i - 1) _ (by omega) (by omega) (by omega) ?_ ?_))⟩
      · intro j hj
        rw [rg_un (by omega)]
        exact h4 j (by omega)
      · intro j hj hj2
        by_cases w : j = i
        · rw [w, rg_us]
          exact h4 (i - 1) (by omega)
        · rw [rg_un w]
          exact h5 j (by omega) hj2
/-- X's new element -/
theorem rx_add (R : rg_R n s o ord pos c par CH ST OR ORD K D CK P AB) (hn : n < 40) {r : Nat} (hr : r < 3) (pp : Option Nat) (hpp : ∀ i, pp = some i → i < n) (ch : Int32) :
    ∃ q, rg_st pp ≤ q ∧ q ≤ n ∧ (∀ j, rg_st pp ≤ j → j < q → rg_gt (rg_w s n (c r + 1)) (rg_w o n r) (ord j) n) ∧ (q < n → ¬ rg_gt (rg_w s n (c r + 1)) (rg_w o n r) (ord q) n) ∧
    ∀ (post : Int32 → SX → Prop), (∀ ORD' : Nat → Int32, (∀ i, i < n + 1 → ORD' i = nI (rg_io ord n q i)) → post (nI n) (nI (n + 1), upd CH n ch, upd ST n (nI (c r + 1)), upd OR n (nI r), ORD', upd K (r * 40 + n) 1, D, upd CK r (nI (c r + 1)))) →
      wpX_addElement post (nI n, CH, ST, OR, ORD, K, D, CK) (nI r) (rg_pc pp) ch := by
  obtain ⟨hc, hc2⟩ := R.2.2.2.1 r hr
  have ho := rg_R_o R
  have hS := rg_R_S R
  have hS' : ∀ e, e < n + 1 → upd ST n (nI (c r + 1)) e = nI (rg_w s n (c r + 1) e) ∧ upd OR n (nI r) e = nI (rg_w o n r e) ∧ rg_w s n (c r + 1) e ≤ 41 ∧ rg_w o n r e < 3 := by
    intro e he
    by_cases z : e = n
    · rw [z, rg_us, rg_us, rg_w_s, rg_w_s]
      exact ⟨rfl, rfl, by omega, hr⟩
    · rw [rg_un z, rg_un z, rg_w_n z, rg_w_n z]
      obtain ⟨a1, a2, a3, a4⟩ := hS e (by omega)
      exact ⟨a1, a2, by omega, a4⟩
  have hst : rg_st pp ≤ n := by
    cases pp with
    | none => exact Nat.zero_le _
    | some i => exact hpp i rfl
  obtain ⟨q, q1, q2, q3, q4, q5⟩ := rx_pf (CH := upd CH n ch) (K := K) (D := D) (CK := upd CK r (nI (c r + 1))) hn ho hS' (n - rg_st pp) (rg_st pp) (by omega)
  refine ⟨q, q1, q2, q3, q4, fun post hpost => ?_⟩
  have key : wX_addElement_58 post (nI r) (nI n) (nI (rg_st pp)) (nI n) (upd CH n ch) (upd ST n (nI (c r + 1))) (upd OR n (nI r)) ORD K D (upd CK r (nI (c r + 1))) := by
    unfold wX_addElement_58
    refine ⟨n - rg_st pp + 1, q5 _ (n - rg_st pp + 1) (by omega) ?_⟩
    refine ⟨n + 1, rx_oo (ORD := ORD) hn ?_ (n + 1) n ORD q2 (Nat.le_refl _) (by omega) (fun j _ => rfl) (fun j h1 h2 => by omega)⟩
    intro A hA1 hA2
    refine ⟨vp_in_nI (by omega) (by omega), nm_r (e' := upd A q (nI n)) (by rw [nI_clamp (by omega)]) (nm_r (nI_1 _) (rx_cell ⟨vp_in_nI (by omega) (by omega), nm_r (e' := upd K (r * 40 + n) 1) (by rw [nI_clamp (by omega), rg_nb1]) (hpost _ ?_)⟩))⟩
    intro i hi
    by_cases z : i < q
    · rw [rg_un (by omega), rg_io_l z, hA1 i (by omega)]
      exact (ho i (by omega)).1
    · by_cases z2 : i = q
      · rw [z2, rg_us, rg_io_e]
      · rw [rg_un z2, rg_io_g (by omega), hA2 i (by omega) (by omega)]
        exact (ho (i - 1) (by omega)).1
  have ir : vp_in (nI r) 3 := vp_in_nI (by omega) (by omega)
  have jn : vp_in (nI n) 40 := vp_in_nI (by omega) (by omega)
  unfold wpX_addElement
  dsimp only
  rw [nI_clamp (n := r) (by omega), nI_clamp (n := n) (by omega), hc, nI_1 (c r)]
  refine ⟨ir, ir, nm_e ⟨jn, nm_e ⟨ir, jn, nm_r (e' := upd ST n (nI (c r + 1))) (by show upd ST n (upd CK r (nI (c r + 1)) r) = _; rw [rg_us]) ⟨jn, nm_e ?_⟩⟩⟩⟩
  cases pp with
  | none => exact br_t rfl key
  | some i =>
    have := hpp i rfl
    refine br_f (rg_ne5 (n := i) (by omega)) ?_
    show wX_addElement_58 post (nI r) (nI n) (nI i + 1) (nI n) (upd CH n ch) (upd ST n (nI (c r + 1))) (upd OR n (nI r)) ORD K D (upd CK r (nI (c r + 1)))
    rw [nI_1]
    exact key
end RGA8
