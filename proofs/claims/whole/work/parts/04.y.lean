section RGA4
variable {CH ST OR P AB K D CK YO : Nat → Int32} {nn fo : Int32}
theorem ry_bad {post : Int32 → Prop} {u : SY} {r : Int32} (h : r < 0 ∨ nI 3 ≤ r) (hp : post 0) : wpY_isReplica post u r := by
  obtain ⟨a, b, c, d, e, f, g, i, j, k, l⟩ := u
  rcases h with h | h
  · exact br_t h hp
  · exact br_c (fun _ => hp) (fun _ => br_t h hp)
theorem ry_ok {post : Int32 → Prop} {u : SY} {r : Nat} (h : r < 3) (hp : post 1) : wpY_isReplica post u (nI r) := by
  obtain ⟨a, b, c, d, e, f, g, i, j, k, l⟩ := u
  exact br_f (nI_pos (by omega)) (br_f (nI_ge (b := 3) h (by decide)) hp)
theorem ry_kn {post : Int32 → Prop} {n r e : Nat} (hn : n ≤ 40) (hr : r < 3) (he : e < n) (h1 : rg_k K r e = true → post 1) (h0 : ¬ rg_k K r e = true → post 0) : wpY_isKnown post (nI n, fo, CH, ST, OR, P, AB, K, D, CK, YO) (nI r) (nI e) := by
  unfold wpY_isKnown
  dsimp only
  rw [rg_cell, nI_clamp (n := r * 40 + e) (by omega)]
  refine br_f (nI_pos (by omega)) (br_f (nI_ge he (by omega)) ⟨vp_in_nI (by omega) (by omega), ?_⟩)
  by_cases z : K (r * 40 + e) = 0
  · exact br_t z (h0 (rg_k_f z))
  · exact br_f z (h1 (rg_k_t z))
theorem ry_kn0 {post : Int32 → Prop} {n : Nat} {r t : Int32} (ht : t < 0 ∨ nI n ≤ t) (h0 : post 0) : wpY_isKnown post (nI n, fo, CH, ST, OR, P, AB, K, D, CK, YO) r t := by
  unfold wpY_isKnown
  dsimp only
  rcases ht with h | h
  · exact br_t h h0
  · exact br_c (fun _ => h0) (fun _ => br_t h h0)
theorem ry_sh {post : Int32 → Prop} {n r e : Nat} (hn : n ≤ 40) (hr : r < 3) (he : e < n) (h1 : rg_h K D r e = true → post 1) (h0 : ¬ rg_h K D r e = true → post 0) : wpY_isShown post (nI n, fo, CH, ST, OR, P, AB, K, D, CK, YO) (nI r) (nI e) := by
  unfold wpY_isShown
  dsimp only
  rw [rg_cell, nI_clamp (n := r * 40 + e) (by omega)]
  refine ry_kn hn hr he (fun z => ?_) (fun z => ?_)
  · refine br_f rg_10 ⟨vp_in_nI (by omega) (by omega), ?_⟩
    by_cases z2 : D (r * 40 + e) = 0
    · exact br_t z2 (h1 (rg_h_t (rg_k_n z) z2))
    · exact br_f z2 (h0 (rg_h_f2 z2))
  · exact br_t rfl (h0 (fun w => z (rg_h_k w)))
theorem ry_sh0 {post : Int32 → Prop} {n : Nat} {r t : Int32} (ht : t < 0 ∨ nI n ≤ t) (h0 : post 0) : wpY_isShown post (nI n, fo, CH, ST, OR, P, AB, K, D, CK, YO) r t := by
  unfold wpY_isShown
  dsimp only
  exact ry_kn0 ht (br_t rfl h0)
/-- the length -/
theorem ry_len {post : Int32 → Prop} {n r : Nat} (hn : n ≤ 40) (hr : r < 3) (hp : post (nI (rg_C (rg_h K D r) n))) : ∀ m d e : Nat, e + d = n → d < m →
    wY_length_14 post (nI r) (nI n) fo CH ST OR P AB K D CK YO m (nI (rg_C (rg_h K D r) e)) (nI e) := by
  intro m
  induction m with
  | zero => intro d e _ h; omega
  | succ m ih =>
    intro d e hd hm
    refine rg_le n e (fun z => ?_) (fun z => ?_)
    · have : e = n := by omega
      rw [this]
      exact hp
    · refine ry_sh hn hr (by omega) (fun z2 => ?_) (fun z2 => ?_)
      · refine br_f rg_10 (nm_r (nI_1 _) (nm_r (nI_1 _) ?_))
        have := ih (d - 1) (e + 1) (by omega) (by omega)
        rw [rg_C_t z2] at this
        exact this
      · refine br_t rfl (nm_r (nI_1 _) ?_)
        have := ih (d - 1) (e + 1) (by omega) (by omega)
        rw [rg_C_f z2] at this
        exact this
theorem ry_length {post : Int32 → Prop} {n r : Nat} (hn : n ≤ 40) (hr : r < 3) (hp : post (nI (rg_C (rg_h K D r) n))) : wpY_length post (nI n, fo, CH, ST, OR, P, AB, K, D, CK, YO) (nI r) := by
  unfold wpY_length
  dsimp only
  exact ry_ok hr (br_f rg_10 ⟨n + 1, ry_len hn hr hp (n + 1) n 0 (by omega) (by omega)⟩)
/-- how many it knows -/
theorem ry_knl {post : Int32 → Prop} {n r : Nat} (hn : n ≤ 40) (hr : r < 3) (hp : post (nI (rg_C (rg_k K r) n))) : ∀ m d e : Nat, e + d = n → d < m →
    wY_known_14 post (nI r) (nI n) fo CH ST OR P AB K D CK YO m (nI (rg_C (rg_k K r) e)) (nI e) := by
  intro m
  induction m with
  | zero => intro d e _ h; omega
  | succ m ih =>
    intro d e hd hm
    refine rg_le n e (fun z => ?_) (fun z => ?_)
    · have : e = n := by omega
      rw [this]
      exact hp
    · refine ry_kn hn hr (by omega) (fun z2 => ?_) (fun z2 => ?_)
      · refine br_f rg_10 (nm_r (nI_1 _) (nm_r (nI_1 _) ?_))
        have := ih (d - 1) (e + 1) (by omega) (by omega)
        rw [rg_C_t z2] at this
        exact this
      · refine br_t rfl (nm_r (nI_1 _) ?_)
        have := ih (d - 1) (e + 1) (by omega) (by omega)
        rw [rg_C_f z2] at this
        exact this
/-- above goes through -/
theorem rg_an_tr {n : Nat} {s o ord pos : Nat → Nat} {par : Nat → Option Nat} {an : Nat → Nat → Prop} (G : rg_G n s o ord pos par an) (hn : n ≤ 40) {e k j : Nat} (he : e < n) (hk : k < n) (hj : j < n) (h1 : an e k) (h2 : an k j) : an e j := by
  have A : ∀ e k, e < n → k < n → (an e k ↔ (pos k ≤ pos e ∧ ∀ i, pos k < i → i ≤ pos e → rg_gt s o (ord i) k)) := fun e k he hk => rg_an G hn n e k he he hk
  obtain ⟨x1, x2⟩ := (A e k he hk).mp h1
  obtain ⟨y1, y2⟩ := (A k j hk hj).mp h2
  refine (A e j he hj).mpr ⟨by omega, fun i g1 g2 => ?_⟩
  by_cases z : i ≤ pos k
  · exact y2 i g1 z
  · have w := x2 i (by omega) g2
    by_cases z2 : pos j = pos k
    · have e1 := (G.1 j hj).2
      have e2 := (G.1 k hk).2
      have e3 : j = k := by rw [← e1, ← e2, z2]
      rw [e3]
      exact w
    · have w2 := y2 (pos k) (by omega) (Nat.le_refl _)
      rw [(G.1 k hk).2] at w2
      exact rg_gt_tr w w2
/-- the branch of a, seen from b -/
theorem ry_br {post : Int32 → Prop} {n : Nat} {s o ord pos : Nat → Nat} {par : Nat → Option Nat} (hn : n ≤ 40) (G : rg_G n s o ord pos par (rg_A AB)) (hP : ∀ e, e < n → P e = rg_pc (par e)) {a b : Nat} (ha : a < n) (hb : b < n)
    (hp : ∀ p, p < n → rg_A AB a p → ¬ rg_A AB b p → (∀ p', par p = some p' → rg_A AB b p') → post (nI p)) : ∀ m t : Nat, t < n → t < m → rg_A AB a t → ¬ rg_A AB b t →
    wY_branch_2 post (nI b) (nI n) fo CH ST OR P AB K D CK YO m (nI t) := by
  intro m
  induction m with
  | zero => intro t _ h; omega
  | succ m ih =>
    intro t ht hm h1 h2
    refine ⟨vp_in_nI (by omega) (by omega), ?_⟩
    have e1 : P (nI t).toNatClampNeg = rg_pc (par t) := by
      rw [nI_clamp (by omega)]
      exact hP t ht
    rw [e1]
    cases hpar : par t with
    | none =>
      refine br_t (show (-5 : Int32) < 0 by decide) (hp t ht h1 h2 ?_)
      intro p' hp'
      rw [hpar] at hp'
      cases hp'
    | some p =>
      have hpt := (G.2.2.2.2.1 t p ht hpar).1
      rw [show rg_pc (some p) = nI p from rfl, rg_cell b p, nI_clamp (n := b * 40 + p) (by omega)]
      refine br_f (nI_pos (by omega)) ⟨vp_in_nI (by omega) (by omega), vp_in_nI (by omega) (by omega), ?_⟩
      by_cases z : AB (b * 40 + p) = 0
      · refine br_t z ⟨vp_in_nI (by omega) (by omega), nm_e (ih p (by omega) (by omega) ?_ (fun w => w z))⟩
        have hpp : rg_A AB p p := (G.2.2.2.2.2.1 p p (by omega) (by omega)).mpr (Or.inl rfl)
        have htp : rg_A AB t p := (G.2.2.2.2.2.1 t p ht (by omega)).mpr (Or.inr ⟨p, hpar, hpp⟩)
        exact rg_an_tr G hn ha ht (by omega) h1 htp
      · refine br_f z (hp t ht h1 h2 ?_)
        intro p' hp'
        rw [hpar] at hp'
        cases hp'
        exact z
/-- which of two comes first -/
theorem ry_bf {post : Int32 → Prop} {n : Nat} {s o ord pos : Nat → Nat} {par : Nat → Option Nat} (hn : n ≤ 40) (G : rg_G n s o ord pos par (rg_A AB)) (hP : ∀ e, e < n → P e = rg_pc (par e)) (hS : ∀ e, e < n → ST e = nI (s e) ∧ OR e = nI (o e) ∧ s e ≤ 40 ∧ o e < 3) {a b : Nat} (ha : a < n) (hb : b < n) (hab : a ≠ b)
    (h1 : pos a < pos b → post 1) (h0 : ¬ pos a < pos b → post 0) : wpY_before post (nI n, fo, CH, ST, OR, P, AB, K, D, CK, YO) (nI a) (nI b) := by
  have A := fun e k he hk => rg_an G hn n e k he he hk
  have hpos : pos a ≠ pos b := by
    intro w
    apply hab
    have e1 := (G.1 a ha).2
    have e2 := (G.1 b hb).2
    rw [← e1, ← e2, w]
  unfold wpY_before
  dsimp only
  rw [rg_cell b a, rg_cell a b, nI_clamp (n := b * 40 + a) (by omega), nI_clamp (n := a * 40 + b) (by omega)]
  refine ⟨vp_in_nI (by omega) (by omega), ?_⟩
  by_cases z1 : AB (b * 40 + a) = 0
  · refine br_t z1 ⟨vp_in_nI (by omega) (by omega), ?_⟩
    by_cases z2 : AB (a * 40 + b) = 0
    · have aa : rg_A AB a a := (G.2.2.2.2.2.1 a a ha (by omega)).mpr (Or.inl rfl)
      have bb : rg_A AB b b := (G.2.2.2.2.2.1 b b hb (by omega)).mpr (Or.inl rfl)
      refine br_t z2 ⟨a + 1, ry_br hn G hP ha hb ?_ (a + 1) a ha (by omega) aa (fun w => w z1)⟩
      intro p hp p1 p2 p3
      refine ⟨b + 1, ry_br hn G hP hb ha ?_ (b + 1) b hb (by omega) bb (fun w => w z2)⟩
      intro q hq q1 q2 q3
      have hd : (pos a < pos b ∧ rg_gt s o p q) ∨ (pos b < pos a ∧ rg_gt s o q p) := by
        by_cases z : pos a < pos b
        · exact Or.inl ⟨z, rg_bf G hn ha hb hp hq p1 p2 q1 q2 q3 z⟩
        · have z' : pos b < pos a := by omega
          exact Or.inr ⟨z', rg_bf G hn hb ha hq hp q1 q2 p1 p2 p3 z'⟩
      unfold rg_gt at hd
      obtain ⟨sp, op, bp, cp⟩ := hS p hp
      obtain ⟨sq, oq, bq, cq⟩ := hS q hq
      have ip : vp_in (nI p) 40 := vp_in_nI (by omega) (by omega)
      have iq : vp_in (nI q) 40 := vp_in_nI (by omega) (by omega)
      rw [nI_clamp (n := p) (by omega), nI_clamp (n := q) (by omega), sp, sq, op, oq]
      refine ⟨ip, iq, rg_lt (s q) (s p) (fun w => h1 (by omega)) (fun w => ⟨ip, iq, rg_eq (s p) (s q) (fun w2 => ⟨ip, iq, rg_le (o p) (o q) (fun w3 => h0 (by omega)) (fun w3 => h1 (by omega))⟩) (fun w2 => h0 (by omega))⟩)⟩
    · have := ((A a b ha hb).mp z2).1
      exact br_f z2 (h0 (by omega))
  · have := ((A b a hb ha).mp z1).1
    exact br_f z1 (h1 (by omega))
/-- the rank by counting -/
theorem rg_and_f {x y : Bool} (h : ¬ y = true) : ¬ (x && y) = true := fun w => h (Bool.and_eq_true_iff.mp w).2
theorem rg_and_g {x y : Bool} (h : ¬ x = true) : ¬ (x && y) = true := fun w => h (Bool.and_eq_true_iff.mp w).1
theorem ry_rk {post : Int32 → Prop} {n : Nat} {s o ord pos : Nat → Nat} {par : Nat → Option Nat} (hn : n ≤ 40) (G : rg_G n s o ord pos par (rg_A AB)) (hP : ∀ e, e < n → P e = rg_pc (par e)) (hS : ∀ e, e < n → ST e = nI (s e) ∧ OR e = nI (o e) ∧ s e ≤ 40 ∧ o e < 3) {r e : Nat} (hr : r < 3) (he : e < n)
    (hp : post (nI (rg_C (fun k => rg_k K r k && decide (pos k < pos e)) n))) : ∀ m d k : Nat, k + d = n → d < m →
    wY_rankOf_5 post (nI r) (nI e) (nI n) fo CH ST OR P AB K D CK YO m (nI (rg_C (fun k => rg_k K r k && decide (pos k < pos e)) k)) (nI k) := by
  intro m
  induction m with
  | zero => intro d k _ h; omega
  | succ m ih =>
    intro d k hd hm
    refine rg_le n k (fun z => ?_) (fun z => rg_eq k e (fun z2 => ?_) (fun z2 => ?_))
    · have : k = n := by omega
      rw [this]
      exact hp
    · refine nm_r (nI_1 _) ?_
      have := ih (d - 1) (k + 1) (by omega) (by omega)
      rw [rg_C_f (f := fun k => rg_k K r k && decide (pos k < pos e)) (rg_and_f (by rw [z2, decide_eq_false (Nat.lt_irrefl _)]; exact Bool.false_ne_true))] at this
      exact this
    · refine ry_kn hn hr z (fun z3 => br_f rg_10 ?_) (fun z3 => br_t rfl (nm_r (nI_1 _) ?_))
      · refine ry_bf hn G hP hS z he z2 (fun z4 => br_f rg_10 (nm_r (nI_1 _) (nm_r (nI_1 _) ?_))) (fun z4 => br_t rfl (nm_r (nI_1 _) ?_))
        · have := ih (d - 1) (k + 1) (by omega) (by omega)
          rw [rg_C_t (f := fun k => rg_k K r k && decide (pos k < pos e)) (Bool.and_eq_true_iff.mpr ⟨z3, decide_eq_true z4⟩)] at this
          exact this
        · have := ih (d - 1) (k + 1) (by omega) (by omega)
          rw [rg_C_f (f := fun k => rg_k K r k && decide (pos k < pos e)) (rg_and_f (fun w => z4 (of_decide_eq_true w)))] at this
          exact this
      · have := ih (d - 1) (k + 1) (by omega) (by omega)
        rw [rg_C_f (f := fun k => rg_k K r k && decide (pos k < pos e)) (rg_and_g z3)] at this
        exact this
theorem ry_rankOf {post : Int32 → Prop} {n : Nat} {s o ord pos : Nat → Nat} {par : Nat → Option Nat} (hn : n ≤ 40) (G : rg_G n s o ord pos par (rg_A AB)) (hP : ∀ e, e < n → P e = rg_pc (par e)) (hS : ∀ e, e < n → ST e = nI (s e) ∧ OR e = nI (o e) ∧ s e ≤ 40 ∧ o e < 3) {r e : Nat} (hr : r < 3) (he : e < n)
    (hp : post (nI (rg_C (fun i => rg_k K r (ord i)) (pos e)))) : wpY_rankOf post (nI n, fo, CH, ST, OR, P, AB, K, D, CK, YO) (nI r) (nI e) := by
  have hpe := (G.1 e he).1
  refine ⟨n + 1, ry_rk hn G hP hS hr he ?_ (n + 1) n 0 (by omega) (by omega)⟩
  rw [rg_cnt G (rg_k K r) (P := pos e) (by omega)]
  exact hp
theorem ry_po {post : Int32 → Prop} {n : Nat} {s o ord pos : Nat → Nat} {par : Nat → Option Nat} (hn : n ≤ 40) (G : rg_G n s o ord pos par (rg_A AB)) (hP : ∀ e, e < n → P e = rg_pc (par e)) (hS : ∀ e, e < n → ST e = nI (s e) ∧ OR e = nI (o e) ∧ s e ≤ 40 ∧ o e < 3) {r e : Nat} (hr : r < 3) (he : e < n)
    (hp : post (nI (rg_C (fun k => rg_h K D r k && decide (pos k < pos e)) n))) : ∀ m d k : Nat, k + d = n → d < m →
    wY_placeOf_27 post (nI r) (nI e) (nI n) fo CH ST OR P AB K D CK YO m (nI (rg_C (fun k => rg_h K D r k && decide (pos k < pos e)) k)) (nI k) := by
  intro m
  induction m with
  | zero => intro d k _ h; omega
  | succ m ih =>
    intro d k hd hm
    refine rg_le n k (fun z => ?_) (fun z => rg_eq k e (fun z2 => ?_) (fun z2 => ?_))
    · have : k = n := by omega
      rw [this]
      exact hp
    · refine nm_r (nI_1 _) ?_
      have := ih (d - 1) (k + 1) (by omega) (by omega)
      rw [rg_C_f (f := fun k => rg_h K D r k && decide (pos k < pos e)) (rg_and_f (by rw [z2, decide_eq_false (Nat.lt_irrefl _)]; exact Bool.false_ne_true))] at this
      exact this
    · refine ry_sh hn hr z (fun z3 => br_f rg_10 ?_) (fun z3 => br_t rfl (nm_r (nI_1 _) ?_))
      · refine ry_bf hn G hP hS z he z2 (fun z4 => br_f rg_10 (nm_r (nI_1 _) (nm_r (nI_1 _) ?_))) (fun z4 => br_t rfl (nm_r (nI_1 _) ?_))
        · have := ih (d - 1) (k + 1) (by omega) (by omega)
          rw [rg_C_t (f := fun k => rg_h K D r k && decide (pos k < pos e)) (Bool.and_eq_true_iff.mpr ⟨z3, decide_eq_true z4⟩)] at this
          exact this
        · have := ih (d - 1) (k + 1) (by omega) (by omega)
          rw [rg_C_f (f := fun k => rg_h K D r k && decide (pos k < pos e)) (rg_and_f (fun w => z4 (of_decide_eq_true w)))] at this
          exact this
      · have := ih (d - 1) (k + 1) (by omega) (by omega)
        rw [rg_C_f (f := fun k => rg_h K D r k && decide (pos k < pos e)) (rg_and_g z3)] at this
        exact this
/-- ranks of known ones differ -/
theorem rg_rk_lt {n : Nat} {s o ord pos : Nat → Nat} {par : Nat → Option Nat} {an : Nat → Nat → Prop} (G : rg_G n s o ord pos par an) {f : Nat → Bool} {a b : Nat} (ha : a < n) (hf : f a = true) (h : pos a < pos b) : rg_C (fun i => f (ord i)) (pos a) < rg_C (fun i => f (ord i)) (pos b) := by
  have e1 : rg_C (fun i => f (ord i)) (pos a + 1) = rg_C (fun i => f (ord i)) (pos a) + 1 := rg_C_t (by show f (ord (pos a)) = true; rw [(G.1 a ha).2]; exact hf)
  have e2 := rg_C_mono (fun i => f (ord i)) (a := pos a + 1) (pos b) (by omega)
  omega
theorem rg_rk_ne {n : Nat} {s o ord pos : Nat → Nat} {par : Nat → Option Nat} {an : Nat → Nat → Prop} (G : rg_G n s o ord pos par an) {f : Nat → Bool} {a b : Nat} (ha : a < n) (hb : b < n) (hf : f a = true) (hg : f b = true) (h : a ≠ b) : rg_C (fun i => f (ord i)) (pos a) ≠ rg_C (fun i => f (ord i)) (pos b) := by
  have hpos : pos a ≠ pos b := by
    intro w
    apply h
    have e1 := (G.1 a ha).2
    have e2 := (G.1 b hb).2
    rw [← e1, ← e2, w]
  by_cases z : pos a < pos b
  · have := rg_rk_lt G ha hf z
    omega
  · have := rg_rk_lt G (b := a) hb hg (by omega)
    omega
/-- the known ones, arranged -/
theorem ry_ar {post : SY → Prop} {n : Nat} {s o ord pos : Nat → Nat} {par : Nat → Option Nat} (hn : n ≤ 40) (G : rg_G n s o ord pos par (rg_A AB)) (hP : ∀ e, e < n → P e = rg_pc (par e)) (hS : ∀ e, e < n → ST e = nI (s e) ∧ OR e = nI (o e) ∧ s e ≤ 40 ∧ o e < 3) {r : Nat} (hr : r < 3)
    (hp : ∀ YO' : Nat → Int32, (∀ e, e < n → rg_k K r e = true → YO' (rg_C (fun i => rg_k K r (ord i)) (pos e)) = nI e) → post (nI n, nI (rg_C (rg_k K r) n), CH, ST, OR, P, AB, K, D, CK, YO')) : ∀ (m d e : Nat) (Y : Nat → Int32), e + d = n → d < m →
    (∀ e', e' < e → rg_k K r e' = true → Y (rg_C (fun i => rg_k K r (ord i)) (pos e')) = nI e') →
    wY_arrange_7 post (nI r) (nI n) m (nI e) (nI (rg_C (rg_k K r) e)) CH ST OR P AB K D CK Y := by
  intro m
  induction m with
  | zero => intro d e Y _ h; omega
  | succ m ih =>
    intro d e Y hd hm hY
    refine rg_le n e (fun z => ?_) (fun z => ?_)
    · have : e = n := by omega
      rw [this] at hY ⊢
      exact hp Y hY
    · refine ry_kn hn hr z (fun z2 => br_f rg_10 ?_) (fun z2 => br_t rfl (nm_r (nI_1 _) ?_))
      · refine ry_rankOf hn G hP hS hr z ?_
        have hpe := (G.1 e z).1
        have hle := rg_C_le (fun i => rg_k K r (ord i)) (pos e)
        refine ⟨vp_in_nI (by omega) (by omega), nm_r (e' := upd Y (rg_C (fun i => rg_k K r (ord i)) (pos e)) (nI e)) (by rw [nI_clamp (by omega)]) (nm_r (nI_1 _) (nm_r (nI_1 _) ?_))⟩
        have := ih (d - 1) (e + 1) (upd Y (rg_C (fun i => rg_k K r (ord i)) (pos e)) (nI e)) (by omega) (by omega) ?_
        · rw [rg_C_t z2] at this
          exact this
        · intro e' he' hk'
          by_cases w : e' = e
          · rw [w]
            exact rg_us
          · rw [rg_un (rg_rk_ne G (f := rg_k K r) (by omega) z hk' z2 w)]
            exact hY e' (by omega) hk'
      · have := ih (d - 1) (e + 1) Y (by omega) (by omega) ?_
        · rw [rg_C_f z2] at this
          exact this
        · intro e' he' hk'
          by_cases w : e' = e
          · rw [w] at hk'
            exact (z2 hk').elim
          · exact hY e' (by omega) hk'
/-- the scan over the arranged, in step with one over the order -/
theorem ry_ea {post : Int32 → SY → Prop} {n : Nat} {ord : Nat → Nat} (hn : n ≤ 40) {r : Nat} {t : Int32} (hr : r < 3) (ho : ∀ i, i < n → ord i < n)
    (hY : ∀ i, i < n → rg_k K r (ord i) = true → YO (rg_C (fun i => rg_k K r (ord i)) i) = nI (ord i)) : ∀ d m i : Nat, i + d = n → d < m →
    post (rg_pc ((rg_fd (fun i => rg_h K D r (ord i)) t d i (rg_C (fun i => rg_h K D r (ord i)) i)).map ord)) (nI n, nI (rg_C (fun i => rg_k K r (ord i)) n), CH, ST, OR, P, AB, K, D, CK, YO) →
    wY_elementAt_20 post (nI r) t (nI n) (nI (rg_C (fun i => rg_k K r (ord i)) n)) CH ST OR P AB K D CK YO m (nI (rg_C (fun i => rg_h K D r (ord i)) i)) (nI (rg_C (fun i => rg_k K r (ord i)) i)) := by
  have hle := rg_C_le (fun i => rg_k K r (ord i)) n
  intro d
  induction d with
  | zero =>
    intro m i hi hm hp
    obtain ⟨m, rfl⟩ : ∃ m', m = m' + 1 := ⟨m - 1, by omega⟩
    have : i = n := by omega
    rw [this]
    exact br_t (nI_le (Nat.le_refl _) (by omega)) hp
  | succ d ih =>
    intro m i hi hm hp
    rw [rg_fd_s] at hp
    by_cases z : rg_k K r (ord i) = true
    · obtain ⟨m, rfl⟩ : ∃ m', m = m' + 1 := ⟨m - 1, by omega⟩
      have c1 : rg_C (fun i => rg_k K r (ord i)) (i + 1) = rg_C (fun i => rg_k K r (ord i)) i + 1 := rg_C_t (f := fun i => rg_k K r (ord i)) z
      have c2 := rg_C_mono (fun i => rg_k K r (ord i)) (a := i + 1) n (by omega)
      have e1 : YO (nI (rg_C (fun i => rg_k K r (ord i)) i)).toNatClampNeg = nI (ord i) := by
        rw [nI_clamp (by omega)]
        exact hY i (by omega) z
      have hin : vp_in (nI (rg_C (fun i => rg_k K r (ord i)) i)) 40 := vp_in_nI (by omega) (by omega)
      refine br_f (nI_ge (by omega) (by omega)) ⟨hin, ?_⟩
      rw [e1]
      refine ry_sh hn hr (ho i (by omega)) (fun z2 => br_f rg_10 ?_) (fun z2 => br_t rfl (nm_r (nI_1 _) ?_))
      · rw [if_pos z2] at hp
        by_cases z3 : nI (rg_C (fun i => rg_h K D r (ord i)) i) = t
        · rw [if_pos z3] at hp
          exact br_t z3 ⟨hin, hp⟩
        · rw [if_neg z3] at hp
          refine br_f z3 (nm_r (nI_1 _) (nm_r (nI_1 _) ?_))
          have := ih m (i + 1) (by omega) (by omega)
          rw [c1, rg_C_t (f := fun i => rg_h K D r (ord i)) z2] at this
          exact this hp
      · rw [if_neg z2] at hp
        have := ih m (i + 1) (by omega) (by omega)
        rw [c1, rg_C_f (f := fun i => rg_h K D r (ord i)) z2] at this
        exact this hp
    · have z2 : ¬ rg_h K D r (ord i) = true := fun w => z (rg_h_k w)
      rw [if_neg z2] at hp
      have := ih m (i + 1) (by omega) (by omega)
      rw [rg_C_f (f := fun i => rg_k K r (ord i)) z, rg_C_f (f := fun i => rg_h K D r (ord i)) z2] at this
      exact this hp
theorem ry_elementAt {post : Int32 → SY → Prop} {n : Nat} {s o ord pos : Nat → Nat} {par : Nat → Option Nat} (hn : n ≤ 40) (G : rg_G n s o ord pos par (rg_A AB)) (hP : ∀ e, e < n → P e = rg_pc (par e)) (hS : ∀ e, e < n → ST e = nI (s e) ∧ OR e = nI (o e) ∧ s e ≤ 40 ∧ o e < 3) {r : Nat} {t : Int32} (hr : r < 3)
    (hp : ∀ (fo' : Int32) (YO' : Nat → Int32), post (rg_pc ((rg_at K D ord r n t).map ord)) (nI n, fo', CH, ST, OR, P, AB, K, D, CK, YO')) : wpY_elementAt post (nI n, fo, CH, ST, OR, P, AB, K, D, CK, YO) (nI r) t := by
  unfold wpY_elementAt
  dsimp only
  refine ry_ok hr (br_f rg_10 ?_)
  refine ⟨n + 1, ry_ar hn G hP hS hr ?_ (n + 1) n 0 YO (by omega) (by omega) (fun e' h => by omega)⟩
  intro YO' hY
  have ec : rg_C (rg_k K r) n = rg_C (fun i => rg_k K r (ord i)) n := G.2.2.2.2.2.2 (rg_k K r)
  rw [ec]
  refine ⟨n + 1, ry_ea hn hr (fun i hi => (G.2.1 i hi).1) ?_ n (n + 1) 0 (by omega) (by omega) (hp _ _)⟩
  intro i hi hk
  have := hY (ord i) (G.2.1 i hi).1 hk
  rw [(G.2.1 i hi).2] at this
  exact this
theorem ry_charAt {post : Int32 → SY → Prop} {n : Nat} {s o ord pos : Nat → Nat} {par : Nat → Option Nat} (hn : n ≤ 40) (G : rg_G n s o ord pos par (rg_A AB)) (hP : ∀ e, e < n → P e = rg_pc (par e)) (hS : ∀ e, e < n → ST e = nI (s e) ∧ OR e = nI (o e) ∧ s e ≤ 40 ∧ o e < 3) {r : Nat} {t : Int32} (hr : r < 3)
    (hp : ∀ (fo' : Int32) (YO' : Nat → Int32), post (rg_ch CH ((rg_at K D ord r n t).map ord)) (nI n, fo', CH, ST, OR, P, AB, K, D, CK, YO')) : wpY_charAt post (nI n, fo, CH, ST, OR, P, AB, K, D, CK, YO) (nI r) t := by
  unfold wpY_charAt
  dsimp only
  refine ry_elementAt hn G hP hS hr (fun fo' YO' => ?_)
  have hp' := hp fo' YO'
  cases h : rg_at K D ord r n t with
  | none =>
    rw [h] at hp'
    exact br_f (show ¬ (0 : Int32) ≤ -5 by decide) hp'
  | some i =>
    rw [h] at hp'
    have hi := (rg_at_lt h).1
    have hoi := (G.2.1 i hi).1
    refine br_t (show (0 : Int32) ≤ nI (ord i) from nI_pos' (by omega)) ⟨vp_in_nI (by omega) (by omega), ?_⟩
    show post (CH (nI (ord i)).toNatClampNeg) _
    rw [nI_clamp (by omega)]
    exact hp'
end RGA4
