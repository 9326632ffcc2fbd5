section RGA3
variable {CH ST OR ORD K D CK : Nat → Int32} {nn : Int32}
theorem rx_bad {post : Int32 → Prop} {u : SX} {r : Int32} (h : r < 0 ∨ nI 3 ≤ r) (hp : post 0) : wpX_isReplica post u r := by
  obtain ⟨a, b, c, d, e, f, g, i⟩ := u
  rcases h with h | h
  · exact br_t h hp
  · exact br_c (fun _ => hp) (fun _ => br_t h hp)
theorem rx_ok {post : Int32 → Prop} {u : SX} {r : Nat} (h : r < 3) (hp : post 1) : wpX_isReplica post u (nI r) := by
  obtain ⟨a, b, c, d, e, f, g, i⟩ := u
  exact br_f (nI_pos (by omega)) (br_f (nI_ge (b := 3) h (by decide)) hp)
theorem rx_cell {post : Int32 → Prop} {u : SX} {r e : Nat} (hp : post (nI (r * 40 + e))) : wpX_cell post u (nI r) (nI e) := by
  obtain ⟨a, b, c, d, e, f, g, i⟩ := u
  show post (nI r * 40 + nI _)
  rw [rg_cell]
  exact hp
theorem rg_k_t {K : Nat → Int32} {r e : Nat} (h : ¬ K (r * 40 + e) = 0) : rg_k K r e = true := by
  unfold rg_k
  rw [decide_eq_false h]
  rfl
theorem rg_k_f {K : Nat → Int32} {r e : Nat} (h : K (r * 40 + e) = 0) : ¬ rg_k K r e = true := by
  unfold rg_k
  rw [decide_eq_true h]
  exact Bool.false_ne_true
theorem rg_k_n {K : Nat → Int32} {r e : Nat} (h : rg_k K r e = true) : ¬ K (r * 40 + e) = 0 := fun z => rg_k_f z h
theorem rg_h_t {K D : Nat → Int32} {r e : Nat} (h : ¬ K (r * 40 + e) = 0) (h2 : D (r * 40 + e) = 0) : rg_h K D r e = true := by
  unfold rg_h
  rw [rg_k_t h, decide_eq_true h2]
  rfl
theorem rg_h_f1 {K D : Nat → Int32} {r e : Nat} (h : K (r * 40 + e) = 0) : ¬ rg_h K D r e = true := by
  unfold rg_h
  intro z
  exact rg_k_f h (Bool.and_eq_true_iff.mp z).1
theorem rg_h_f2 {K D : Nat → Int32} {r e : Nat} (h : ¬ D (r * 40 + e) = 0) : ¬ rg_h K D r e = true := by
  unfold rg_h
  intro z
  exact h (of_decide_eq_true (Bool.and_eq_true_iff.mp z).2)
theorem rg_h_k {K D : Nat → Int32} {r e : Nat} (h : rg_h K D r e = true) : rg_k K r e = true := (Bool.and_eq_true_iff.mp h).1
theorem rx_inText {post : Int32 → Prop} {r e : Nat} (hr : r < 3) (he : e < 40) (h1 : rg_h K D r e = true → post 1) (h0 : ¬ rg_h K D r e = true → post 0) : wpX_inText post (nn, CH, ST, OR, ORD, K, D, CK) (nI r) (nI e) := by
  unfold wpX_inText
  dsimp only
  refine rx_cell ?_
  have hc : (nI (r * 40 + e)).toNatClampNeg = r * 40 + e := nI_clamp (by omega)
  have hi : vp_in (nI (r * 40 + e)) 120 := vp_in_nI (by omega) (by omega)
  rw [hc]
  refine ⟨hi, ?_⟩
  by_cases z : K (r * 40 + e) = 0
  · exact br_t z (h0 (rg_h_f1 z))
  · refine br_f z ⟨hi, ?_⟩
    by_cases z2 : D (r * 40 + e) = 0
    · exact br_t z2 (h1 (rg_h_t z z2))
    · exact br_f z2 (h0 (rg_h_f2 z2))
theorem rx_kn {post : Int32 → Prop} {r e : Nat} (hr : r < 3) (he : e < 40) (hb : ∀ j, K j = 0 ∨ K j = 1) (h1 : rg_k K r e = true → post 1) (h0 : ¬ rg_k K r e = true → post 0) : wpX_knowsElement post (nn, CH, ST, OR, ORD, K, D, CK) (nI r) (nI e) := by
  unfold wpX_knowsElement
  dsimp only
  refine rx_cell ?_
  have hc : (nI (r * 40 + e)).toNatClampNeg = r * 40 + e := nI_clamp (by omega)
  have hi : vp_in (nI (r * 40 + e)) 120 := vp_in_nI (by omega) (by omega)
  rw [hc]
  refine ⟨hi, rg_bo (hb _), ?_⟩
  by_cases z : K (r * 40 + e) = 0
  · rw [z]
    exact h0 (rg_k_f z)
  · rw [(hb (r * 40 + e)).resolve_left z]
    exact h1 (rg_k_t z)
theorem rx_kd {post : Int32 → Prop} {r e : Nat} (hr : r < 3) (he : e < 40) (hb : ∀ j, D j = 0 ∨ D j = 1) (h1 : ¬ D (r * 40 + e) = 0 → post 1) (h0 : D (r * 40 + e) = 0 → post 0) : wpX_knowsDeletion post (nn, CH, ST, OR, ORD, K, D, CK) (nI r) (nI e) := by
  unfold wpX_knowsDeletion
  dsimp only
  refine rx_cell ?_
  have hc : (nI (r * 40 + e)).toNatClampNeg = r * 40 + e := nI_clamp (by omega)
  have hi : vp_in (nI (r * 40 + e)) 120 := vp_in_nI (by omega) (by omega)
  rw [hc]
  refine ⟨hi, rg_bo (hb _), ?_⟩
  by_cases z : D (r * 40 + e) = 0
  · rw [z]
    exact h0 z
  · rw [(hb (r * 40 + e)).resolve_left z]
    exact h1 z
theorem rg_10 : ¬ (1 : Int32) = 0 := by decide
/-- the text's length -/
theorem rx_len {post : Int32 → Prop} {n r : Nat} (hn : n ≤ 40) (hr : r < 3) (hp : post (nI (rg_C (rg_h K D r) n))) : ∀ m d e : Nat, e + d = n → d < m →
    wX_textLength_4 post (nI r) (nI n) CH ST OR ORD K D CK m (nI (rg_C (rg_h K D r) e)) (nI e) := by
  intro m
  induction m with
  | zero => intro d e _ h; omega
  | succ m ih =>
    intro d e hd hm
    refine rg_le n e (fun z => ?_) (fun z => ?_)
    · have : e = n := by omega
      rw [this]
      exact hp
    · refine rx_inText hr (by omega) (fun z2 => ?_) (fun z2 => ?_)
      · refine br_f rg_10 (nm_r (nI_1 _) (nm_r (nI_1 _) ?_))
        have := ih (d - 1) (e + 1) (by omega) (by omega)
        rw [rg_C_t z2] at this
        exact this
      · refine br_t rfl (nm_r (nI_1 _) ?_)
        have := ih (d - 1) (e + 1) (by omega) (by omega)
        rw [rg_C_f z2] at this
        exact this
theorem rx_textLength {post : Int32 → Prop} {n r : Nat} (hn : n ≤ 40) (hr : r < 3) (hp : post (nI (rg_C (rg_h K D r) n))) : wpX_textLength post (nI n, CH, ST, OR, ORD, K, D, CK) (nI r) :=
  ⟨n + 1, rx_len hn hr hp (n + 1) n 0 (by omega) (by omega)⟩
/-- how many it knows -/
theorem rx_knl {post : Int32 → Prop} {n r : Nat} (hn : n ≤ 40) (hr : r < 3) (hb : ∀ j, K j = 0 ∨ K j = 1) (hp : post (nI (rg_C (rg_k K r) n))) : ∀ m d e : Nat, e + d = n → d < m →
    wX_known_14 post (nI r) (nI n) CH ST OR ORD K D CK m (nI (rg_C (rg_k K r) e)) (nI e) := by
  intro m
  induction m with
  | zero => intro d e _ h; omega
  | succ m ih =>
    intro d e hd hm
    refine rg_le n e (fun z => ?_) (fun z => ?_)
    · have : e = n := by omega
      rw [this]
      exact hp
    · refine rx_kn hr (by omega) hb (fun z2 => ?_) (fun z2 => ?_)
      · refine br_f rg_10 (nm_r (nI_1 _) (nm_r (nI_1 _) ?_))
        have := ih (d - 1) (e + 1) (by omega) (by omega)
        rw [rg_C_t z2] at this
        exact this
      · refine br_t rfl (nm_r (nI_1 _) ?_)
        have := ih (d - 1) (e + 1) (by omega) (by omega)
        rw [rg_C_f z2] at this
        exact this
/-- the place-th of the text: where the order has it -/
def rg_at (K D : Nat → Int32) (ord : Nat → Nat) (r n : Nat) (t : Int32) : Option Nat := rg_fd (fun i => rg_h K D r (ord i)) t n 0 0
def rg_ch (CH : Nat → Int32) : Option Nat → Int32
  | none => -5
  | some e => CH e
theorem rx_tp {post : Int32 → Prop} {ord : Nat → Nat} {n r : Nat} {t : Int32} (hn : n ≤ 40) (hr : r < 3) (ho : ∀ i, i < n → ORD i = nI (ord i) ∧ ord i < n) : ∀ m d i c : Nat, i + d = n → d < m → c ≤ i →
    post (rg_pc (rg_fd (fun i => rg_h K D r (ord i)) t d i c)) →
    wX_textPosition_5 post (nI r) t (nI n) CH ST OR ORD K D CK m (nI c) (nI i) := by
  intro m
  induction m with
  | zero => intro d i c _ h; omega
  | succ m ih =>
    intro d i c hd hm hc hp
    refine rg_le n i (fun z => ?_) (fun z => ⟨vp_in_nI (by omega) (by omega), ?_⟩)
    · have : d = 0 := by omega
      rw [this] at hp
      exact hp
    · obtain ⟨d, rfl⟩ : ∃ d', d = d' + 1 := ⟨d - 1, by omega⟩
      rw [rg_fd_s] at hp
      have e1 : ORD (nI i).toNatClampNeg = nI (ord i) := by
        rw [nI_clamp (by omega)]
        exact (ho i z).1
      have e2 := (ho i z).2
      rw [e1]
      refine rx_inText hr (by omega) (fun z2 => ?_) (fun z2 => ?_)
      · rw [if_pos z2] at hp
        refine br_f rg_10 ?_
        by_cases z3 : nI c = t
        · rw [if_pos z3] at hp
          exact br_t z3 hp
        · rw [if_neg z3] at hp
          exact br_f z3 (nm_r (nI_1 _) (nm_r (nI_1 _) (ih d (i + 1) (c + 1) (by omega) (by omega) (by omega) hp)))
      · rw [if_neg z2] at hp
        exact br_t rfl (nm_r (nI_1 _) (ih d (i + 1) c (by omega) (by omega) (by omega) hp))
theorem rx_textPosition {post : Int32 → Prop} {ord : Nat → Nat} {n r : Nat} {t : Int32} (hn : n ≤ 40) (hr : r < 3) (ho : ∀ i, i < n → ORD i = nI (ord i) ∧ ord i < n) (hp : post (rg_pc (rg_at K D ord r n t))) :
    wpX_textPosition post (nI n, CH, ST, OR, ORD, K, D, CK) (nI r) t :=
  ⟨n + 1, rx_tp hn hr ho (n + 1) n 0 0 (by omega) (by omega) (by omega) hp⟩
theorem rg_at_lt {K D : Nat → Int32} {ord : Nat → Nat} {r n i : Nat} {t : Int32} (h : rg_at K D ord r n t = some i) : i < n ∧ rg_h K D r (ord i) = true := by
  have := rg_fd_lt n 0 0 h
  exact ⟨by omega, this.2.2⟩
theorem rx_textElement {post : Int32 → Prop} {ord : Nat → Nat} {n r : Nat} {t : Int32} (hn : n ≤ 40) (hr : r < 3) (ho : ∀ i, i < n → ORD i = nI (ord i) ∧ ord i < n) (hp : post (rg_pc ((rg_at K D ord r n t).map ord))) :
    wpX_textElement post (nI n, CH, ST, OR, ORD, K, D, CK) (nI r) t := by
  unfold wpX_textElement
  dsimp only
  refine rx_textPosition hn hr ho ?_
  cases h : rg_at K D ord r n t with
  | none =>
    rw [h] at hp
    exact br_t rfl hp
  | some i =>
    rw [h] at hp
    have hi := (rg_at_lt h).1
    have e1 : ORD (nI i).toNatClampNeg = nI (ord i) := by
      rw [nI_clamp (by omega)]
      exact (ho i hi).1
    refine br_f (rg_ne5 (by omega)) ⟨vp_in_nI (by omega) (by omega), ?_⟩
    show post (ORD (nI i).toNatClampNeg)
    rw [e1]
    exact hp
theorem rx_textCharacter {post : Int32 → Prop} {ord : Nat → Nat} {n r : Nat} {t : Int32} (hn : n ≤ 40) (hr : r < 3) (ho : ∀ i, i < n → ORD i = nI (ord i) ∧ ord i < n) (hp : post (rg_ch CH ((rg_at K D ord r n t).map ord))) :
    wpX_textCharacter post (nI n, CH, ST, OR, ORD, K, D, CK) (nI r) t := by
  unfold wpX_textCharacter
  dsimp only
  refine rx_textElement hn hr ho ?_
  cases h : rg_at K D ord r n t with
  | none =>
    rw [h] at hp
    exact br_t rfl hp
  | some i =>
    rw [h] at hp
    have hi := (rg_at_lt h).1
    have e2 := (ho i hi).2
    refine br_f (rg_ne5 (n := ord i) (by omega)) ⟨vp_in_nI (by omega) (by omega), ?_⟩
    show post (CH (nI (ord i)).toNatClampNeg)
    rw [nI_clamp (by omega)]
    exact hp
/-- an element's place in the text, if it is there -/
theorem rx_po1 {post : Int32 → Prop} {ord : Nat → Nat} {n r e q : Nat} (hn : n ≤ 40) (hr : r < 3) (ho : ∀ i, i < n → ORD i = nI (ord i) ∧ ord i < n) (hq : q < n) (eq : ord q = e) (hs : rg_h K D r e = true) (hu : ∀ i, i < n → ord i = e → i = q)
    (hp : post (nI (rg_C (fun i => rg_h K D r (ord i)) q))) : ∀ m d i : Nat, i + d = q → d < m →
    wX_placeOf_15 post (nI r) (nI e) (nI n) CH ST OR ORD K D CK m (nI (rg_C (fun i => rg_h K D r (ord i)) i)) (nI i) := by
  have he : e < n := by rw [← eq]; exact (ho q hq).2
  intro m
  induction m with
  | zero => intro d i _ h; omega
  | succ m ih =>
    intro d i hd hm
    refine rg_le n i (fun z => ?_) (fun z => ⟨vp_in_nI (by omega) (by omega), ?_⟩)
    · omega
    · have e1 : ORD (nI i).toNatClampNeg = nI (ord i) := by
        rw [nI_clamp (by omega)]
        exact (ho i z).1
      have e2 := (ho i z).2
      rw [e1]
      refine rx_inText hr (by omega) (fun z2 => ?_) (fun z2 => ?_)
      · refine br_f rg_10 ⟨vp_in_nI (by omega) (by omega), rg_eq (ord i) e (fun z3 => ?_) (fun z3 => ?_)⟩
        · rw [hu i z z3]
          exact hp
        · refine nm_r (nI_1 _) (nm_r (nI_1 _) ?_)
          have hne : i ≠ q := fun w => z3 (by rw [w]; exact eq)
          have := ih (d - 1) (i + 1) (by omega) (by omega)
          rw [rg_C_t (f := fun i => rg_h K D r (ord i)) z2] at this
          exact this
      · refine br_t rfl (nm_r (nI_1 _) ?_)
        have hne : i ≠ q := fun w => z2 (by rw [w, eq]; exact hs)
        have := ih (d - 1) (i + 1) (by omega) (by omega)
        rw [rg_C_f (f := fun i => rg_h K D r (ord i)) z2] at this
        exact this
theorem rx_po0 {post : Int32 → Prop} {ord : Nat → Nat} {n r : Nat} {t : Int32} (hn : n ≤ 40) (hr : r < 3) (ho : ∀ i, i < n → ORD i = nI (ord i) ∧ ord i < n) (hx : ∀ i, i < n → rg_h K D r (ord i) = true → ¬ nI (ord i) = t)
    (hp : post (-5)) : ∀ m d i c : Nat, i + d = n → d < m →
    wX_placeOf_15 post (nI r) t (nI n) CH ST OR ORD K D CK m (nI c) (nI i) := by
  intro m
  induction m with
  | zero => intro d i c _ h; omega
  | succ m ih =>
    intro d i c hd hm
    refine rg_le n i (fun z => hp) (fun z => ⟨vp_in_nI (by omega) (by omega), ?_⟩)
    have e1 : ORD (nI i).toNatClampNeg = nI (ord i) := by
      rw [nI_clamp (by omega)]
      exact (ho i z).1
    have e2 := (ho i z).2
    rw [e1]
    refine rx_inText hr (by omega) (fun z2 => ?_) (fun z2 => ?_)
    · exact br_f rg_10 ⟨vp_in_nI (by omega) (by omega), br_f (hx i z z2) (nm_r (nI_1 _) (nm_r (nI_1 _) (ih (d - 1) (i + 1) (c + 1) (by omega) (by omega))))⟩
    · exact br_t rfl (nm_r (nI_1 _) (ih (d - 1) (i + 1) c (by omega) (by omega)))
/-- an element's rank, if it is known -/
theorem rx_rk1 {post : Int32 → Prop} {ord : Nat → Nat} {n r e q : Nat} (hn : n ≤ 40) (hr : r < 3) (hb : ∀ j, K j = 0 ∨ K j = 1) (ho : ∀ i, i < n → ORD i = nI (ord i) ∧ ord i < n) (hq : q < n) (eq : ord q = e) (hs : rg_k K r e = true) (hu : ∀ i, i < n → ord i = e → i = q)
    (hp : post (nI (rg_C (fun i => rg_k K r (ord i)) q))) : ∀ m d i : Nat, i + d = q → d < m →
    wX_rank_15 post (nI r) (nI e) (nI n) CH ST OR ORD K D CK m (nI (rg_C (fun i => rg_k K r (ord i)) i)) (nI i) := by
  have he : e < n := by rw [← eq]; exact (ho q hq).2
  intro m
  induction m with
  | zero => intro d i _ h; omega
  | succ m ih =>
    intro d i hd hm
    refine rg_le n i (fun z => ?_) (fun z => ⟨vp_in_nI (by omega) (by omega), ?_⟩)
    · omega
    · have e1 : ORD (nI i).toNatClampNeg = nI (ord i) := by
        rw [nI_clamp (by omega)]
        exact (ho i z).1
      have e2 := (ho i z).2
      rw [e1]
      refine rx_kn hr (by omega) hb (fun z2 => ?_) (fun z2 => ?_)
      · refine br_f rg_10 ⟨vp_in_nI (by omega) (by omega), rg_eq (ord i) e (fun z3 => ?_) (fun z3 => ?_)⟩
        · rw [hu i z z3]
          exact hp
        · refine nm_r (nI_1 _) (nm_r (nI_1 _) ?_)
          have hne : i ≠ q := fun w => z3 (by rw [w]; exact eq)
          have := ih (d - 1) (i + 1) (by omega) (by omega)
          rw [rg_C_t (f := fun i => rg_k K r (ord i)) z2] at this
          exact this
      · refine br_t rfl (nm_r (nI_1 _) ?_)
        have hne : i ≠ q := fun w => z2 (by rw [w, eq]; exact hs)
        have := ih (d - 1) (i + 1) (by omega) (by omega)
        rw [rg_C_f (f := fun i => rg_k K r (ord i)) z2] at this
        exact this
theorem rx_rk0 {post : Int32 → Prop} {ord : Nat → Nat} {n r : Nat} {t : Int32} (hn : n ≤ 40) (hr : r < 3) (hb : ∀ j, K j = 0 ∨ K j = 1) (ho : ∀ i, i < n → ORD i = nI (ord i) ∧ ord i < n) (hx : ∀ i, i < n → rg_k K r (ord i) = true → ¬ nI (ord i) = t)
    (hp : post (-5)) : ∀ m d i c : Nat, i + d = n → d < m →
    wX_rank_15 post (nI r) t (nI n) CH ST OR ORD K D CK m (nI c) (nI i) := by
  intro m
  induction m with
  | zero => intro d i c _ h; omega
  | succ m ih =>
    intro d i c hd hm
    refine rg_le n i (fun z => hp) (fun z => ⟨vp_in_nI (by omega) (by omega), ?_⟩)
    have e1 : ORD (nI i).toNatClampNeg = nI (ord i) := by
      rw [nI_clamp (by omega)]
      exact (ho i z).1
    have e2 := (ho i z).2
    rw [e1]
    refine rx_kn hr (by omega) hb (fun z2 => ?_) (fun z2 => ?_)
    · exact br_f rg_10 ⟨vp_in_nI (by omega) (by omega), br_f (hx i z z2) (nm_r (nI_1 _) (nm_r (nI_1 _) (ih (d - 1) (i + 1) (c + 1) (by omega) (by omega))))⟩
    · exact br_t rfl (nm_r (nI_1 _) (ih (d - 1) (i + 1) c (by omega) (by omega)))
end RGA3
