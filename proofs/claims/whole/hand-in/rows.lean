section
section RGA1
/-! A: counting -/
def rg_C (f : Nat → Bool) : Nat → Nat
  | 0 => 0
  | n + 1 => rg_C f n + (if f n = true then 1 else 0)
theorem rg_C_s (f : Nat → Bool) (n : Nat) : rg_C f (n + 1) = rg_C f n + (if f n = true then 1 else 0) := rfl
theorem rg_C_t {f : Nat → Bool} {n : Nat} (h : f n = true) : rg_C f (n + 1) = rg_C f n + 1 := by rw [rg_C_s, if_pos h]
theorem rg_C_f {f : Nat → Bool} {n : Nat} (h : ¬ f n = true) : rg_C f (n + 1) = rg_C f n := by rw [rg_C_s, if_neg h, Nat.add_zero]
theorem rg_C_ext {f g : Nat → Bool} : ∀ n : Nat, (∀ k, k < n → f k = g k) → rg_C f n = rg_C g n := by
  intro n
  induction n with
  | zero => intro _; rfl
  | succ n ih =>
    intro h
    rw [rg_C_s, rg_C_s, ih (fun k hk => h k (by omega)), h n (by omega)]
theorem rg_C_le (f : Nat → Bool) : ∀ n : Nat, rg_C f n ≤ n := by
  intro n
  induction n with
  | zero => exact Nat.le_refl 0
  | succ n ih =>
    rw [rg_C_s]
    split <;> omega
theorem rg_C_mono (f : Nat → Bool) {a : Nat} : ∀ b : Nat, a ≤ b → rg_C f a ≤ rg_C f b := by
  intro b
  induction b with
  | zero =>
    intro h
    have e : a = 0 := by omega
    rw [e]
    exact Nat.le_refl _
  | succ b ih =>
    intro h
    by_cases e : a = b + 1
    · rw [e]; exact Nat.le_refl _
    · have h2 := ih (by omega)
      rw [rg_C_s]
      omega
theorem rg_C_ins {g g' : Nat → Bool} {q : Nat} (h1 : ∀ i, i < q → g' i = g i) (h2 : ∀ i, q ≤ i → g' (i + 1) = g i) :
    ∀ d : Nat, rg_C g' (q + d + 1) = rg_C g (q + d) + (if g' q = true then 1 else 0) := by
  intro d
  induction d with
  | zero =>
    show rg_C g' (q + 1) = rg_C g q + _
    rw [rg_C_s, rg_C_ext q h1]
  | succ d ih =>
    show rg_C g' (q + d + 1 + 1) = rg_C g (q + d + 1) + _
    rw [rg_C_s, ih, rg_C_s g (q + d), h2 (q + d) (by omega)]
    exact Nat.add_right_comm _ _ _
theorem rg_C_cut (h : Nat → Bool) (p : Nat) : ∀ d : Nat, rg_C (fun i => h i && decide (i < p)) (p + d) = rg_C h p := by
  intro d
  induction d with
  | zero =>
    refine rg_C_ext p ?_
    intro k hk
    show (h k && decide (k < p)) = h k
    rw [decide_eq_true hk, Bool.and_true]
  | succ d ih =>
    show rg_C _ (p + d + 1) = _
    rw [rg_C_f, ih]
    show ¬ (h (p + d) && decide (p + d < p)) = true
    rw [decide_eq_false (by omega), Bool.and_false]
    exact Bool.false_ne_true

/-! B: keys -/
def rg_gt (s o : Nat → Nat) (a b : Nat) : Prop := s b < s a ∨ (s a = s b ∧ o b < o a)
theorem rg_gt_tr {s o : Nat → Nat} {a b c : Nat} (h1 : rg_gt s o a b) (h2 : rg_gt s o b c) : rg_gt s o a c := by
  unfold rg_gt at *
  omega
theorem rg_gt_as {s o : Nat → Nat} {a b : Nat} (h1 : rg_gt s o a b) (h2 : rg_gt s o b a) : False := by
  unfold rg_gt at *
  omega
theorem rg_gt_s {s o : Nat → Nat} {a b : Nat} (h : s b < s a) : rg_gt s o a b := Or.inl h
theorem rg_gt_or {s o : Nat → Nat} {a b : Nat} (h1 : ¬ rg_gt s o a b) (h2 : s a = s b → o a = o b → False) : rg_gt s o b a := by
  have h3 : ¬ (s a = s b ∧ o a = o b) := fun z => h2 z.1 z.2
  clear h2
  unfold rg_gt at *
  omega

/-! C: the order: the parent is the nearest lesser one ahead -/
def rg_G (n : Nat) (s o ord pos : Nat → Nat) (par : Nat → Option Nat) (an : Nat → Nat → Prop) : Prop :=
  (∀ e, e < n → pos e < n ∧ ord (pos e) = e) ∧
  (∀ i, i < n → ord i < n ∧ pos (ord i) = i) ∧
  (∀ a b, a < n → b < n → s a = s b → o a = o b → a = b) ∧
  (∀ e, e < n → par e = none → ∀ i, i < pos e → rg_gt s o (ord i) e) ∧
  (∀ e p, e < n → par e = some p → p < e ∧ pos p < pos e ∧ s p < s e ∧ ∀ i, pos p < i → i < pos e → rg_gt s o (ord i) e) ∧
  (∀ e k, e < n → k < 40 → (an e k ↔ (k = e ∨ ∃ p, par e = some p ∧ an p k))) ∧
  (∀ f : Nat → Bool, rg_C f n = rg_C (fun i => f (ord i)) n)
theorem rg_G_0 {s o ord pos : Nat → Nat} {par : Nat → Option Nat} {an : Nat → Nat → Prop} : rg_G 0 s o ord pos par an :=
  ⟨fun _ h => absurd h (Nat.not_lt_zero _), fun _ h => absurd h (Nat.not_lt_zero _), fun _ _ h => absurd h (Nat.not_lt_zero _), fun _ h => absurd h (Nat.not_lt_zero _), fun _ _ h => absurd h (Nat.not_lt_zero _), fun _ _ h => absurd h (Nat.not_lt_zero _), fun _ => rfl⟩
/-- above, by places -/
theorem rg_an {n : Nat} {s o ord pos : Nat → Nat} {par : Nat → Option Nat} {an : Nat → Nat → Prop} (G : rg_G n s o ord pos par an) (hn : n ≤ 40) :
    ∀ m e k : Nat, e < m → e < n → k < n → (an e k ↔ (pos k ≤ pos e ∧ ∀ i, pos k < i → i ≤ pos e → rg_gt s o (ord i) k)) := by
  obtain ⟨b1, b2, un, p0, p1, ha, hc⟩ := G
  intro m
  induction m with
  | zero => intro e k h; omega
  | succ m ih =>
    intro e k hm he hk
    rw [ha e k he (by omega)]
    constructor
    · intro h
      rcases h with h | ⟨p, hp, hap⟩
      · subst h
        exact ⟨Nat.le_refl _, fun i h1 h2 => by omega⟩
      · obtain ⟨q1, q2, q3, q4⟩ := p1 e p he hp
        obtain ⟨r1, r2⟩ := (ih p k (by omega) (by omega) hk).mp hap
        have hpk : p = k ∨ rg_gt s o p k := by
          by_cases z : pos k = pos p
          · left
            have e1 := (b1 k hk).2
            have e2 := (b1 p (by omega)).2
            rw [← e1, ← e2, z]
          · right
            have := r2 (pos p) (by omega) (Nat.le_refl _)
            rw [(b1 p (by omega)).2] at this
            exact this
        have hek : rg_gt s o e k := by
          rcases hpk with z | z
          · subst z; exact rg_gt_s q3
          · exact rg_gt_tr (rg_gt_s q3) z
        refine ⟨by omega, fun i h1 h2 => ?_⟩
        by_cases z : i ≤ pos p
        · exact r2 i h1 z
        · by_cases z2 : i = pos e
          · rw [z2, (b1 e he).2]; exact hek
          · exact rg_gt_tr (q4 i (by omega) (by omega)) hek
    · intro ⟨h1, h2⟩
      by_cases z : pos k = pos e
      · left
        have e1 := (b1 k hk).2
        have e2 := (b1 e he).2
        rw [← e1, ← e2, z]
      · right
        have hek : rg_gt s o e k := by
          have := h2 (pos e) (by omega) (Nat.le_refl _)
          rw [(b1 e he).2] at this
          exact this
        cases hp : par e with
        | none =>
          have := p0 e he hp (pos k) (by omega)
          rw [(b1 k hk).2] at this
          exact (rg_gt_as this hek).elim
        | some p =>
          obtain ⟨q1, q2, q3, q4⟩ := p1 e p he hp
          have hle : pos k ≤ pos p := by
            by_cases z3 : pos k ≤ pos p
            · exact z3
            · have := q4 (pos k) (by omega) (by omega)
              rw [(b1 k hk).2] at this
              exact (rg_gt_as this hek).elim
          exact ⟨p, rfl, (ih p k (by omega) (by omega) hk).mpr ⟨hle, fun i g1 g2 => h2 i g1 (by omega)⟩⟩
/-- the branches decide -/
theorem rg_bf {n : Nat} {s o ord pos : Nat → Nat} {par : Nat → Option Nat} {an : Nat → Nat → Prop} (G : rg_G n s o ord pos par an) (hn : n ≤ 40) {a b p q : Nat} (ha : a < n) (hb : b < n) (hp : p < n) (hq : q < n)
    (h1 : an a p) (h2 : ¬ an b p) (h3 : an b q) (h4 : ¬ an a q) (h5 : ∀ q', par q = some q' → an a q') (hl : pos a < pos b) : rg_gt s o p q := by
  have A : ∀ e k, e < n → k < n → (an e k ↔ (pos k ≤ pos e ∧ ∀ i, pos k < i → i ≤ pos e → rg_gt s o (ord i) k)) := fun e k he hk => rg_an G hn n e k he he hk
  obtain ⟨b1, b2, un, p0, p1, han, hc⟩ := G
  obtain ⟨x1, x2⟩ := (A a p ha hp).mp h1
  obtain ⟨y1, y2⟩ := (A b q hb hq).mp h3
  have hqa : pos a < pos q := by
    by_cases z : pos a < pos q
    · exact z
    · exact (h4 ((A a q ha hq).mpr ⟨by omega, fun i g1 g2 => y2 i g1 (by omega)⟩)).elim
  have ep := (b1 p hp).2
  cases hpar : par q with
  | none =>
    have := p0 q hq hpar (pos p) (by omega)
    rw [ep] at this
    exact this
  | some q' =>
    obtain ⟨q1, q2, q3, q4⟩ := p1 q q' hq hpar
    by_cases z : pos q' < pos p
    · have := q4 (pos p) z (by omega)
      rw [ep] at this
      exact this
    · exfalso
      have hq' : q' < n := by omega
      have haq := h5 q' hpar
      obtain ⟨w1, w2⟩ := (A a q' ha hq').mp haq
      apply h2
      refine (A b p hb hp).mpr ⟨by omega, fun i g1 g2 => ?_⟩
      by_cases z1 : i ≤ pos a
      · exact x2 i g1 z1
      · by_cases z2 : i ≤ pos q
        · have hqq : rg_gt s o q p := by
            by_cases z4 : pos p = pos q'
            · have e1 := (b1 q' hq').2
              have e2 : q' = p := by rw [← ep, ← e1, z4]
              rw [← e2]
              exact rg_gt_s q3
            · have := x2 (pos q') (by omega) w1
              rw [(b1 q' hq').2] at this
              exact rg_gt_tr (rg_gt_s q3) this
          by_cases z3 : i = pos q
          · rw [z3, (b1 q hq).2]; exact hqq
          · exact rg_gt_tr (q4 i (by omega) (by omega)) hqq
        · have hqq : rg_gt s o q p := by
            by_cases z4 : pos p = pos q'
            · have e1 := (b1 q' hq').2
              have e2 : q' = p := by rw [← ep, ← e1, z4]
              rw [← e2]
              exact rg_gt_s q3
            · have := x2 (pos q') (by omega) w1
              rw [(b1 q' hq').2] at this
              exact rg_gt_tr (rg_gt_s q3) this
          exact rg_gt_tr (y2 i (by omega) g2) hqq
/-- what depends on the first n alone -/
theorem rg_G_ext {n : Nat} {s o s' o' ord pos : Nat → Nat} {par par' : Nat → Option Nat} {an an' : Nat → Nat → Prop} (G : rg_G n s o ord pos par an)
    (hs : ∀ e, e < n → s' e = s e) (ho : ∀ e, e < n → o' e = o e) (hp : ∀ e, e < n → par' e = par e) (ha : ∀ e k, e < n → k < 40 → (an' e k ↔ an e k)) : rg_G n s' o' ord pos par' an' := by
  obtain ⟨b1, b2, un, p0, p1, han, hc⟩ := G
  have hg : ∀ a b, a < n → b < n → rg_gt s o a b → rg_gt s' o' a b := by
    intro a b h1 h2 h
    unfold rg_gt at *
    rw [hs a h1, hs b h2, ho a h1, ho b h2]
    exact h
  refine ⟨b1, b2, ?_, ?_, ?_, ?_, hc⟩
  · intro a b h1 h2 e1 e2
    rw [hs a h1, hs b h2] at e1
    rw [ho a h1, ho b h2] at e2
    exact un a b h1 h2 e1 e2
  · intro e he e1 i hi
    rw [hp e he] at e1
    have := (b1 e he).1
    exact hg _ _ (b2 i (by omega)).1 he (p0 e he e1 i hi)
  · intro e p he e1
    rw [hp e he] at e1
    obtain ⟨q1, q2, q3, q4⟩ := p1 e p he e1
    have := (b1 e he).1
    refine ⟨q1, q2, ?_, fun i g1 g2 => hg _ _ (b2 i (by omega)).1 he (q4 i g1 g2)⟩
    rw [hs e he, hs p (by omega)]
    exact q3
  · intro e k he hk
    rw [ha e k he hk, han e k he hk, hp e he]
    constructor
    · intro h
      rcases h with h | ⟨p, h1, h2⟩
      · exact Or.inl h
      · have := (p1 e p he h1).1
        exact Or.inr ⟨p, h1, (ha p k (by omega) hk).mpr h2⟩
    · intro h
      rcases h with h | ⟨p, h1, h2⟩
      · exact Or.inl h
      · have := (p1 e p he h1).1
        exact Or.inr ⟨p, h1, (ha p k (by omega) hk).mp h2⟩
def rg_io (ord : Nat → Nat) (n q : Nat) : Nat → Nat := fun i => if i < q then ord i else if i = q then n else ord (i - 1)
def rg_ip (pos : Nat → Nat) (n q : Nat) : Nat → Nat := fun e => if e = n then q else if pos e < q then pos e else pos e + 1
theorem rg_io_l {ord : Nat → Nat} {n q i : Nat} (h : i < q) : rg_io ord n q i = ord i := if_pos h
theorem rg_io_e {ord : Nat → Nat} {n q : Nat} : rg_io ord n q q = n := by
  unfold rg_io
  rw [if_neg (Nat.lt_irrefl q), if_pos rfl]
theorem rg_io_g {ord : Nat → Nat} {n q i : Nat} (h : q < i) : rg_io ord n q i = ord (i - 1) := by
  unfold rg_io
  rw [if_neg (by omega), if_neg (by omega)]
theorem rg_ip_n {pos : Nat → Nat} {n q : Nat} : rg_ip pos n q n = q := if_pos rfl
theorem rg_ip_l {pos : Nat → Nat} {n q e : Nat} (h : e < n) (h2 : pos e < q) : rg_ip pos n q e = pos e := by
  unfold rg_ip
  rw [if_neg (by omega), if_pos h2]
theorem rg_ip_g {pos : Nat → Nat} {n q e : Nat} (h : e < n) (h2 : ¬ pos e < q) : rg_ip pos n q e = pos e + 1 := by
  unfold rg_ip
  rw [if_neg (by omega), if_neg h2]
/-- a new element -/
theorem rg_G_ins {n : Nat} {s o ord pos : Nat → Nat} {par : Nat → Option Nat} {an : Nat → Nat → Prop} (G : rg_G n s o ord pos par an) {q st : Nat} (hq : q ≤ n) (hst : st ≤ q)
    (hu : ∀ a, a < n → s a = s n → o a = o n → False)
    (h0 : par n = none → st = 0) (h1 : ∀ p, par n = some p → p < n ∧ st = pos p + 1 ∧ s p < s n)
    (hk : ∀ i, st ≤ i → i < q → rg_gt s o (ord i) n) (hx : q < n → ¬ rg_gt s o (ord q) n)
    (ha : ∀ k, k < 40 → (an n k ↔ (k = n ∨ ∃ p, par n = some p ∧ an p k))) : rg_G (n + 1) s o (rg_io ord n q) (rg_ip pos n q) par an := by
  obtain ⟨b1, b2, un, p0, p1, han, hc⟩ := G
  have hy : q < n → rg_gt s o n (ord q) := fun z => rg_gt_or (hx z) (hu _ (b2 q z).1)
  refine ⟨?_, ?_, ?_, ?_, ?_, ?_, ?_⟩
  · intro e he
    by_cases z : e = n
    · rw [z, rg_ip_n]
      exact ⟨by omega, rg_io_e⟩
    · have he' : e < n := by omega
      obtain ⟨c1, c2⟩ := b1 e he'
      by_cases z2 : pos e < q
      · rw [rg_ip_l he' z2, rg_io_l z2]
        exact ⟨by omega, c2⟩
      · rw [rg_ip_g he' z2, rg_io_g (by omega)]
        exact ⟨by omega, c2⟩
  · intro i hi
    by_cases z : i < q
    · obtain ⟨c1, c2⟩ := b2 i (by omega)
      rw [rg_io_l z, rg_ip_l c1 (by omega)]
      exact ⟨by omega, c2⟩
    · by_cases z2 : i = q
      · rw [z2, rg_io_e, rg_ip_n]
        exact ⟨by omega, rfl⟩
      · obtain ⟨c1, c2⟩ := b2 (i - 1) (by omega)
        rw [rg_io_g (by omega), rg_ip_g c1 (by omega), c2]
        exact ⟨by omega, by omega⟩
  · intro a b h2 h3 e1 e2
    by_cases z : a = n
    · by_cases z2 : b = n
      · rw [z, z2]
      · subst z
        exact (hu b (by omega) e1.symm e2.symm).elim
    · by_cases z2 : b = n
      · subst z2
        exact (hu a (by omega) e1 e2).elim
      · exact un a b (by omega) (by omega) e1 e2
  · intro e he hpe i hi
    by_cases z : e = n
    · subst z
      rw [rg_ip_n] at hi
      rw [rg_io_l hi]
      exact hk i (by have := h0 hpe; omega) hi
    · have he' : e < n := by omega
      obtain ⟨c1, c2⟩ := b1 e he'
      by_cases z2 : i < q
      · rw [rg_io_l z2]
        by_cases z3 : pos e < q
        · rw [rg_ip_l he' z3] at hi
          exact p0 e he' hpe i hi
        · exact p0 e he' hpe i (by omega)
      · by_cases z3 : pos e < q
        · rw [rg_ip_l he' z3] at hi
          omega
        · rw [rg_ip_g he' z3] at hi
          by_cases z4 : i = q
          · subst z4
            rw [rg_io_e]
            have y := hy (by omega)
            by_cases z5 : pos e = i
            · rw [← z5, c2] at y
              exact y
            · exact rg_gt_tr y (p0 e he' hpe i (by omega))
          · rw [rg_io_g (by omega)]
            exact p0 e he' hpe (i - 1) (by omega)
  · intro e p he hpe
    by_cases z : e = n
    · subst z
      obtain ⟨q1, q2, q3⟩ := h1 p hpe
      rw [rg_ip_n, rg_ip_l q1 (by omega)]
      refine ⟨q1, by omega, q3, fun i g1 g2 => ?_⟩
      rw [rg_io_l g2]
      exact hk i (by omega) g2
    · have he' : e < n := by omega
      obtain ⟨c1, c2⟩ := b1 e he'
      obtain ⟨q1, q2, q3, q4⟩ := p1 e p he' hpe
      have hp' : p < n := by omega
      have dp : (pos p < q ∧ rg_ip pos n q p = pos p) ∨ (q ≤ pos p ∧ rg_ip pos n q p = pos p + 1) := by
        by_cases z2 : pos p < q
        · exact Or.inl ⟨z2, rg_ip_l hp' z2⟩
        · exact Or.inr ⟨by omega, rg_ip_g hp' z2⟩
      have de : (pos e < q ∧ rg_ip pos n q e = pos e) ∨ (q ≤ pos e ∧ rg_ip pos n q e = pos e + 1) := by
        by_cases z2 : pos e < q
        · exact Or.inl ⟨z2, rg_ip_l he' z2⟩
        · exact Or.inr ⟨by omega, rg_ip_g he' z2⟩
      refine ⟨q1, by omega, q3, fun i g1 g2 => ?_⟩
      by_cases z2 : i < q
      · rw [rg_io_l z2]
        exact q4 i (by omega) (by omega)
      · by_cases z4 : i = q
        · subst z4
          rw [rg_io_e]
          have y := hy (by omega)
          by_cases z5 : pos e = i
          · rw [← z5, c2] at y
            exact y
          · exact rg_gt_tr y (q4 i (by omega) (by omega))
        · rw [rg_io_g (by omega)]
          exact q4 (i - 1) (by omega) (by omega)
  · intro e k he hk2
    by_cases z : e = n
    · subst z
      exact ha k hk2
    · exact han e k (by omega) hk2
  · intro f
    have w := rg_C_ins (g := fun i => f (ord i)) (g' := fun i => f (rg_io ord n q i)) (q := q) (fun i hi => congrArg f (rg_io_l hi)) (fun i hi => congrArg f (rg_io_g (ord := ord) (n := n) (show q < i + 1 by omega))) (n - q)
    have e1 : q + (n - q) = n := by omega
    rw [e1] at w
    rw [w, rg_C_s, hc f]
    show _ = _ + (if f (rg_io ord n q q) = true then 1 else 0)
    rw [rg_io_e]
/-- the count of those ahead, over elements and over places -/
theorem rg_cnt {n : Nat} {s o ord pos : Nat → Nat} {par : Nat → Option Nat} {an : Nat → Nat → Prop} (G : rg_G n s o ord pos par an) (f : Nat → Bool) {P : Nat} (hP : P ≤ n) :
    rg_C (fun k => f k && decide (pos k < P)) n = rg_C (fun i => f (ord i)) P := by
  obtain ⟨b1, b2, un, p0, p1, han, hc⟩ := G
  rw [hc]
  have w := rg_C_cut (fun i => f (ord i)) P (n - P)
  have e1 : P + (n - P) = n := by omega
  rw [e1] at w
  rw [← w]
  refine rg_C_ext n ?_
  intro k hk
  show (f (ord k) && decide (pos (ord k) < P)) = (f (ord k) && decide (k < P))
  rw [(b2 k hk).2]

/-! D: the first place with a count -/
def rg_fd (f : Nat → Bool) (t : Int32) : Nat → Nat → Nat → Option Nat
  | 0, _, _ => none
  | d + 1, i, c => if f i = true then (if nI c = t then some i else rg_fd f t d (i + 1) (c + 1)) else rg_fd f t d (i + 1) c
theorem rg_fd_s (f : Nat → Bool) (t : Int32) (d i c : Nat) : rg_fd f t (d + 1) i c = if f i = true then (if nI c = t then some i else rg_fd f t d (i + 1) (c + 1)) else rg_fd f t d (i + 1) c := rfl
theorem rg_fd_lt {f : Nat → Bool} {t : Int32} {j : Nat} : ∀ d i c : Nat, rg_fd f t d i c = some j → i ≤ j ∧ j < i + d ∧ f j = true := by
  intro d
  induction d with
  | zero =>
    intro i c h
    cases (show (none : Option Nat) = some j from h)
  | succ d ih =>
    intro i c h
    rw [rg_fd_s] at h
    split at h
    · split at h
      · cases h
        exact ⟨Nat.le_refl _, by omega, by assumption⟩
      · have := ih _ _ h
        exact ⟨by omega, by omega, this.2.2⟩
    · have := ih _ _ h
      exact ⟨by omega, by omega, this.2.2⟩
theorem rg_fd_neg {f : Nat → Bool} {t : Int32} (ht : t < 0) : ∀ d i c : Nat, c + d < 2 ^ 31 → rg_fd f t d i c = none := by
  intro d
  induction d with
  | zero => intro i c _; rfl
  | succ d ih =>
    intro i c h
    rw [rg_fd_s, ih (i + 1) (c + 1) (by omega), ih (i + 1) c (by omega)]
    have : ¬ nI c = t := by
      intro e
      rw [← e] at ht
      exact nI_pos (by omega) ht
    rw [if_neg this]
    split <;> rfl
/-- found just if the count gets beyond it -/
theorem rg_fd_iff {f : Nat → Bool} {p : Nat} (hp : p < 2 ^ 30) : ∀ d i c : Nat, c ≤ p → i + d < 2 ^ 30 → c = rg_C f i → ((∃ j, rg_fd f (nI p) d i c = some j) ↔ p < rg_C f (i + d)) := by
  intro d
  induction d with
  | zero =>
    intro i c h1 h2 h3
    constructor
    · intro ⟨j, h⟩
      cases (show (none : Option Nat) = some j from h)
    · intro h
      have : rg_C f (i + 0) = c := h3.symm
      omega
  | succ d ih =>
    intro i c h1 h2 h3
    have e1 : i + (d + 1) = (i + 1) + d := by omega
    have hc := rg_C_le f i
    rw [rg_fd_s, e1]
    by_cases z : f i = true
    · rw [if_pos z]
      have e2 := rg_C_t z
      by_cases z2 : c = p
      · have z3 : nI c = nI p := by rw [z2]
        rw [if_pos z3]
        have := rg_C_mono f (a := i + 1) (i + 1 + d) (by omega)
        exact ⟨fun _ => by omega, fun _ => ⟨i, rfl⟩⟩
      · have z3 : ¬ nI c = nI p := fun e => z2 ((nI_eq (by omega) (by omega)).mp e)
        rw [if_neg z3]
        exact ih (i + 1) (c + 1) (by omega) (by omega) (by omega)
    · rw [if_neg z]
      have e2 := rg_C_f z
      exact ih (i + 1) c h1 (by omega) (by omega)
end RGA1
end
section
section RGA2
/-! E: numbers -/
theorem rg_us {f : Nat → Int32} {k : Nat} {x : Int32} : upd f k x k = x := if_pos rfl
theorem rg_un {f : Nat → Int32} {k j : Nat} {x : Int32} (h : j ≠ k) : upd f k x j = f j := if_neg h
theorem rg_mul (a b : Nat) : nI a * nI b = nI (a * b) := (Int32.ofNat_mul a b).symm
theorem rg_cell (r e : Nat) : nI r * 40 + nI e = nI (r * 40 + e) := by
  rw [← nI_add, ← rg_mul]
  rfl
theorem rg_m1 {n : Nat} (h : 0 < n) : nI n - 1 = nI (n - 1) := by
  obtain ⟨m, rfl⟩ : ∃ m, n = m + 1 := ⟨n - 1, by omega⟩
  exact nI_pred m
theorem rg_m1' {n : Nat} (h : 0 < n) : nI n + (-1) = nI (n - 1) := by
  obtain ⟨m, rfl⟩ : ∃ m, n = m + 1 := ⟨n - 1, by omega⟩
  show nI (m + 1) + (-1) = nI m
  rw [← nI_1, Int32.add_assoc, show (1 : Int32) + (-1) = 0 from rfl, Int32.add_zero]
theorem rg_ix (x : Int32) {n : Nat} (hn : n < 2 ^ 31) : x < 0 ∨ nI n ≤ x ∨ ∃ j : Nat, j < n ∧ x = nI j := by
  by_cases h : x < 0
  · exact Or.inl h
  · obtain ⟨j, hj, rfl⟩ := nI_of h
    by_cases h2 : j < n
    · exact Or.inr (Or.inr ⟨j, h2, rfl⟩)
    · exact Or.inr (Or.inl (nI_le (by omega) hj))
theorem rg_le {x y : Int32} {A B : Prop} (a b : Nat) (f : a ≤ b → A) (g : b < a → B) (hx : x = nI a := by rfl) (hy : y = nI b := by rfl) (ha : a < 2 ^ 31 := by omega) (hb : b < 2 ^ 31 := by omega) : (x ≤ y → A) ∧ (¬ x ≤ y → B) := by
  subst hx hy
  rw [nI_leI ha hb]
  exact ⟨f, fun z => g (by omega)⟩
theorem rg_lt {x y : Int32} {A B : Prop} (a b : Nat) (f : a < b → A) (g : b ≤ a → B) (hx : x = nI a := by rfl) (hy : y = nI b := by rfl) (ha : a < 2 ^ 31 := by omega) (hb : b < 2 ^ 31 := by omega) : (x < y → A) ∧ (¬ x < y → B) := by
  subst hx hy
  rw [nI_ltI ha hb]
  exact ⟨f, fun z => g (by omega)⟩
theorem rg_eq {x y : Int32} {A B : Prop} (a b : Nat) (f : a = b → A) (g : a ≠ b → B) (hx : x = nI a := by rfl) (hy : y = nI b := by rfl) (ha : a < 2 ^ 31 := by omega) (hb : b < 2 ^ 31 := by omega) : (x = y → A) ∧ (¬ x = y → B) := by
  subst hx hy
  rw [nI_eq ha hb]
  exact ⟨f, g⟩
theorem rg_in {x : Int32} (n N : Nat) (h : n < N) (hx : x = nI n := by rfl) (hN : N < 2 ^ 31 := by omega) : vp_in x N := by
  subst hx
  exact vp_in_nI h hN
theorem rg_ne5 {n : Nat} (h : n < 2 ^ 31) : ¬ nI n = -5 := by
  intro e
  have := nI_pos h
  rw [e] at this
  exact this (by decide)
theorem rg_and255 (x : Int32) : ∃ m : Nat, m < 256 ∧ x &&& 255 = nI m := by
  refine ⟨x.toBitVec.toNat % 2 ^ 8, Nat.mod_lt _ (by decide), ?_⟩
  apply Int32.toBitVec_inj.mp
  apply BitVec.eq_of_toNat_eq
  have hm : (255 : Int32).toBitVec.toNat = 2 ^ 8 - 1 := by decide
  rw [Int32.toBitVec_and, BitVec.toNat_and, hm, Nat.and_two_pow_sub_one_eq_mod]
  show _ = (BitVec.ofNat 32 _).toNat
  rw [BitVec.toNat_ofNat]
  exact (Nat.mod_eq_of_lt (Nat.lt_of_le_of_lt (Nat.mod_le _ _) x.toBitVec.isLt)).symm
theorem rg_nb0 : vp_nar .boolean 0 = 0 := by decide
theorem rg_nb1 : vp_nar .boolean 1 = 1 := by decide
theorem rg_bo {x : Int32} (h : x = 0 ∨ x = 1) : narrow .boolean (.int x) = .int x := by
  rcases h with h | h <;> subst h <;> rfl

/-! F: the relation -/
def rg_pc : Option Nat → Int32
  | none => -5
  | some p => nI p
def rg_A (AB : Nat → Int32) (e k : Nat) : Prop := ¬ AB (e * 40 + k) = 0
def rg_k (K : Nat → Int32) (r e : Nat) : Bool := !(decide (K (r * 40 + e) = 0))
def rg_h (K D : Nat → Int32) (r e : Nat) : Bool := rg_k K r e && decide (D (r * 40 + e) = 0)
def rg_R (n : Nat) (s o ord pos c : Nat → Nat) (par : Nat → Option Nat) (CH ST OR ORD K D CK P AB : Nat → Int32) : Prop :=
  n ≤ 40 ∧ rg_G n s o ord pos par (rg_A AB) ∧
  (∀ e, e < n → ST e = nI (s e) ∧ OR e = nI (o e) ∧ s e ≤ n ∧ o e < 3 ∧ s e ≤ c (o e)) ∧
  (∀ r, r < 3 → CK r = nI (c r) ∧ c r ≤ n) ∧
  (∀ i, i < n → ORD i = nI (ord i)) ∧
  (∀ e, e < n → P e = rg_pc (par e)) ∧
  (∀ j, (K j = 0 ∨ K j = 1) ∧ (D j = 0 ∨ D j = 1)) ∧
  (∀ r e, r < 3 → e < n → ¬ K (r * 40 + e) = 0 → s e ≤ c r) ∧
  (∀ r e, r < 3 → n ≤ e → e < 40 → K (r * 40 + e) = 0) ∧
  (∀ e, e < n → ∃ m : Nat, m < 256 ∧ CH e = nI m)
end RGA2
/-- one state of knowledge; X has the order, Y the parents and who stands above whom -/
def i_Rel (_ : Nat) (u : SX) (v : SY) : Prop :=
  ∃ (n : Nat) (s o ord pos c : Nat → Nat) (par : Nat → Option Nat) (CH ST OR ORD K D CK P AB YO : Nat → Int32) (fo : Int32),
    u = (nI n, CH, ST, OR, ORD, K, D, CK) ∧ v = (nI n, fo, CH, ST, OR, P, AB, K, D, CK, YO) ∧ rg_R n s o ord pos c par CH ST OR ORD K D CK P AB
end
section
section RGA3
variable {CH ST OR ORD K D CK : Nat → Int32} {nn : Int32}
theorem rx_bad {post : Int32 → Prop} {u : SX} {r : Int32} (h : r < 0 ∨ nI 3 ≤ r) (hp : post 0) : wpX_isReplica post u r := by
  obtain ⟨a, b, c, d, e, f, g, i⟩ := u
  rcases h with h | h
  · exact br_t h hp
  · exact br_c (fun _ => hp) (fun _ => br_t h hp)
theorem rx_ok {post : Int32 → Prop} {u : SX} {r : Nat} (h : r < 3) (hp : post 1) : wpX_isReplica post u (nI r) := by
  obtain ⟨a, b, c, d, e, f, g, i⟩ := u
  exact br_f (nI_pos (by omega)) (br_f (nI_ge (b := 3) h (by decide)) hp)
theorem rx_cell {post : Int32 → Prop} {u : SX} {r e : Nat} (hp : post (nI (r * 40 + e))) : wpX_cell post u (nI r) (nI e) := by
  obtain ⟨a, b, c, d, e, f, g, i⟩ := u
  show post (nI r * 40 + nI _)
  rw [rg_cell]
  exact hp
theorem rg_k_t {K : Nat → Int32} {r e : Nat} (h : ¬ K (r * 40 + e) = 0) : rg_k K r e = true := by
  unfold rg_k
  rw [decide_eq_false h]
  rfl
theorem rg_k_f {K : Nat → Int32} {r e : Nat} (h : K (r * 40 + e) = 0) : ¬ rg_k K r e = true := by
  unfold rg_k
  rw [decide_eq_true h]
  exact Bool.false_ne_true
theorem rg_k_n {K : Nat → Int32} {r e : Nat} (h : rg_k K r e = true) : ¬ K (r * 40 + e) = 0 := fun z => rg_k_f z h
theorem rg_h_t {K D : Nat → Int32} {r e : Nat} (h : ¬ K (r * 40 + e) = 0) (h2 : D (r * 40 + e) = 0) : rg_h K D r e = true := by
  unfold rg_h
  rw [rg_k_t h, decide_eq_true h2]
  rfl
theorem rg_h_f1 {K D : Nat → Int32} {r e : Nat} (h : K (r * 40 + e) = 0) : ¬ rg_h K D r e = true := by
  unfold rg_h
  intro z
  exact rg_k_f h (Bool.and_eq_true_iff.mp z).1
theorem rg_h_f2 {K D : Nat → Int32} {r e : Nat} (h : ¬ D (r * 40 + e) = 0) : ¬ rg_h K D r e = true := by
  unfold rg_h
  intro z
  exact h (of_decide_eq_true (Bool.and_eq_true_iff.mp z).2)
theorem rg_h_k {K D : Nat → Int32} {r e : Nat} (h : rg_h K D r e = true) : rg_k K r e = true := (Bool.and_eq_true_iff.mp h).1
theorem rx_inText {post : Int32 → Prop} {r e : Nat} (hr : r < 3) (he : e < 40) (h1 : rg_h K D r e = true → post 1) (h0 : ¬ rg_h K D r e = true → post 0) : wpX_inText post (nn, CH, ST, OR, ORD, K, D, CK) (nI r) (nI e) := by
  unfold wpX_inText
  dsimp only
  refine rx_cell ?_
  have hc : (nI (r * 40 + e)).toNatClampNeg = r * 40 + e := nI_clamp (by omega)
  have hi : vp_in (nI (r * 40 + e)) 120 := vp_in_nI (by omega) (by omega)
  rw [hc]
  refine ⟨hi, ?_⟩
  by_cases z : K (r * 40 + e) = 0
  · exact br_t z (h0 (rg_h_f1 z))
  · refine br_f z ⟨hi, ?_⟩
    by_cases z2 : D (r * 40 + e) = 0
    · exact br_t z2 (h1 (rg_h_t z z2))
    · exact br_f z2 (h0 (rg_h_f2 z2))
theorem rx_kn {post : Int32 → Prop} {r e : Nat} (hr : r < 3) (he : e < 40) (hb : ∀ j, K j = 0 ∨ K j = 1) (h1 : rg_k K r e = true → post 1) (h0 : ¬ rg_k K r e = true → post 0) : wpX_knowsElement post (nn, CH, ST, OR, ORD, K, D, CK) (nI r) (nI e) := by
  unfold wpX_knowsElement
  dsimp only
  refine rx_cell ?_
  have hc : (nI (r * 40 + e)).toNatClampNeg = r * 40 + e := nI_clamp (by omega)
  have hi : vp_in (nI (r * 40 + e)) 120 := vp_in_nI (by omega) (by omega)
  rw [hc]
  refine ⟨hi, rg_bo (hb _), ?_⟩
  by_cases z : K (r * 40 + e) = 0
  · rw [z]
    exact h0 (rg_k_f z)
  · rw [(hb (r * 40 + e)).resolve_left z]
    exact h1 (rg_k_t z)
theorem rx_kd {post : Int32 → Prop} {r e : Nat} (hr : r < 3) (he : e < 40) (hb : ∀ j, D j = 0 ∨ D j = 1) (h1 : ¬ D (r * 40 + e) = 0 → post 1) (h0 : D (r * 40 + e) = 0 → post 0) : wpX_knowsDeletion post (nn, CH, ST, OR, ORD, K, D, CK) (nI r) (nI e) := by
  unfold wpX_knowsDeletion
  dsimp only
  refine rx_cell ?_
  have hc : (nI (r * 40 + e)).toNatClampNeg = r * 40 + e := nI_clamp (by omega)
  have hi : vp_in (nI (r * 40 + e)) 120 := vp_in_nI (by omega) (by omega)
  rw [hc]
  refine ⟨hi, rg_bo (hb _), ?_⟩
  by_cases z : D (r * 40 + e) = 0
  · rw [z]
    exact h0 z
  · rw [(hb (r * 40 + e)).resolve_left z]
    exact h1 z
theorem rg_10 : ¬ (1 : Int32) = 0 := by decide
/-- the text's length -/
theorem rx_len {post : Int32 → Prop} {n r : Nat} (hn : n ≤ 40) (hr : r < 3) (hp : post (nI (rg_C (rg_h K D r) n))) : ∀ m d e : Nat, e + d = n → d < m →
    wX_textLength_4 post (nI r) (nI n) CH ST OR ORD K D CK m (nI (rg_C (rg_h K D r) e)) (nI e) := by
  intro m
  induction m with
  | zero => intro d e _ h; omega
  | succ m ih =>
    intro d e hd hm
    refine rg_le n e (fun z => ?_) (fun z => ?_)
    · have : e = n := by omega
      rw [this]
      exact hp
    · refine rx_inText hr (by omega) (fun z2 => ?_) (fun z2 => ?_)
      · refine br_f rg_10 (nm_r (nI_1 _) (nm_r (nI_1 _) ?_))
        have := ih (d - 1) (e + 1) (by omega) (by omega)
        rw [rg_C_t z2] at this
        exact this
      · refine br_t rfl (nm_r (nI_1 _) ?_)
        have := ih (d - 1) (e + 1) (by omega) (by omega)
        rw [rg_C_f z2] at this
        exact this
theorem rx_textLength {post : Int32 → Prop} {n r : Nat} (hn : n ≤ 40) (hr : r < 3) (hp : post (nI (rg_C (rg_h K D r) n))) : wpX_textLength post (nI n, CH, ST, OR, ORD, K, D, CK) (nI r) :=
  ⟨n + 1, rx_len hn hr hp (n + 1) n 0 (by omega) (by omega)⟩
/-- how many it knows -/
theorem rx_knl {post : Int32 → Prop} {n r : Nat} (hn : n ≤ 40) (hr : r < 3) (hb : ∀ j, K j = 0 ∨ K j = 1) (hp : post (nI (rg_C (rg_k K r) n))) : ∀ m d e : Nat, e + d = n → d < m →
    wX_known_14 post (nI r) (nI n) CH ST OR ORD K D CK m (nI (rg_C (rg_k K r) e)) (nI e) := by
  intro m
  induction m with
  | zero => intro d e _ h; omega
  | succ m ih =>
    intro d e hd hm
    refine rg_le n e (fun z => ?_) (fun z => ?_)
    · have : e = n := by omega
      rw [this]
      exact hp
    · refine rx_kn hr (by omega) hb (fun z2 => ?_) (fun z2 => ?_)
      · refine br_f rg_10 (nm_r (nI_1 _) (nm_r (nI_1 _) ?_))
        have := ih (d - 1) (e + 1) (by omega) (by omega)
        rw [rg_C_t z2] at this
        exact this
      · refine br_t rfl (nm_r (nI_1 _) ?_)
        have := ih (d - 1) (e + 1) (by omega) (by omega)
        rw [rg_C_f z2] at this
        exact this
/-- the place-th of the text: where the order has it -/
def rg_at (K D : Nat → Int32) (ord : Nat → Nat) (r n : Nat) (t : Int32) : Option Nat := rg_fd (fun i => rg_h K D r (ord i)) t n 0 0
def rg_ch (CH : Nat → Int32) : Option Nat → Int32
  | none => -5
  | some e => CH e
theorem rx_tp {post : Int32 → Prop} {ord : Nat → Nat} {n r : Nat} {t : Int32} (hn : n ≤ 40) (hr : r < 3) (ho : ∀ i, i < n → ORD i = nI (ord i) ∧ ord i < n) : ∀ m d i c : Nat, i + d = n → d < m → c ≤ i →
    post (rg_pc (rg_fd (fun i => rg_h K D r (ord i)) t d i c)) →
    wX_textPosition_5 post (nI r) t (nI n) CH ST OR ORD K D CK m (nI c) (nI i) := by
  intro m
  induction m with
  | zero => intro d i c _ h; omega
  | succ m ih =>
    intro d i c hd hm hc hp
    refine rg_le n i (fun z => ?_) (fun z => ⟨vp_in_nI (by omega) (by omega), ?_⟩)
    · have : d = 0 := by omega
      rw [this] at hp
      exact hp
    · obtain ⟨d, rfl⟩ : ∃ d', d = d' + 1 := ⟨d - 1, by omega⟩
      rw [rg_fd_s] at hp
      have e1 : ORD (nI i).toNatClampNeg = nI (ord i) := by
        rw [nI_clamp (by omega)]
        exact (ho i z).1
      have e2 := (ho i z).2
      rw [e1]
      refine rx_inText hr (by omega) (fun z2 => ?_) (fun z2 => ?_)
      · rw [if_pos z2] at hp
        refine br_f rg_10 ?_
        by_cases z3 : nI c = t
        · rw [if_pos z3] at hp
          exact br_t z3 hp
        · rw [if_neg z3] at hp
          exact br_f z3 (nm_r (nI_1 _) (nm_r (nI_1 _) (ih d (i + 1) (c + 1) (by omega) (by omega) (by omega) hp)))
      · rw [if_neg z2] at hp
        exact br_t rfl (nm_r (nI_1 _) (ih d (i + 1) c (by omega) (by omega) (by omega) hp))
theorem rx_textPosition {post : Int32 → Prop} {ord : Nat → Nat} {n r : Nat} {t : Int32} (hn : n ≤ 40) (hr : r < 3) (ho : ∀ i, i < n → ORD i = nI (ord i) ∧ ord i < n) (hp : post (rg_pc (rg_at K D ord r n t))) :
    wpX_textPosition post (nI n, CH, ST, OR, ORD, K, D, CK) (nI r) t :=
  ⟨n + 1, rx_tp hn hr ho (n + 1) n 0 0 (by omega) (by omega) (by omega) hp⟩
theorem rg_at_lt {K D : Nat → Int32} {ord : Nat → Nat} {r n i : Nat} {t : Int32} (h : rg_at K D ord r n t = some i) : i < n ∧ rg_h K D r (ord i) = true := by
  have := rg_fd_lt n 0 0 h
  exact ⟨by omega, this.2.2⟩
theorem rx_textElement {post : Int32 → Prop} {ord : Nat → Nat} {n r : Nat} {t : Int32} (hn : n ≤ 40) (hr : r < 3) (ho : ∀ i, i < n → ORD i = nI (ord i) ∧ ord i < n) (hp : post (rg_pc ((rg_at K D ord r n t).map ord))) :
    wpX_textElement post (nI n, CH, ST, OR, ORD, K, D, CK) (nI r) t := by
  unfold wpX_textElement
  dsimp only
  refine rx_textPosition hn hr ho ?_
  cases h : rg_at K D ord r n t with
  | none =>
    rw [h] at hp
    exact br_t rfl hp
  | some i =>
    rw [h] at hp
    have hi := (rg_at_lt h).1
    have e1 : ORD (nI i).toNatClampNeg = nI (ord i) := by
      rw [nI_clamp (by omega)]
      exact (ho i hi).1
    refine br_f (rg_ne5 (by omega)) ⟨vp_in_nI (by omega) (by omega), ?_⟩
    show post (ORD (nI i).toNatClampNeg)
    rw [e1]
    exact hp
theorem rx_textCharacter {post : Int32 → Prop} {ord : Nat → Nat} {n r : Nat} {t : Int32} (hn : n ≤ 40) (hr : r < 3) (ho : ∀ i, i < n → ORD i = nI (ord i) ∧ ord i < n) (hp : post (rg_ch CH ((rg_at K D ord r n t).map ord))) :
    wpX_textCharacter post (nI n, CH, ST, OR, ORD, K, D, CK) (nI r) t := by
  unfold wpX_textCharacter
  dsimp only
  refine rx_textElement hn hr ho ?_
  cases h : rg_at K D ord r n t with
  | none =>
    rw [h] at hp
    exact br_t rfl hp
  | some i =>
    rw [h] at hp
    have hi := (rg_at_lt h).1
    have e2 := (ho i hi).2
    refine br_f (rg_ne5 (n := ord i) (by omega)) ⟨vp_in_nI (by omega) (by omega), ?_⟩
    show post (CH (nI (ord i)).toNatClampNeg)
    rw [nI_clamp (by omega)]
    exact hp
/-- an element's place in the text, if it is there -/
theorem rx_po1 {post : Int32 → Prop} {ord : Nat → Nat} {n r e q : Nat} (hn : n ≤ 40) (hr : r < 3) (ho : ∀ i, i < n → ORD i = nI (ord i) ∧ ord i < n) (hq : q < n) (eq : ord q = e) (hs : rg_h K D r e = true) (hu : ∀ i, i < n → ord i = e → i = q)
    (hp : post (nI (rg_C (fun i => rg_h K D r (ord i)) q))) : ∀ m d i : Nat, i + d = q → d < m →
    wX_placeOf_15 post (nI r) (nI e) (nI n) CH ST OR ORD K D CK m (nI (rg_C (fun i => rg_h K D r (ord i)) i)) (nI i) := by
  have he : e < n := by rw [← eq]; exact (ho q hq).2
  intro m
  induction m with
  | zero => intro d i _ h; omega
  | succ m ih =>
    intro d i hd hm
    refine rg_le n i (fun z => ?_) (fun z => ⟨vp_in_nI (by omega) (by omega), ?_⟩)
    · omega
    · have e1 : ORD (nI i).toNatClampNeg = nI (ord i) := by
        rw [nI_clamp (by omega)]
        exact (ho i z).1
      have e2 := (ho i z).2
      rw [e1]
      refine rx_inText hr (by omega) (fun z2 => ?_) (fun z2 => ?_)
      · refine br_f rg_10 ⟨vp_in_nI (by omega) (by omega), rg_eq (ord i) e (fun z3 => ?_) (fun z3 => ?_)⟩
        · rw [hu i z z3]
          exact hp
        · refine nm_r (nI_1 _) (nm_r (nI_1 _) ?_)
          have hne : i ≠ q := fun w => z3 (by rw [w]; exact eq)
          have := ih (d - 1) (i + 1) (by omega) (by omega)
          rw [rg_C_t (f := fun i => rg_h K D r (ord i)) z2] at this
          exact this
      · refine br_t rfl (nm_r (nI_1 _) ?_)
        have hne : i ≠ q := fun w => z2 (by rw [w, eq]; exact hs)
        have := ih (d - 1) (i + 1) (by omega) (by omega)
        rw [rg_C_f (f := fun i => rg_h K D r (ord i)) z2] at this
        exact this
theorem rx_po0 {post : Int32 → Prop} {ord : Nat → Nat} {n r : Nat} {t : Int32} (hn : n ≤ 40) (hr : r < 3) (ho : ∀ i, i < n → ORD i = nI (ord i) ∧ ord i < n) (hx : ∀ i, i < n → rg_h K D r (ord i) = true → ¬ nI (ord i) = t)
    (hp : post (-5)) : ∀ m d i c : Nat, i + d = n → d < m →
    wX_placeOf_15 post (nI r) t (nI n) CH ST OR ORD K D CK m (nI c) (nI i) := by
  intro m
  induction m with
  | zero => intro d i c _ h; omega
  | succ m ih =>
    intro d i c hd hm
    refine rg_le n i (fun z => hp) (fun z => ⟨vp_in_nI (by omega) (by omega), ?_⟩)
    have e1 : ORD (nI i).toNatClampNeg = nI (ord i) := by
      rw [nI_clamp (by omega)]
      exact (ho i z).1
    have e2 := (ho i z).2
    rw [e1]
    refine rx_inText hr (by omega) (fun z2 => ?_) (fun z2 => ?_)
    · exact br_f rg_10 ⟨vp_in_nI (by omega) (by omega), br_f (hx i z z2) (nm_r (nI_1 _) (nm_r (nI_1 _) (ih (d - 1) (i + 1) (c + 1) (by omega) (by omega))))⟩
    · exact br_t rfl (nm_r (nI_1 _) (ih (d - 1) (i + 1) c (by omega) (by omega)))
/-- an element's rank, if it is known -/
theorem rx_rk1 {post : Int32 → Prop} {ord : Nat → Nat} {n r e q : Nat} (hn : n ≤ 40) (hr : r < 3) (hb : ∀ j, K j = 0 ∨ K j = 1) (ho : ∀ i, i < n → ORD i = nI (ord i) ∧ ord i < n) (hq : q < n) (eq : ord q = e) (hs : rg_k K r e = true) (hu : ∀ i, i < n → ord i = e → i = q)
    (hp : post (nI (rg_C (fun i => rg_k K r (ord i)) q))) : ∀ m d i : Nat, i + d = q → d < m →
    wX_rank_15 post (nI r) (nI e) (nI n) CH ST OR ORD K D CK m (nI (rg_C (fun i => rg_k K r (ord i)) i)) (nI i) := by
  have he : e < n := by rw [← eq]; exact (ho q hq).2
  intro m
  induction m with
  | zero => intro d i _ h; omega
  | succ m ih =>
    intro d i hd hm
    refine rg_le n i (fun z => ?_) (fun z => ⟨vp_in_nI (by omega) (by omega), ?_⟩)
    · omega
    · have e1 : ORD (nI i).toNatClampNeg = nI (ord i) := by
        rw [nI_clamp (by omega)]
        exact (ho i z).1
      have e2 := (ho i z).2
      rw [e1]
      refine rx_kn hr (by omega) hb (fun z2 => ?_) (fun z2 => ?_)
      · refine br_f rg_10 ⟨vp_in_nI (by omega) (by omega), rg_eq (ord i) e (fun z3 => ?_) (fun z3 => ?_)⟩
        · rw [hu i z z3]
          exact hp
        · refine nm_r (nI_1 _) (nm_r (nI_1 _) ?_)
          have hne : i ≠ q := fun w => z3 (by rw [w]; exact eq)
          have := ih (d - 1) (i + 1) (by omega) (by omega)
          rw [rg_C_t (f := fun i => rg_k K r (ord i)) z2] at this
          exact this
      · refine br_t rfl (nm_r (nI_1 _) ?_)
        have hne : i ≠ q := fun w => z2 (by rw [w, eq]; exact hs)
        have := ih (d - 1) (i + 1) (by omega) (by omega)
        rw [rg_C_f (f := fun i => rg_k K r (ord i)) z2] at this
        exact this
theorem rx_rk0 {post : Int32 → Prop} {ord : Nat → Nat} {n r : Nat} {t : Int32} (hn : n ≤ 40) (hr : r < 3) (hb : ∀ j, K j = 0 ∨ K j = 1) (ho : ∀ i, i < n → ORD i = nI (ord i) ∧ ord i < n) (hx : ∀ i, i < n → rg_k K r (ord i) = true → ¬ nI (ord i) = t)
    (hp : post (-5)) : ∀ m d i c : Nat, i + d = n → d < m →
    wX_rank_15 post (nI r) t (nI n) CH ST OR ORD K D CK m (nI c) (nI i) := by
  intro m
  induction m with
  | zero => intro d i c _ h; omega
  | succ m ih =>
    intro d i c hd hm
    refine rg_le n i (fun z => hp) (fun z => ⟨vp_in_nI (by omega) (by omega), ?_⟩)
    have e1 : ORD (nI i).toNatClampNeg = nI (ord i) := by
      rw [nI_clamp (by omega)]
      exact (ho i z).1
    have e2 := (ho i z).2
    rw [e1]
    refine rx_kn hr (by omega) hb (fun z2 => ?_) (fun z2 => ?_)
    · exact br_f rg_10 ⟨vp_in_nI (by omega) (by omega), br_f (hx i z z2) (nm_r (nI_1 _) (nm_r (nI_1 _) (ih (d - 1) (i + 1) (c + 1) (by omega) (by omega))))⟩
    · exact br_t rfl (nm_r (nI_1 _) (ih (d - 1) (i + 1) c (by omega) (by omega)))
end RGA3
end
section
section RGA4
variable {CH ST OR P AB K D CK YO : Nat → Int32} {nn fo : Int32}
theorem ry_bad {post : Int32 → Prop} {u : SY} {r : Int32} (h : r < 0 ∨ nI 3 ≤ r) (hp : post 0) : wpY_isReplica post u r := by
  obtain ⟨a, b, c, d, e, f, g, i, j, k, l⟩ := u
  rcases h with h | h
  · exact br_t h hp
  · exact br_c (fun _ => hp) (fun _ => br_t h hp)
theorem ry_ok {post : Int32 → Prop} {u : SY} {r : Nat} (h : r < 3) (hp : post 1) : wpY_isReplica post u (nI r) := by
  obtain ⟨a, b, c, d, e, f, g, i, j, k, l⟩ := u
  exact br_f (nI_pos (by omega)) (br_f (nI_ge (b := 3) h (by decide)) hp)
theorem ry_kn {post : Int32 → Prop} {n r e : Nat} (hn : n ≤ 40) (hr : r < 3) (he : e < n) (h1 : rg_k K r e = true → post 1) (h0 : ¬ rg_k K r e = true → post 0) : wpY_isKnown post (nI n, fo, CH, ST, OR, P, AB, K, D, CK, YO) (nI r) (nI e) := by
  unfold wpY_isKnown
  dsimp only
  rw [rg_cell, nI_clamp (n := r * 40 + e) (by omega)]
  refine br_f (nI_pos (by omega)) (br_f (nI_ge he (by omega)) ⟨vp_in_nI (by omega) (by omega), ?_⟩)
  by_cases z : K (r * 40 + e) = 0
  · exact br_t z (h0 (rg_k_f z))
  · exact br_f z (h1 (rg_k_t z))
theorem ry_kn0 {post : Int32 → Prop} {n : Nat} {r t : Int32} (ht : t < 0 ∨ nI n ≤ t) (h0 : post 0) : wpY_isKnown post (nI n, fo, CH, ST, OR, P, AB, K, D, CK, YO) r t := by
  unfold wpY_isKnown
  dsimp only
  rcases ht with h | h
  · exact br_t h h0
  · exact br_c (fun _ => h0) (fun _ => br_t h h0)
theorem ry_sh {post : Int32 → Prop} {n r e : Nat} (hn : n ≤ 40) (hr : r < 3) (he : e < n) (h1 : rg_h K D r e = true → post 1) (h0 : ¬ rg_h K D r e = true → post 0) : wpY_isShown post (nI n, fo, CH, ST, OR, P, AB, K, D, CK, YO) (nI r) (nI e) := by
  unfold wpY_isShown
  dsimp only
  rw [rg_cell, nI_clamp (n := r * 40 + e) (by omega)]
  refine ry_kn hn hr he (fun z => ?_) (fun z => ?_)
  · refine br_f rg_10 ⟨vp_in_nI (by omega) (by omega), ?_⟩
    by_cases z2 : D (r * 40 + e) = 0
    · exact br_t z2 (h1 (rg_h_t (rg_k_n z) z2))
    · exact br_f z2 (h0 (rg_h_f2 z2))
  · exact br_t rfl (h0 (fun w => z (rg_h_k w)))
theorem ry_sh0 {post : Int32 → Prop} {n : Nat} {r t : Int32} (ht : t < 0 ∨ nI n ≤ t) (h0 : post 0) : wpY_isShown post (nI n, fo, CH, ST, OR, P, AB, K, D, CK, YO) r t := by
  unfold wpY_isShown
  dsimp only
  exact ry_kn0 ht (br_t rfl h0)
/-- the length -/
theorem ry_len {post : Int32 → Prop} {n r : Nat} (hn : n ≤ 40) (hr : r < 3) (hp : post (nI (rg_C (rg_h K D r) n))) : ∀ m d e : Nat, e + d = n → d < m →
    wY_length_14 post (nI r) (nI n) fo CH ST OR P AB K D CK YO m (nI (rg_C (rg_h K D r) e)) (nI e) := by
  intro m
  induction m with
  | zero => intro d e _ h; omega
  | succ m ih =>
    intro d e hd hm
    refine rg_le n e (fun z => ?_) (fun z => ?_)
    · have : e = n := by omega
      rw [this]
      exact hp
    · refine ry_sh hn hr (by omega) (fun z2 => ?_) (fun z2 => ?_)
      · refine br_f rg_10 (nm_r (nI_1 _) (nm_r (nI_1 _) ?_))
        have := ih (d - 1) (e + 1) (by omega) (by omega)
        rw [rg_C_t z2] at this
        exact this
      · refine br_t rfl (nm_r (nI_1 _) ?_)
        have := ih (d - 1) (e + 1) (by omega) (by omega)
        rw [rg_C_f z2] at this
        exact this
theorem ry_length {post : Int32 → Prop} {n r : Nat} (hn : n ≤ 40) (hr : r < 3) (hp : post (nI (rg_C (rg_h K D r) n))) : wpY_length post (nI n, fo, CH, ST, OR, P, AB, K, D, CK, YO) (nI r) := by
  unfold wpY_length
  dsimp only
  exact ry_ok hr (br_f rg_10 ⟨n + 1, ry_len hn hr hp (n + 1) n 0 (by omega) (by omega)⟩)
/-- how many it knows -/
theorem ry_knl {post : Int32 → Prop} {n r : Nat} (hn : n ≤ 40) (hr : r < 3) (hp : post (nI (rg_C (rg_k K r) n))) : ∀ m d e : Nat, e + d = n → d < m →
    wY_known_14 post (nI r) (nI n) fo CH ST OR P AB K D CK YO m (nI (rg_C (rg_k K r) e)) (nI e) := by
  intro m
  induction m with
  | zero => intro d e _ h; omega
  | succ m ih =>
    intro d e hd hm
    refine rg_le n e (fun z => ?_) (fun z => ?_)
    · have : e = n := by omega
      rw [this]
      exact hp
    · refine ry_kn hn hr (by omega) (fun z2 => ?_) (fun z2 => ?_)
      · refine br_f rg_10 (nm_r (nI_1 _) (nm_r (nI_1 _) ?_))
        have := ih (d - 1) (e + 1) (by omega) (by omega)
        rw [rg_C_t z2] at this
        exact this
      · refine br_t rfl (nm_r (nI_1 _) ?_)
        have := ih (d - 1) (e + 1) (by omega) (by omega)
        rw [rg_C_f z2] at this
        exact this
/-- above goes through -/
theorem rg_an_tr {n : Nat} {s o ord pos : Nat → Nat} {par : Nat → Option Nat} {an : Nat → Nat → Prop} (G : rg_G n s o ord pos par an) (hn : n ≤ 40) {e k j : Nat} (he : e < n) (hk : k < n) (hj : j < n) (h1 : an e k) (h2 : an k j) : an e j := by
  have A : ∀ e k, e < n → k < n → (an e k ↔ (pos k ≤ pos e ∧ ∀ i, pos k < i → i ≤ pos e → rg_gt s o (ord i) k)) := fun e k he hk => rg_an G hn n e k he he hk
  obtain ⟨x1, x2⟩ := (A e k he hk).mp h1
  obtain ⟨y1, y2⟩ := (A k j hk hj).mp h2
  refine (A e j he hj).mpr ⟨by omega, fun i g1 g2 => ?_⟩
  by_cases z : i ≤ pos k
  · exact y2 i g1 z
  · have w := x2 i (by omega) g2
    by_cases z2 : pos j = pos k
    · have e1 := (G.1 j hj).2
      have e2 := (G.1 k hk).2
      have e3 : j = k := by rw [← e1, ← e2, z2]
      rw [e3]
      exact w
    · have w2 := y2 (pos k) (by omega) (Nat.le_refl _)
      rw [(G.1 k hk).2] at w2
      exact rg_gt_tr w w2
/-- the branch of a, seen from b -/
theorem ry_br {post : Int32 → Prop} {n : Nat} {s o ord pos : Nat → Nat} {par : Nat → Option Nat} (hn : n ≤ 40) (G : rg_G n s o ord pos par (rg_A AB)) (hP : ∀ e, e < n → P e = rg_pc (par e)) {a b : Nat} (ha : a < n) (hb : b < n)
    (hp : ∀ p, p < n → rg_A AB a p → ¬ rg_A AB b p → (∀ p', par p = some p' → rg_A AB b p') → post (nI p)) : ∀ m t : Nat, t < n → t < m → rg_A AB a t → ¬ rg_A AB b t →
    wY_branch_2 post (nI b) (nI n) fo CH ST OR P AB K D CK YO m (nI t) := by
  intro m
  induction m with
  | zero => intro t _ h; omega
  | succ m ih =>
    intro t ht hm h1 h2
    refine ⟨vp_in_nI (by omega) (by omega), ?_⟩
    have e1 : P (nI t).toNatClampNeg = rg_pc (par t) := by
      rw [nI_clamp (by omega)]
      exact hP t ht
    rw [e1]
    cases hpar : par t with
    | none =>
      refine br_t (show (-5 : Int32) < 0 by decide) (hp t ht h1 h2 ?_)
      intro p' hp'
      rw [hpar] at hp'
      cases hp'
    | some p =>
      have hpt := (G.2.2.2.2.1 t p ht hpar).1
      rw [show rg_pc (some p) = nI p from rfl, rg_cell b p, nI_clamp (n := b * 40 + p) (by omega)]
      refine br_f (nI_pos (by omega)) ⟨vp_in_nI (by omega) (by omega), vp_in_nI (by omega) (by omega), ?_⟩
      by_cases z : AB (b * 40 + p) = 0
      · refine br_t z ⟨vp_in_nI (by omega) (by omega), nm_e (ih p (by omega) (by omega) ?_ (fun w => w z))⟩
        have hpp : rg_A AB p p := (G.2.2.2.2.2.1 p p (by omega) (by omega)).mpr (Or.inl rfl)
        have htp : rg_A AB t p := (G.2.2.2.2.2.1 t p ht (by omega)).mpr (Or.inr ⟨p, hpar, hpp⟩)
        exact rg_an_tr G hn ha ht (by omega) h1 htp
      · refine br_f z (hp t ht h1 h2 ?_)
        intro p' hp'
        rw [hpar] at hp'
        cases hp'
        exact z
/-- which of two comes first -/
theorem ry_bf {post : Int32 → Prop} {n : Nat} {s o ord pos : Nat → Nat} {par : Nat → Option Nat} (hn : n ≤ 40) (G : rg_G n s o ord pos par (rg_A AB)) (hP : ∀ e, e < n → P e = rg_pc (par e)) (hS : ∀ e, e < n → ST e = nI (s e) ∧ OR e = nI (o e) ∧ s e ≤ 40 ∧ o e < 3) {a b : Nat} (ha : a < n) (hb : b < n) (hab : a ≠ b)
    (h1 : pos a < pos b → post 1) (h0 : ¬ pos a < pos b → post 0) : wpY_before post (nI n, fo, CH, ST, OR, P, AB, K, D, CK, YO) (nI a) (nI b) := by
  have A := fun e k he hk => rg_an G hn n e k he he hk
  have hpos : pos a ≠ pos b := by
    intro w
    apply hab
    have e1 := (G.1 a ha).2
    have e2 := (G.1 b hb).2
    rw [← e1, ← e2, w]
  unfold wpY_before
  dsimp only
  rw [rg_cell b a, rg_cell a b, nI_clamp (n := b * 40 + a) (by omega), nI_clamp (n := a * 40 + b) (by omega)]
  refine ⟨vp_in_nI (by omega) (by omega), ?_⟩
  by_cases z1 : AB (b * 40 + a) = 0
  · refine br_t z1 ⟨vp_in_nI (by omega) (by omega), ?_⟩
    by_cases z2 : AB (a * 40 + b) = 0
    · have aa : rg_A AB a a := (G.2.2.2.2.2.1 a a ha (by omega)).mpr (Or.inl rfl)
      have bb : rg_A AB b b := (G.2.2.2.2.2.1 b b hb (by omega)).mpr (Or.inl rfl)
      refine br_t z2 ⟨a + 1, ry_br hn G hP ha hb ?_ (a + 1) a ha (by omega) aa (fun w => w z1)⟩
      intro p hp p1 p2 p3
      refine ⟨b + 1, ry_br hn G hP hb ha ?_ (b + 1) b hb (by omega) bb (fun w => w z2)⟩
      intro q hq q1 q2 q3
      have hd : (pos a < pos b ∧ rg_gt s o p q) ∨ (pos b < pos a ∧ rg_gt s o q p) := by
        by_cases z : pos a < pos b
        · exact Or.inl ⟨z, rg_bf G hn ha hb hp hq p1 p2 q1 q2 q3 z⟩
        · have z' : pos b < pos a := by omega
          exact Or.inr ⟨z', rg_bf G hn hb ha hq hp q1 q2 p1 p2 p3 z'⟩
      unfold rg_gt at hd
      obtain ⟨sp, op, bp, cp⟩ := hS p hp
      obtain ⟨sq, oq, bq, cq⟩ := hS q hq
      have ip : vp_in (nI p) 40 := vp_in_nI (by omega) (by omega)
      have iq : vp_in (nI q) 40 := vp_in_nI (by omega) (by omega)
      rw [nI_clamp (n := p) (by omega), nI_clamp (n := q) (by omega), sp, sq, op, oq]
      refine ⟨ip, iq, rg_lt (s q) (s p) (fun w => h1 (by omega)) (fun w => ⟨ip, iq, rg_eq (s p) (s q) (fun w2 => ⟨ip, iq, rg_le (o p) (o q) (fun w3 => h0 (by omega)) (fun w3 => h1 (by omega))⟩) (fun w2 => h0 (by omega))⟩)⟩
    · have := ((A a b ha hb).mp z2).1
      exact br_f z2 (h0 (by omega))
  · have := ((A b a hb ha).mp z1).1
    exact br_f z1 (h1 (by omega))
/-- the rank by counting -/
theorem rg_and_f {x y : Bool} (h : ¬ y = true) : ¬ (x && y) = true := fun w => h (Bool.and_eq_true_iff.mp w).2
theorem rg_and_g {x y : Bool} (h : ¬ x = true) : ¬ (x && y) = true := fun w => h (Bool.and_eq_true_iff.mp w).1
theorem ry_rk {post : Int32 → Prop} {n : Nat} {s o ord pos : Nat → Nat} {par : Nat → Option Nat} (hn : n ≤ 40) (G : rg_G n s o ord pos par (rg_A AB)) (hP : ∀ e, e < n → P e = rg_pc (par e)) (hS : ∀ e, e < n → ST e = nI (s e) ∧ OR e = nI (o e) ∧ s e ≤ 40 ∧ o e < 3) {r e : Nat} (hr : r < 3) (he : e < n)
    (hp : post (nI (rg_C (fun k => rg_k K r k && decide (pos k < pos e)) n))) : ∀ m d k : Nat, k + d = n → d < m →
    wY_rankOf_5 post (nI r) (nI e) (nI n) fo CH ST OR P AB K D CK YO m (nI (rg_C (fun k => rg_k K r k && decide (pos k < pos e)) k)) (nI k) := by
  intro m
  induction m with
  | zero => intro d k _ h; omega
  | succ m ih =>
    intro d k hd hm
    refine rg_le n k (fun z => ?_) (fun z => rg_eq k e (fun z2 => ?_) (fun z2 => ?_))
    · have : k = n := by omega
      rw [this]
      exact hp
    · refine nm_r (nI_1 _) ?_
      have := ih (d - 1) (k + 1) (by omega) (by omega)
      rw [rg_C_f (f := fun k => rg_k K r k && decide (pos k < pos e)) (rg_and_f (by rw [z2, decide_eq_false (Nat.lt_irrefl _)]; exact Bool.false_ne_true))] at this
      exact this
    · refine ry_kn hn hr z (fun z3 => br_f rg_10 ?_) (fun z3 => br_t rfl (nm_r (nI_1 _) ?_))
      · refine ry_bf hn G hP hS z he z2 (fun z4 => br_f rg_10 (nm_r (nI_1 _) (nm_r (nI_1 _) ?_))) (fun z4 => br_t rfl (nm_r (nI_1 _) ?_))
        · have := ih (d - 1) (k + 1) (by omega) (by omega)
          rw [rg_C_t (f := fun k => rg_k K r k && decide (pos k < pos e)) (Bool.and_eq_true_iff.mpr ⟨z3, decide_eq_true z4⟩)] at this
          exact this
        · have := ih (d - 1) (k + 1) (by omega) (by omega)
          rw [rg_C_f (f := fun k => rg_k K r k && decide (pos k < pos e)) (rg_and_f (fun w => z4 (of_decide_eq_true w)))] at this
          exact this
      · have := ih (d - 1) (k + 1) (by omega) (by omega)
        rw [rg_C_f (f := fun k => rg_k K r k && decide (pos k < pos e)) (rg_and_g z3)] at this
        exact this
theorem ry_rankOf {post : Int32 → Prop} {n : Nat} {s o ord pos : Nat → Nat} {par : Nat → Option Nat} (hn : n ≤ 40) (G : rg_G n s o ord pos par (rg_A AB)) (hP : ∀ e, e < n → P e = rg_pc (par e)) (hS : ∀ e, e < n → ST e = nI (s e) ∧ OR e = nI (o e) ∧ s e ≤ 40 ∧ o e < 3) {r e : Nat} (hr : r < 3) (he : e < n)
    (hp : post (nI (rg_C (fun i => rg_k K r (ord i)) (pos e)))) : wpY_rankOf post (nI n, fo, CH, ST, OR, P, AB, K, D, CK, YO) (nI r) (nI e) := by
  have hpe := (G.1 e he).1
  refine ⟨n + 1, ry_rk hn G hP hS hr he ?_ (n + 1) n 0 (by omega) (by omega)⟩
  rw [rg_cnt G (rg_k K r) (P := pos e) (by omega)]
  exact hp
theorem ry_po {post : Int32 → Prop} {n : Nat} {s o ord pos : Nat → Nat} {par : Nat → Option Nat} (hn : n ≤ 40) (G : rg_G n s o ord pos par (rg_A AB)) (hP : ∀ e, e < n → P e = rg_pc (par e)) (hS : ∀ e, e < n → ST e = nI (s e) ∧ OR e = nI (o e) ∧ s e ≤ 40 ∧ o e < 3) {r e : Nat} (hr : r < 3) (he : e < n)
    (hp : post (nI (rg_C (fun k => rg_h K D r k && decide (pos k < pos e)) n))) : ∀ m d k : Nat, k + d = n → d < m →
    wY_placeOf_27 post (nI r) (nI e) (nI n) fo CH ST OR P AB K D CK YO m (nI (rg_C (fun k => rg_h K D r k && decide (pos k < pos e)) k)) (nI k) := by
  intro m
  induction m with
  | zero => intro d k _ h; omega
  | succ m ih =>
    intro d k hd hm
    refine rg_le n k (fun z => ?_) (fun z => rg_eq k e (fun z2 => ?_) (fun z2 => ?_))
    · have : k = n := by omega
      rw [this]
      exact hp
    · refine nm_r (nI_1 _) ?_
      have := ih (d - 1) (k + 1) (by omega) (by omega)
      rw [rg_C_f (f := fun k => rg_h K D r k && decide (pos k < pos e)) (rg_and_f (by rw [z2, decide_eq_false (Nat.lt_irrefl _)]; exact Bool.false_ne_true))] at this
      exact this
    · refine ry_sh hn hr z (fun z3 => br_f rg_10 ?_) (fun z3 => br_t rfl (nm_r (nI_1 _) ?_))
      · refine ry_bf hn G hP hS z he z2 (fun z4 => br_f rg_10 (nm_r (nI_1 _) (nm_r (nI_1 _) ?_))) (fun z4 => br_t rfl (nm_r (nI_1 _) ?_))
        · have := ih (d - 1) (k + 1) (by omega) (by omega)
          rw [rg_C_t (f := fun k => rg_h K D r k && decide (pos k < pos e)) (Bool.and_eq_true_iff.mpr ⟨z3, decide_eq_true z4⟩)] at this
          exact this
        · have := ih (d - 1) (k + 1) (by omega) (by omega)
          rw [rg_C_f (f := fun k => rg_h K D r k && decide (pos k < pos e)) (rg_and_f (fun w => z4 (of_decide_eq_true w)))] at this
          exact this
      · have := ih (d - 1) (k + 1) (by omega) (by omega)
        rw [rg_C_f (f := fun k => rg_h K D r k && decide (pos k < pos e)) (rg_and_g z3)] at this
        exact this
/-- ranks of known ones differ -/
theorem rg_rk_lt {n : Nat} {s o ord pos : Nat → Nat} {par : Nat → Option Nat} {an : Nat → Nat → Prop} (G : rg_G n s o ord pos par an) {f : Nat → Bool} {a b : Nat} (ha : a < n) (hf : f a = true) (h : pos a < pos b) : rg_C (fun i => f (ord i)) (pos a) < rg_C (fun i => f (ord i)) (pos b) := by
  have e1 : rg_C (fun i => f (ord i)) (pos a + 1) = rg_C (fun i => f (ord i)) (pos a) + 1 := rg_C_t (by show f (ord (pos a)) = true; rw [(G.1 a ha).2]; exact hf)
  have e2 := rg_C_mono (fun i => f (ord i)) (a := pos a + 1) (pos b) (by omega)
  omega
theorem rg_rk_ne {n : Nat} {s o ord pos : Nat → Nat} {par : Nat → Option Nat} {an : Nat → Nat → Prop} (G : rg_G n s o ord pos par an) {f : Nat → Bool} {a b : Nat} (ha : a < n) (hb : b < n) (hf : f a = true) (hg : f b = true) (h : a ≠ b) : rg_C (fun i => f (ord i)) (pos a) ≠ rg_C (fun i => f (ord i)) (pos b) := by
  have hpos : pos a ≠ pos b := by
    intro w
    apply h
    have e1 := (G.1 a ha).2
    have e2 := (G.1 b hb).2
    rw [← e1, ← e2, w]
  by_cases z : pos a < pos b
  · have := rg_rk_lt G ha hf z
    omega
  · have := rg_rk_lt G (b := a) hb hg (by omega)
    omega
/-- the known ones, arranged -/
theorem ry_ar {post : SY → Prop} {n : Nat} {s o ord pos : Nat → Nat} {par : Nat → Option Nat} (hn : n ≤ 40) (G : rg_G n s o ord pos par (rg_A AB)) (hP : ∀ e, e < n → P e = rg_pc (par e)) (hS : ∀ e, e < n → ST e = nI (s e) ∧ OR e = nI (o e) ∧ s e ≤ 40 ∧ o e < 3) {r : Nat} (hr : r < 3)
    (hp : ∀ YO' : Nat → Int32, (∀ e, e < n → rg_k K r e = true → YO' (rg_C (fun i => rg_k K r (ord i)) (pos e)) = nI e) → post (nI n, nI (rg_C (rg_k K r) n), CH, ST, OR, P, AB, K, D, CK, YO')) : ∀ (m d e : Nat) (Y : Nat → Int32), e + d = n → d < m →
    (∀ e', e' < e → rg_k K r e' = true → Y (rg_C (fun i => rg_k K r (ord i)) (pos e')) = nI e') →
    wY_arrange_7 post (nI r) (nI n) m (nI e) (nI (rg_C (rg_k K r) e)) CH ST OR P AB K D CK Y := by
  intro m
  induction m with
  | zero => intro d e Y _ h; omega
  | succ m ih =>
    intro d e Y hd hm hY
    refine rg_le n e (fun z => ?_) (fun z => ?_)
    · have : e = n := by omega
      rw [this] at hY ⊢
      exact hp Y hY
    · refine ry_kn hn hr z (fun z2 => br_f rg_10 ?_) (fun z2 => br_t rfl (nm_r (nI_1 _) ?_))
      · refine ry_rankOf hn G hP hS hr z ?_
        have hpe := (G.1 e z).1
        have hle := rg_C_le (fun i => rg_k K r (ord i)) (pos e)
        refine ⟨vp_in_nI (by omega) (by omega), nm_r (e' := upd Y (rg_C (fun i => rg_k K r (ord i)) (pos e)) (nI e)) (by rw [nI_clamp (by omega)]) (nm_r (nI_1 _) (nm_r (nI_1 _) ?_))⟩
        have := ih (d - 1) (e + 1) (upd Y (rg_C (fun i => rg_k K r (ord i)) (pos e)) (nI e)) (by omega) (by omega) ?_
        · rw [rg_C_t z2] at this
          exact this
        · intro e' he' hk'
          by_cases w : e' = e
          · rw [w]
            exact rg_us
          · rw [rg_un (rg_rk_ne G (f := rg_k K r) (by omega) z hk' z2 w)]
            exact hY e' (by omega) hk'
      · have := ih (d - 1) (e + 1) Y (by omega) (by omega) ?_
        · rw [rg_C_f z2] at this
          exact this
        · intro e' he' hk'
          by_cases w : e' = e
          · rw [w] at hk'
            exact (z2 hk').elim
          · exact hY e' (by omega) hk'
/-- the scan over the arranged, in step with one over the order -/
theorem ry_ea {post : Int32 → SY → Prop} {n : Nat} {ord : Nat → Nat} (hn : n ≤ 40) {r : Nat} {t : Int32} (hr : r < 3) (ho : ∀ i, i < n → ord i < n)
    (hY : ∀ i, i < n → rg_k K r (ord i) = true → YO (rg_C (fun i => rg_k K r (ord i)) i) = nI (ord i)) : ∀ d m i : Nat, i + d = n → d < m →
    post (rg_pc ((rg_fd (fun i => rg_h K D r (ord i)) t d i (rg_C (fun i => rg_h K D r (ord i)) i)).map ord)) (nI n, nI (rg_C (fun i => rg_k K r (ord i)) n), CH, ST, OR, P, AB, K, D, CK, YO) →
    wY_elementAt_20 post (nI r) t (nI n) (nI (rg_C (fun i => rg_k K r (ord i)) n)) CH ST OR P AB K D CK YO m (nI (rg_C (fun i => rg_h K D r (ord i)) i)) (nI (rg_C (fun i => rg_k K r (ord i)) i)) := by
  have hle := rg_C_le (fun i => rg_k K r (ord i)) n
  intro d
  induction d with
  | zero =>
    intro m i hi hm hp
    obtain ⟨m, rfl⟩ : ∃ m', m = m' + 1 := ⟨m - 1, by omega⟩
    have : i = n := by omega
    rw [this]
    exact br_t (nI_le (Nat.le_refl _) (by omega)) hp
  | succ d ih =>
    intro m i hi hm hp
    rw [rg_fd_s] at hp
    by_cases z : rg_k K r (ord i) = true
    · obtain ⟨m, rfl⟩ : ∃ m', m = m' + 1 := ⟨m - 1, by omega⟩
      have c1 : rg_C (fun i => rg_k K r (ord i)) (i + 1) = rg_C (fun i => rg_k K r (ord i)) i + 1 := rg_C_t (f := fun i => rg_k K r (ord i)) z
      have c2 := rg_C_mono (fun i => rg_k K r (ord i)) (a := i + 1) n (by omega)
      have e1 : YO (nI (rg_C (fun i => rg_k K r (ord i)) i)).toNatClampNeg = nI (ord i) := by
        rw [nI_clamp (by omega)]
        exact hY i (by omega) z
      have hin : vp_in (nI (rg_C (fun i => rg_k K r (ord i)) i)) 40 := vp_in_nI (by omega) (by omega)
      refine br_f (nI_ge (by omega) (by omega)) ⟨hin, ?_⟩
      rw [e1]
      refine ry_sh hn hr (ho i (by omega)) (fun z2 => br_f rg_10 ?_) (fun z2 => br_t rfl (nm_r (nI_1 _) ?_))
      · rw [if_pos z2] at hp
        by_cases z3 : nI (rg_C (fun i => rg_h K D r (ord i)) i) = t
        · rw [if_pos z3] at hp
          exact br_t z3 ⟨hin, hp⟩
        · rw [if_neg z3] at hp
          refine br_f z3 (nm_r (nI_1 _) (nm_r (nI_1 _) ?_))
          have := ih m (i + 1) (by omega) (by omega)
          rw [c1, rg_C_t (f := fun i => rg_h K D r (ord i)) z2] at this
          exact this hp
      · rw [if_neg z2] at hp
        have := ih m (i + 1) (by omega) (by omega)
        rw [c1, rg_C_f (f := fun i => rg_h K D r (ord i)) z2] at this
        exact this hp
    · have z2 : ¬ rg_h K D r (ord i) = true := fun w => z (rg_h_k w)
      rw [if_neg z2] at hp
      have := ih m (i + 1) (by omega) (by omega)
      rw [rg_C_f (f := fun i => rg_k K r (ord i)) z, rg_C_f (f := fun i => rg_h K D r (ord i)) z2] at this
      exact this hp
theorem ry_elementAt {post : Int32 → SY → Prop} {n : Nat} {s o ord pos : Nat → Nat} {par : Nat → Option Nat} (hn : n ≤ 40) (G : rg_G n s o ord pos par (rg_A AB)) (hP : ∀ e, e < n → P e = rg_pc (par e)) (hS : ∀ e, e < n → ST e = nI (s e) ∧ OR e = nI (o e) ∧ s e ≤ 40 ∧ o e < 3) {r : Nat} {t : Int32} (hr : r < 3)
    (hp : ∀ (fo' : Int32) (YO' : Nat → Int32), post (rg_pc ((rg_at K D ord r n t).map ord)) (nI n, fo', CH, ST, OR, P, AB, K, D, CK, YO')) : wpY_elementAt post (nI n, fo, CH, ST, OR, P, AB, K, D, CK, YO) (nI r) t := by
  unfold wpY_elementAt
  dsimp only
  refine ry_ok hr (br_f rg_10 ?_)
  refine ⟨n + 1, ry_ar hn G hP hS hr ?_ (n + 1) n 0 YO (by omega) (by omega) (fun e' h => by omega)⟩
  intro YO' hY
  have ec : rg_C (rg_k K r) n = rg_C (fun i => rg_k K r (ord i)) n := G.2.2.2.2.2.2 (rg_k K r)
  rw [ec]
  refine ⟨n + 1, ry_ea hn hr (fun i hi => (G.2.1 i hi).1) ?_ n (n + 1) 0 (by omega) (by omega) (hp _ _)⟩
  intro i hi hk
  have := hY (ord i) (G.2.1 i hi).1 hk
  rw [(G.2.1 i hi).2] at this
  exact this
theorem ry_charAt {post : Int32 → SY → Prop} {n : Nat} {s o ord pos : Nat → Nat} {par : Nat → Option Nat} (hn : n ≤ 40) (G : rg_G n s o ord pos par (rg_A AB)) (hP : ∀ e, e < n → P e = rg_pc (par e)) (hS : ∀ e, e < n → ST e = nI (s e) ∧ OR e = nI (o e) ∧ s e ≤ 40 ∧ o e < 3) {r : Nat} {t : Int32} (hr : r < 3)
    (hp : ∀ (fo' : Int32) (YO' : Nat → Int32), post (rg_ch CH ((rg_at K D ord r n t).map ord)) (nI n, fo', CH, ST, OR, P, AB, K, D, CK, YO')) : wpY_charAt post (nI n, fo, CH, ST, OR, P, AB, K, D, CK, YO) (nI r) t := by
  unfold wpY_charAt
  dsimp only
  refine ry_elementAt hn G hP hS hr (fun fo' YO' => ?_)
  have hp' := hp fo' YO'
  cases h : rg_at K D ord r n t with
  | none =>
    rw [h] at hp'
    exact br_f (show ¬ (0 : Int32) ≤ -5 by decide) hp'
  | some i =>
    rw [h] at hp'
    have hi := (rg_at_lt h).1
    have hoi := (G.2.1 i hi).1
    refine br_t (show (0 : Int32) ≤ nI (ord i) from nI_pos' (by omega)) ⟨vp_in_nI (by omega) (by omega), ?_⟩
    show post (CH (nI (ord i)).toNatClampNeg) _
    rw [nI_clamp (by omega)]
    exact hp'
end RGA4
end
section
theorem rg_rep (x : Int32) : (x < 0 ∨ nI 3 ≤ x) ∨ ∃ r : Nat, r < 3 ∧ x = nI r := by
  rcases rg_ix x (n := 3) (by omega) with h | h | h
  · exact Or.inl (Or.inl h)
  · exact Or.inl (Or.inr h)
  · exact Or.inr h
section RGA5
variable {CH ST OR ORD K D CK P AB YO : Nat → Int32} {fo : Int32} {n : Nat} {s o ord pos c : Nat → Nat} {par : Nat → Option Nat}
theorem rg_R_S (R : rg_R n s o ord pos c par CH ST OR ORD K D CK P AB) : ∀ e, e < n → ST e = nI (s e) ∧ OR e = nI (o e) ∧ s e ≤ 40 ∧ o e < 3 := by
  obtain ⟨hn, G, h1, h2, h3, h4, h5, h6, h7, h8⟩ := R
  intro e he
  obtain ⟨a, b, c', d, f⟩ := h1 e he
  exact ⟨a, b, by omega, d⟩
theorem rg_R_o (R : rg_R n s o ord pos c par CH ST OR ORD K D CK P AB) : ∀ i, i < n → ORD i = nI (ord i) ∧ ord i < n := by
  obtain ⟨hn, G, h1, h2, h3, h4, h5, h6, h7, h8⟩ := R
  intro i hi
  exact ⟨h3 i hi, (G.2.1 i hi).1⟩
theorem rg_R_P (R : rg_R n s o ord pos c par CH ST OR ORD K D CK P AB) : ∀ e, e < n → P e = rg_pc (par e) := by
  obtain ⟨hn, G, h1, h2, h3, h4, h5, h6, h7, h8⟩ := R
  exact h4
theorem rg_R_K (R : rg_R n s o ord pos c par CH ST OR ORD K D CK P AB) : ∀ j, K j = 0 ∨ K j = 1 := by
  obtain ⟨hn, G, h1, h2, h3, h4, h5, h6, h7, h8⟩ := R
  exact fun j => (h5 j).1
theorem rg_R_D (R : rg_R n s o ord pos c par CH ST OR ORD K D CK P AB) : ∀ j, D j = 0 ∨ D j = 1 := by
  obtain ⟨hn, G, h1, h2, h3, h4, h5, h6, h7, h8⟩ := R
  exact fun j => (h5 j).2
theorem rg_R_i (R : rg_R n s o ord pos c par CH ST OR ORD K D CK P AB) {k : Nat} (fo : Int32) (YO : Nat → Int32) : i_Rel k (nI n, CH, ST, OR, ORD, K, D, CK) (nI n, fo, CH, ST, OR, P, AB, K, D, CK, YO) :=
  ⟨n, s, o, ord, pos, c, par, CH, ST, OR, ORD, K, D, CK, P, AB, YO, fo, rfl, rfl, R⟩
theorem rg_us1 {f : Nat → Int32} {k : Nat} (h : ∀ j, f j = 0 ∨ f j = 1) : ∀ j, upd f k 1 j = 0 ∨ upd f k 1 j = 1 := by
  intro j
  by_cases z : j = k
  · rw [z]
    exact Or.inr rg_us
  · rw [rg_un z]
    exact h j
theorem rg_R_uD (R : rg_R n s o ord pos c par CH ST OR ORD K D CK P AB) (x : Nat) : rg_R n s o ord pos c par CH ST OR ORD K (upd D x 1) CK P AB := by
  obtain ⟨hn, G, h1, h2, h3, h4, h5, h6, h7, h8⟩ := R
  exact ⟨hn, G, h1, h2, h3, h4, fun j => ⟨(h5 j).1, rg_us1 (fun i => (h5 i).2) j⟩, h6, h7, h8⟩
theorem ry_ea_bad {post : Int32 → SY → Prop} {u : SY} {r t : Int32} (h : r < 0 ∨ nI 3 ≤ r) (hp : post (-1) u) : wpY_elementAt post u r t := by
  obtain ⟨a, b, c, d, e, f, g, i, j, k, l⟩ := u
  unfold wpY_elementAt
  dsimp only
  exact ry_bad h (br_t rfl hp)
end RGA5
theorem i_up {k : Nat} {u : SX} {v : SY} (h : i_Rel k u v) : i_Rel (k + 4) u v := h
theorem i_vc0 : wpX_init (fun u => wpY_init (fun v => i_Rel 0 u v)) :=
  ⟨0, fun _ => 0, fun _ => 0, fun _ => 0, fun _ => 0, fun _ => 0, fun _ => none, fun _ => 0, fun _ => 0, fun _ => 0, fun _ => 0, fun _ => 0, fun _ => 0, fun _ => 0, fun _ => 0, fun _ => 0, fun _ => 0, 0, rfl, rfl,
    Nat.zero_le _, rg_G_0, fun _ h => absurd h (Nat.not_lt_zero _), fun _ _ => ⟨rfl, Nat.le_refl _⟩, fun _ h => absurd h (Nat.not_lt_zero _), fun _ h => absurd h (Nat.not_lt_zero _), fun _ => ⟨Or.inl rfl, Or.inl rfl⟩, fun _ _ _ h => absurd h (Nat.not_lt_zero _), fun _ _ _ _ _ => rfl, fun _ h => absurd h (Nat.not_lt_zero _)⟩
theorem i_vc_length {k : Nat} {u : SX} {v : SY} (I : i_Rel k u v) (hk : k + 4 ≤ 2048) (v1 : Int32) : wpX_length (fun r => wpY_length (fun r' => r' = r ∧ i_Rel (k + 4) u v) v v1) u v1 := by
  obtain ⟨n, s, o, ord, pos, c, par, CH, ST, OR, ORD, K, D, CK, P, AB, YO, fo, rfl, rfl, R⟩ := I
  have J := rg_R_i R (k := k + 4) fo YO
  unfold wpX_length
  dsimp only
  rcases rg_rep v1 with h | ⟨r, hr, rfl⟩
  · refine rx_bad h (br_t rfl ?_)
    unfold wpY_length
    dsimp only
    exact ry_bad h (br_t rfl ⟨rfl, J⟩)
  · exact rx_ok hr (br_f rg_10 (rx_textLength R.1 hr (ry_length R.1 hr ⟨rfl, J⟩)))
theorem i_vc_known {k : Nat} {u : SX} {v : SY} (I : i_Rel k u v) (hk : k + 4 ≤ 2048) (v1 : Int32) : wpX_known (fun r => wpY_known (fun r' => r' = r ∧ i_Rel (k + 4) u v) v v1) u v1 := by
  obtain ⟨n, s, o, ord, pos, c, par, CH, ST, OR, ORD, K, D, CK, P, AB, YO, fo, rfl, rfl, R⟩ := I
  have J := rg_R_i R (k := k + 4) fo YO
  unfold wpX_known
  dsimp only
  rcases rg_rep v1 with h | ⟨r, hr, rfl⟩
  · refine rx_bad h (br_t rfl ?_)
    unfold wpY_known
    dsimp only
    exact ry_bad h (br_t rfl ⟨rfl, J⟩)
  · refine rx_ok hr (br_f rg_10 ⟨n + 1, rx_knl R.1 hr (rg_R_K R) ?_ (n + 1) n 0 (by omega) (by omega)⟩)
    unfold wpY_known
    dsimp only
    exact ry_ok hr (br_f rg_10 ⟨n + 1, ry_knl R.1 hr ⟨rfl, J⟩ (n + 1) n 0 (by omega) (by omega)⟩)
theorem i_vc_elementAt {k : Nat} {u : SX} {v : SY} (I : i_Rel k u v) (hk : k + 4 ≤ 2048) (v1 : Int32) (v2 : Int32) : wpX_elementAt (fun r => wpY_elementAt (fun r' v' => r' = r ∧ i_Rel (k + 4) u v') v v1 v2) u v1 v2 := by
  obtain ⟨n, s, o, ord, pos, c, par, CH, ST, OR, ORD, K, D, CK, P, AB, YO, fo, rfl, rfl, R⟩ := I
  unfold wpX_elementAt
  dsimp only
  rcases rg_rep v1 with h | ⟨r, hr, rfl⟩
  · exact rx_bad h (br_t rfl (ry_ea_bad h ⟨rfl, rg_R_i R fo YO⟩))
  · exact rx_ok hr (br_f rg_10 (rx_textElement R.1 hr (rg_R_o R) (ry_elementAt R.1 R.2.1 (rg_R_P R) (rg_R_S R) hr (fun fo' YO' => ⟨rfl, rg_R_i R fo' YO'⟩))))
theorem i_vc_charAt {k : Nat} {u : SX} {v : SY} (I : i_Rel k u v) (hk : k + 4 ≤ 2048) (v1 : Int32) (v2 : Int32) : wpX_charAt (fun r => wpY_charAt (fun r' v' => r' = r ∧ i_Rel (k + 4) u v') v v1 v2) u v1 v2 := by
  obtain ⟨n, s, o, ord, pos, c, par, CH, ST, OR, ORD, K, D, CK, P, AB, YO, fo, rfl, rfl, R⟩ := I
  unfold wpX_charAt
  dsimp only
  rcases rg_rep v1 with h | ⟨r, hr, rfl⟩
  · refine rx_bad h (br_t rfl ?_)
    unfold wpY_charAt
    dsimp only
    exact ry_ea_bad h (br_f (show ¬ (0 : Int32) ≤ -1 by decide) ⟨rfl, rg_R_i R fo YO⟩)
  · exact rx_ok hr (br_f rg_10 (rx_textCharacter R.1 hr (rg_R_o R) (ry_charAt R.1 R.2.1 (rg_R_P R) (rg_R_S R) hr (fun fo' YO' => ⟨rfl, rg_R_i R fo' YO'⟩))))
theorem i_vc_placeOf {k : Nat} {u : SX} {v : SY} (I : i_Rel k u v) (hk : k + 4 ≤ 2048) (v1 : Int32) (v2 : Int32) : wpX_placeOf (fun r => wpY_placeOf (fun r' => r' = r ∧ i_Rel (k + 4) u v) v v1 v2) u v1 v2 := by
  obtain ⟨n, s, o, ord, pos, c, par, CH, ST, OR, ORD, K, D, CK, P, AB, YO, fo, rfl, rfl, R⟩ := I
  have J := rg_R_i R (k := k + 4) fo YO
  have hn := R.1
  have G := R.2.1
  unfold wpX_placeOf
  dsimp only
  rcases rg_rep v1 with h | ⟨r, hr, rfl⟩
  · refine rx_bad h (br_t rfl ?_)
    unfold wpY_placeOf
    dsimp only
    exact ry_bad h (br_t rfl ⟨rfl, J⟩)
  · rcases rg_ix v2 (n := n) (by omega) with h | h | ⟨e, he, rfl⟩
    · refine rx_ok hr (br_f rg_10 ⟨n + 1, rx_po0 hn hr (rg_R_o R) ?_ ?_ (n + 1) n 0 0 (by omega) (by omega)⟩)
      · intro i hi _ w
        rw [← w] at h
        have := (G.2.1 i hi).1
        exact nI_pos (by omega) h
      · unfold wpY_placeOf
        dsimp only
        exact ry_ok hr (br_f rg_10 (ry_sh0 (Or.inl h) (br_t rfl ⟨rfl, J⟩)))
    · refine rx_ok hr (br_f rg_10 ⟨n + 1, rx_po0 hn hr (rg_R_o R) ?_ ?_ (n + 1) n 0 0 (by omega) (by omega)⟩)
      · intro i hi _ w
        rw [← w] at h
        have := (G.2.1 i hi).1
        exact nI_ge this (by omega) h
      · unfold wpY_placeOf
        dsimp only
        exact ry_ok hr (br_f rg_10 (ry_sh0 (Or.inr h) (br_t rfl ⟨rfl, J⟩)))
    · by_cases z : rg_h K D r e = true
      · have hpe := (G.1 e he).1
        refine rx_ok hr (br_f rg_10 ⟨n + 1, rx_po1 (q := pos e) hn hr (rg_R_o R) hpe (G.1 e he).2 z ?_ ?_ (n + 1) (pos e) 0 (by omega) (by omega)⟩)
        · intro i hi w
          rw [← w]
          exact (G.2.1 i hi).2.symm
        · unfold wpY_placeOf
          dsimp only
          refine ry_ok hr (br_f rg_10 (ry_sh hn hr he (fun _ => br_f rg_10 ⟨n + 1, ry_po hn G (rg_R_P R) (rg_R_S R) hr he ?_ (n + 1) n 0 (by omega) (by omega)⟩) (fun w => (w z).elim)))
          rw [rg_cnt G (rg_h K D r) (P := pos e) (by omega)]
          exact ⟨rfl, J⟩
      · refine rx_ok hr (br_f rg_10 ⟨n + 1, rx_po0 hn hr (rg_R_o R) ?_ ?_ (n + 1) n 0 0 (by omega) (by omega)⟩)
        · intro i hi w1 w
          have := (G.2.1 i hi).1
          have e1 : ord i = e := (nI_eq (by omega) (by omega)).mp w
          rw [e1] at w1
          exact z w1
        · unfold wpY_placeOf
          dsimp only
          exact ry_ok hr (br_f rg_10 (ry_sh hn hr he (fun w => (z w).elim) (fun _ => br_t rfl ⟨rfl, J⟩)))
theorem i_vc_rank {k : Nat} {u : SX} {v : SY} (I : i_Rel k u v) (hk : k + 4 ≤ 2048) (v1 : Int32) (v2 : Int32) : wpX_rank (fun r => wpY_rank (fun r' => r' = r ∧ i_Rel (k + 4) u v) v v1 v2) u v1 v2 := by
  obtain ⟨n, s, o, ord, pos, c, par, CH, ST, OR, ORD, K, D, CK, P, AB, YO, fo, rfl, rfl, R⟩ := I
  have J := rg_R_i R (k := k + 4) fo YO
  have hn := R.1
  have G := R.2.1
  unfold wpX_rank
  dsimp only
  rcases rg_rep v1 with h | ⟨r, hr, rfl⟩
  · refine rx_bad h (br_t rfl ?_)
    unfold wpY_rank
    dsimp only
    exact ry_bad h (br_t rfl ⟨rfl, J⟩)
  · rcases rg_ix v2 (n := n) (by omega) with h | h | ⟨e, he, rfl⟩
    · refine rx_ok hr (br_f rg_10 ⟨n + 1, rx_rk0 hn hr (rg_R_K R) (rg_R_o R) ?_ ?_ (n + 1) n 0 0 (by omega) (by omega)⟩)
      · intro i hi _ w
        rw [← w] at h
        have := (G.2.1 i hi).1
        exact nI_pos (by omega) h
      · unfold wpY_rank
        dsimp only
        exact ry_ok hr (br_f rg_10 (ry_kn0 (Or.inl h) (br_t rfl ⟨rfl, J⟩)))
    · refine rx_ok hr (br_f rg_10 ⟨n + 1, rx_rk0 hn hr (rg_R_K R) (rg_R_o R) ?_ ?_ (n + 1) n 0 0 (by omega) (by omega)⟩)
      · intro i hi _ w
        rw [← w] at h
        have := (G.2.1 i hi).1
        exact nI_ge this (by omega) h
      · unfold wpY_rank
        dsimp only
        exact ry_ok hr (br_f rg_10 (ry_kn0 (Or.inr h) (br_t rfl ⟨rfl, J⟩)))
    · by_cases z : rg_k K r e = true
      · have hpe := (G.1 e he).1
        refine rx_ok hr (br_f rg_10 ⟨n + 1, rx_rk1 (q := pos e) hn hr (rg_R_K R) (rg_R_o R) hpe (G.1 e he).2 z ?_ ?_ (n + 1) (pos e) 0 (by omega) (by omega)⟩)
        · intro i hi w
          rw [← w]
          exact (G.2.1 i hi).2.symm
        · unfold wpY_rank
          dsimp only
          exact ry_ok hr (br_f rg_10 (ry_kn hn hr he (fun _ => br_f rg_10 (ry_rankOf hn G (rg_R_P R) (rg_R_S R) hr he ⟨rfl, J⟩)) (fun w => (w z).elim)))
      · refine rx_ok hr (br_f rg_10 ⟨n + 1, rx_rk0 hn hr (rg_R_K R) (rg_R_o R) ?_ ?_ (n + 1) n 0 0 (by omega) (by omega)⟩)
        · intro i hi w1 w
          have := (G.2.1 i hi).1
          have e1 : ord i = e := (nI_eq (by omega) (by omega)).mp w
          rw [e1] at w1
          exact z w1
        · unfold wpY_rank
          dsimp only
          exact ry_ok hr (br_f rg_10 (ry_kn hn hr he (fun w => (z w).elim) (fun _ => br_t rfl ⟨rfl, J⟩)))
theorem i_vc_delete {k : Nat} {u : SX} {v : SY} (I : i_Rel k u v) (hk : k + 4 ≤ 2048) (v1 : Int32) (v2 : Int32) : wpX_delete (fun r u' => wpY_delete (fun r' v' => r' = r ∧ i_Rel (k + 4) u' v') v v1 v2) u v1 v2 := by
  obtain ⟨n, s, o, ord, pos, c, par, CH, ST, OR, ORD, K, D, CK, P, AB, YO, fo, rfl, rfl, R⟩ := I
  have hn := R.1
  have G := R.2.1
  unfold wpX_delete
  dsimp only
  rcases rg_rep v1 with h | ⟨r, hr, rfl⟩
  · refine rx_bad h (br_t rfl ?_)
    unfold wpY_delete
    dsimp only
    exact ry_bad h (br_t rfl ⟨rfl, rg_R_i R fo YO⟩)
  · refine rx_ok hr (br_f rg_10 (rx_textElement hn hr (rg_R_o R) ?_))
    unfold wpY_delete
    dsimp only
    cases h : rg_at K D ord r n v2 with
    | none =>
      refine br_t rfl (ry_ok hr (br_f rg_10 (ry_elementAt hn G (rg_R_P R) (rg_R_S R) hr (fun fo' YO' => ?_))))
      rw [h]
      exact br_f (show ¬ (0 : Int32) ≤ -5 by decide) ⟨rfl, rg_R_i R fo' YO'⟩
    | some i =>
      have hi := (rg_at_lt h).1
      have hoi := (G.2.1 i hi).1
      refine br_f (rg_ne5 (n := ord i) (by omega)) (rx_cell (e := ord i) ⟨vp_in_nI (by omega) (by omega), nm_r (e' := upd D (r * 40 + ord i) 1) (by rw [nI_clamp (by omega), rg_nb1]) ?_⟩)
      refine ry_ok hr (br_f rg_10 (ry_elementAt hn G (rg_R_P R) (rg_R_S R) hr (fun fo' YO' => ?_)))
      rw [h]
      show (0 ≤ nI (ord i) → (vp_in (nI r * 40 + nI (ord i)) 120 ∧ ∀ y, y = upd D (nI r * 40 + nI (ord i)).toNatClampNeg (vp_nar .boolean 1) → _)) ∧ _
      rw [rg_cell, nI_clamp (n := r * 40 + ord i) (by omega), rg_nb1]
      exact br_t (nI_pos' (by omega)) ⟨vp_in_nI (by omega) (by omega), nm_e ⟨rfl, rg_R_i (rg_R_uD R (r * 40 + ord i)) fo' YO'⟩⟩
end
section
section RGA6
variable {CH ST OR ORD K D CK P AB YO : Nat → Int32} {fo : Int32} {n : Nat} {s o ord pos c : Nat → Nat} {par : Nat → Option Nat}
/-- a text's character at a place -/
def rg_tc (CH K D : Nat → Int32) (ord : Nat → Nat) (n r p : Nat) : Int32 := rg_ch CH ((rg_at K D ord r n (nI p)).map ord)
theorem rg_tc_in (R : rg_R n s o ord pos c par CH ST OR ORD K D CK P AB) {r p : Nat} (hp : p < rg_C (rg_h K D r) n) : ∃ m : Nat, m < 256 ∧ rg_tc CH K D ord n r p = nI m := by
  obtain ⟨hn, G, h1, h2, h3, h4, h5, h6, h7, h8⟩ := R
  have ec : rg_C (rg_h K D r) n = rg_C (fun i => rg_h K D r (ord i)) n := G.2.2.2.2.2.2 (rg_h K D r)
  have hle := rg_C_le (rg_h K D r) n
  rw [ec] at hp
  have hi := (rg_fd_iff (f := fun i => rg_h K D r (ord i)) (p := p) (by omega) n 0 0 (by omega) (by omega) rfl).mpr (by rw [Nat.zero_add]; exact hp)
  obtain ⟨j, hj⟩ := hi
  have hj' : rg_at K D ord r n (nI p) = some j := hj
  obtain ⟨m, hm, e⟩ := h8 (ord j) (G.2.1 j (rg_at_lt hj').1).1
  refine ⟨m, hm, ?_⟩
  unfold rg_tc
  rw [hj']
  exact e
theorem rg_tc_out (R : rg_R n s o ord pos c par CH ST OR ORD K D CK P AB) {r p : Nat} (hpn : p < n) (hp : ¬ p < rg_C (rg_h K D r) n) : rg_tc CH K D ord n r p = -5 := by
  obtain ⟨hn, G, h1, h2, h3, h4, h5, h6, h7, h8⟩ := R
  have ec : rg_C (rg_h K D r) n = rg_C (fun i => rg_h K D r (ord i)) n := G.2.2.2.2.2.2 (rg_h K D r)
  rw [ec] at hp
  unfold rg_tc
  cases h : rg_at K D ord r n (nI p) with
  | none => rfl
  | some j =>
    exfalso
    apply hp
    have := (rg_fd_iff (f := fun i => rg_h K D r (ord i)) (p := p) (by omega) n 0 0 (by omega) (by omega) rfl).mp ⟨j, h⟩
    rw [Nat.zero_add] at this
    exact this
theorem rx_st1 {post : Int32 → Prop} (R : rg_R n s o ord pos c par CH ST OR ORD K D CK P AB) {a b : Nat} (ha : a < 3) (hb : b < 3) (hx : ∀ p, p < n → rg_tc CH K D ord n a p = rg_tc CH K D ord n b p) (hp : post 1) : ∀ m d p : Nat, p + d = n → d < m →
    wX_sameText_20 post (nI a) (nI b) (nI n) CH ST OR ORD K D CK m (nI p) := by
  have hn := R.1
  intro m
  induction m with
  | zero => intro d p _ h; omega
  | succ m ih =>
    intro d p hd hm
    refine rg_le n p (fun z => hp) (fun z => ?_)
    refine rx_textCharacter hn ha (rg_R_o R) (rx_textCharacter hn hb (rg_R_o R) ?_)
    exact br_t (hx p z) (nm_r (nI_1 _) (ih (d - 1) (p + 1) (by omega) (by omega)))
theorem rx_st0 {post : Int32 → Prop} (R : rg_R n s o ord pos c par CH ST OR ORD K D CK P AB) {a b q : Nat} (ha : a < 3) (hb : b < 3) (hq : q < n) (hx : ¬ rg_tc CH K D ord n a q = rg_tc CH K D ord n b q) (hp : post 0) : ∀ m d p : Nat, p + d = q → d < m →
    wX_sameText_20 post (nI a) (nI b) (nI n) CH ST OR ORD K D CK m (nI p) := by
  have hn := R.1
  intro m
  induction m with
  | zero => intro d p _ h; omega
  | succ m ih =>
    intro d p hd hm
    refine rg_le n p (fun z => ?_) (fun z => ?_)
    · omega
    · refine rx_textCharacter hn ha (rg_R_o R) (rx_textCharacter hn hb (rg_R_o R) ?_)
      refine br_c (fun w => ?_) (fun _ => hp)
      have hne : p ≠ q := fun w2 => hx (by rw [← w2]; exact w)
      exact nm_r (nI_1 _) (ih (d - 1) (p + 1) (by omega) (by omega))
theorem ry_st1 {post : Int32 → SY → Prop} (R : rg_R n s o ord pos c par CH ST OR ORD K D CK P AB) {a b : Nat} (ha : a < 3) (hb : b < 3) (hx : ∀ p, p < rg_C (rg_h K D a) n → rg_tc CH K D ord n a p = rg_tc CH K D ord n b p) (hp : ∀ (fo' : Int32) (YO' : Nat → Int32), post 1 (nI n, fo', CH, ST, OR, P, AB, K, D, CK, YO')) : ∀ (m d p : Nat) (fo : Int32) (YO : Nat → Int32), p + d = rg_C (rg_h K D a) n → d < m →
    wY_sameText_33 post (nI a) (nI b) m (nI p) (nI n) fo CH ST OR P AB K D CK YO := by
  have hn := R.1
  have hle := rg_C_le (rg_h K D a) n
  intro m
  induction m with
  | zero => intro d p fo YO _ h; omega
  | succ m ih =>
    intro d p fo YO hd hm
    rw [wY_sameText_33]
    refine ry_length hn ha (rg_le (rg_C (rg_h K D a) n) p (fun z => hp _ _) (fun z => ?_))
    refine ry_charAt hn R.2.1 (rg_R_P R) (rg_R_S R) ha (fun fo1 YO1 => ry_charAt hn R.2.1 (rg_R_P R) (rg_R_S R) hb (fun fo2 YO2 => ?_))
    exact br_t (hx p z) (nm_r (nI_1 _) (ih (d - 1) (p + 1) fo2 YO2 (by omega) (by omega)))
theorem ry_st0 {post : Int32 → SY → Prop} (R : rg_R n s o ord pos c par CH ST OR ORD K D CK P AB) {a b q : Nat} (ha : a < 3) (hb : b < 3) (hq : q < rg_C (rg_h K D a) n) (hx : ¬ rg_tc CH K D ord n a q = rg_tc CH K D ord n b q) (hp : ∀ (fo' : Int32) (YO' : Nat → Int32), post 0 (nI n, fo', CH, ST, OR, P, AB, K, D, CK, YO')) : ∀ (m d p : Nat) (fo : Int32) (YO : Nat → Int32), p + d = q → d < m →
    wY_sameText_33 post (nI a) (nI b) m (nI p) (nI n) fo CH ST OR P AB K D CK YO := by
  have hn := R.1
  have hle := rg_C_le (rg_h K D a) n
  intro m
  induction m with
  | zero => intro d p fo YO _ h; omega
  | succ m ih =>
    intro d p fo YO hd hm
    rw [wY_sameText_33]
    refine ry_length hn ha (rg_le (rg_C (rg_h K D a) n) p (fun z => ?_) (fun z => ?_))
    · omega
    · refine ry_charAt hn R.2.1 (rg_R_P R) (rg_R_S R) ha (fun fo1 YO1 => ry_charAt hn R.2.1 (rg_R_P R) (rg_R_S R) hb (fun fo2 YO2 => ?_))
      refine br_c (fun w => ?_) (fun _ => hp _ _)
      have hne : p ≠ q := fun w2 => hx (by rw [← w2]; exact w)
      exact nm_r (nI_1 _) (ih (d - 1) (p + 1) fo2 YO2 (by omega) (by omega))
end RGA6
theorem rg_n5 {m : Nat} (h : m < 256) : ¬ nI m = -5 := rg_ne5 (by omega)
theorem i_vc_sameText {k : Nat} {u : SX} {v : SY} (I : i_Rel k u v) (hk : k + 4 ≤ 2048) (v1 : Int32) (v2 : Int32) : wpX_sameText (fun r => wpY_sameText (fun r' v' => r' = r ∧ i_Rel (k + 4) u v') v v1 v2) u v1 v2 := by
  obtain ⟨n, s, o, ord, pos, c, par, CH, ST, OR, ORD, K, D, CK, P, AB, YO, fo, rfl, rfl, R⟩ := I
  have hn := R.1
  unfold wpX_sameText
  dsimp only
  rcases rg_rep v1 with h | ⟨a, ha, rfl⟩
  · refine rx_bad h (br_t rfl ?_)
    unfold wpY_sameText
    dsimp only
    exact ry_bad h (br_t rfl ⟨rfl, rg_R_i R fo YO⟩)
  · refine rx_ok ha (br_f rg_10 ?_)
    rcases rg_rep v2 with h | ⟨b, hb, rfl⟩
    · refine rx_bad h (br_t rfl ?_)
      unfold wpY_sameText
      dsimp only
      exact ry_ok ha (br_f rg_10 (ry_bad h (br_t rfl ⟨rfl, rg_R_i R fo YO⟩)))
    · refine rx_ok hb (br_f rg_10 ?_)
      have la := rg_C_le (rg_h K D a) n
      have lb := rg_C_le (rg_h K D b) n
      by_cases H : ∀ p, p < n → rg_tc CH K D ord n a p = rg_tc CH K D ord n b p
      · refine ⟨n + 1, rx_st1 R ha hb H ?_ (n + 1) n 0 (by omega) (by omega)⟩
        have hl : rg_C (rg_h K D a) n = rg_C (rg_h K D b) n := by
          by_cases z1 : rg_C (rg_h K D a) n < rg_C (rg_h K D b) n
          · exfalso
            obtain ⟨m, hm, e⟩ := rg_tc_in R z1
            have e2 := rg_tc_out R (r := a) (p := rg_C (rg_h K D a) n) (by omega) (by omega)
            have e3 := H (rg_C (rg_h K D a) n) (by omega)
            rw [e, e2] at e3
            exact rg_n5 hm e3.symm
          · by_cases z2 : rg_C (rg_h K D b) n < rg_C (rg_h K D a) n
            · exfalso
              obtain ⟨m, hm, e⟩ := rg_tc_in R z2
              have e2 := rg_tc_out R (r := b) (p := rg_C (rg_h K D b) n) (by omega) (by omega)
              have e3 := H (rg_C (rg_h K D b) n) (by omega)
              rw [e, e2] at e3
              exact rg_n5 hm e3
            · omega
        unfold wpY_sameText
        dsimp only
        refine ry_ok ha (br_f rg_10 (ry_ok hb (br_f rg_10 (ry_length hn ha (ry_length hn hb (br_t (by rw [hl]) ?_))))))
        exact ⟨n + 1, ry_st1 R ha hb (fun p hp => H p (by omega)) (fun fo' YO' => ⟨rfl, rg_R_i R fo' YO'⟩) (n + 1) (rg_C (rg_h K D a) n) 0 fo YO (by omega) (by omega)⟩
      · obtain ⟨q, hq, hx⟩ : ∃ q, q < n ∧ ¬ rg_tc CH K D ord n a q = rg_tc CH K D ord n b q := by
          apply Classical.byContradiction
          intro w
          apply H
          intro p hp
          apply Classical.byContradiction
          intro w2
          exact w ⟨p, hp, w2⟩
        refine ⟨n + 1, rx_st0 R ha hb hq hx ?_ (n + 1) q 0 (by omega) (by omega)⟩
        unfold wpY_sameText
        dsimp only
        refine ry_ok ha (br_f rg_10 (ry_ok hb (br_f rg_10 (ry_length hn ha (ry_length hn hb (rg_eq (rg_C (rg_h K D a) n) (rg_C (rg_h K D b) n) (fun hl => ?_) (fun _ => ⟨rfl, rg_R_i R fo YO⟩)))))))
        have hqa : q < rg_C (rg_h K D a) n := by
          by_cases z : q < rg_C (rg_h K D a) n
          · exact z
          · exfalso
            apply hx
            rw [rg_tc_out R hq z, rg_tc_out R (r := b) hq (by omega)]
        exact ⟨n + 1, ry_st0 R ha hb hqa hx (fun fo' YO' => ⟨rfl, rg_R_i R fo' YO'⟩) (n + 1) q 0 fo YO (by omega) (by omega)⟩
end
section
section RGA7
variable {CH ST OR ORD K D CK P AB YO : Nat → Int32} {fo : Int32} {n : Nat} {s o ord pos c : Nat → Nat} {par : Nat → Option Nat}
theorem rg_R_uK (R : rg_R n s o ord pos c par CH ST OR ORD K D CK P AB) {t e : Nat} (ht : t < 3) (he : e < n) (hc : s e ≤ c t) : rg_R n s o ord pos c par CH ST OR ORD (upd K (t * 40 + e) 1) D CK P AB := by
  obtain ⟨hn, G, h1, h2, h3, h4, h5, h6, h7, h8⟩ := R
  refine ⟨hn, G, h1, h2, h3, h4, fun j => ⟨rg_us1 (fun i => (h5 i).1) j, (h5 j).2⟩, ?_, ?_, h8⟩
  · intro r e' hr he' w
    by_cases z : r * 40 + e' = t * 40 + e
    · have z1 : r = t := by omega
      have z2 : e' = e := by omega
      rw [z1, z2]
      exact hc
    · rw [rg_un z] at w
      exact h6 r e' hr he' w
  · intro r e' hr he' h40
    rw [rg_un (by omega)]
    exact h7 r e' hr he' h40
theorem rg_R_uC (R : rg_R n s o ord pos c par CH ST OR ORD K D CK P AB) {t x : Nat} (hx : c t ≤ x) (hxn : x ≤ n) : rg_R n s o ord pos (fun r => if r = t then x else c r) par CH ST OR ORD K D (upd CK t (nI x)) P AB := by
  obtain ⟨hn, G, h1, h2, h3, h4, h5, h6, h7, h8⟩ := R
  have hg : ∀ r, c r ≤ (fun r => if r = t then x else c r) r := by
    intro r
    show c r ≤ if r = t then x else c r
    by_cases z : r = t
    · rw [if_pos z, z]
      exact hx
    · rw [if_neg z]
      exact Nat.le_refl _
  refine ⟨hn, G, ?_, ?_, h3, h4, h5, ?_, h7, h8⟩
  · intro e he
    obtain ⟨a1, a2, a3, a4, a5⟩ := h1 e he
    exact ⟨a1, a2, a3, a4, Nat.le_trans a5 (hg _)⟩
  · intro r hr
    by_cases z : r = t
    · rw [z]
      show upd CK t (nI x) t = nI (if t = t then x else c t) ∧ (if t = t then x else c t) ≤ n
      rw [if_pos rfl, rg_us]
      exact ⟨rfl, hxn⟩
    · show upd CK t (nI x) r = nI (if r = t then x else c r) ∧ (if r = t then x else c r) ≤ n
      rw [if_neg z, rg_un z]
      exact h2 r hr
  · intro r e hr he w
    exact Nat.le_trans (h6 r e hr he w) (hg r)
/-- one deletion learned, or not -/
theorem rl_del (R : rg_R n s o ord pos c par CH ST OR ORD K D CK P AB) {t f e : Nat} (ht : t < 3) (hf : f < 3) (he : e < n) (q : Nat) : ∃ (D1 : Nat → Int32) (q1 : Nat), rg_R n s o ord pos c par CH ST OR ORD K D1 CK P AB ∧
    (∀ (post : Int32 → SX → Prop) (J : Int32 → Int32 → Int32 → (Nat → Int32) → (Nat → Int32) → (Nat → Int32) → (Nat → Int32) → (Nat → Int32) → (Nat → Int32) → (Nat → Int32) → Prop), J (nI q1) (nI (e + 1)) (nI n) CH ST OR ORD K D1 CK → wX_learn_54 post J (nI t) (nI f) (nI q) (nI e) (nI n) CH ST OR ORD K D CK) ∧
    (∀ (post : Int32 → SY → Prop) (J : Int32 → Int32 → (Nat → Int32) → (Nat → Int32) → (Nat → Int32) → (Nat → Int32) → (Nat → Int32) → (Nat → Int32) → (Nat → Int32) → (Nat → Int32) → (Nat → Int32) → Prop), J (nI q1) (nI (e + 1)) CH ST OR P AB K D1 CK YO → wY_learn_115 post J (nI t) (nI f) (nI q) (nI e) (nI n) fo CH ST OR P AB K D CK YO) := by
  have hn := R.1
  have hb := rg_R_D R
  have it : vp_in (nI (t * 40 + e)) 120 := vp_in_nI (by omega) (by omega)
  have jf : vp_in (nI (f * 40 + e)) 120 := vp_in_nI (by omega) (by omega)
  by_cases zf : D (f * 40 + e) = 0
  · refine ⟨D, q, R, fun post J h => ?_, fun post J h => ?_⟩
    · unfold wX_learn_54 wpX_learnDeletion
      dsimp only
      exact rx_kd hf (by omega) hb (fun w => (w zf).elim) (fun _ => br_t rfl (br_t rfl (nm_r (nI_1 _) h)))
    · unfold wY_learn_115
      rw [rg_cell, nI_clamp (n := f * 40 + e) (by omega)]
      exact ⟨jf, br_t zf (nm_r (nI_1 _) h)⟩
  · by_cases zt : D (t * 40 + e) = 0
    · refine ⟨upd D (t * 40 + e) 1, q + 1, rg_R_uD R _, fun post J h => ?_, fun post J h => ?_⟩
      · unfold wX_learn_54 wpX_learnDeletion
        dsimp only
        refine rx_kd hf (by omega) hb (fun _ => br_f rg_10 ?_) (fun w => (zf w).elim)
        refine rx_kd ht (by omega) hb (fun w => (w zt).elim) (fun _ => br_t rfl ?_)
        refine rx_cell ⟨it, nm_r (e' := upd D (t * 40 + e) 1) (by rw [nI_clamp (by omega), rg_nb1]) ?_⟩
        exact br_f rg_10 (nm_r (nI_1 _) (nm_r (nI_1 _) h))
      · unfold wY_learn_115
        rw [rg_cell, rg_cell, nI_clamp (n := f * 40 + e) (by omega), nI_clamp (n := t * 40 + e) (by omega), rg_nb1]
        exact ⟨jf, br_f zf ⟨it, br_t zt ⟨it, nm_e (nm_r (nI_1 _) (nm_r (nI_1 _) h))⟩⟩⟩
    · refine ⟨D, q, R, fun post J h => ?_, fun post J h => ?_⟩
      · unfold wX_learn_54 wpX_learnDeletion
        dsimp only
        refine rx_kd hf (by omega) hb (fun _ => br_f rg_10 ?_) (fun w => (zf w).elim)
        exact rx_kd ht (by omega) hb (fun _ => br_f rg_10 (br_t rfl (nm_r (nI_1 _) h))) (fun w => (zt w).elim)
      · unfold wY_learn_115
        rw [rg_cell, rg_cell, nI_clamp (n := f * 40 + e) (by omega), nI_clamp (n := t * 40 + e) (by omega)]
        exact ⟨jf, br_f zf ⟨it, br_f zt (nm_r (nI_1 _) h)⟩⟩
/-- one element learned, or not -/
theorem rl_el (R : rg_R n s o ord pos c par CH ST OR ORD K D CK P AB) {t f e : Nat} (ht : t < 3) (hf : f < 3) (he : e < n) (q : Nat) : ∃ (K1 CK1 : Nat → Int32) (c1 : Nat → Nat) (q1 : Nat), rg_R n s o ord pos c1 par CH ST OR ORD K1 D CK1 P AB ∧
    (∀ (post : Int32 → SX → Prop) (m : Nat), wX_learn_54 post (wX_learn_31 post (nI t) (nI f) m) (nI t) (nI f) (nI q1) (nI e) (nI n) CH ST OR ORD K1 D CK1 → wX_learn_31 post (nI t) (nI f) (m + 1) (nI q) (nI e) (nI n) CH ST OR ORD K D CK) ∧
    (∀ (post : Int32 → SY → Prop) (m : Nat), wY_learn_115 post (wY_learn_31 post (nI t) (nI f) (nI n) fo m) (nI t) (nI f) (nI q1) (nI e) (nI n) fo CH ST OR P AB K1 D CK1 YO → wY_learn_31 post (nI t) (nI f) (nI n) fo (m + 1) (nI q) (nI e) CH ST OR P AB K D CK YO) := by
  have hn := R.1
  have hb := rg_R_K R
  obtain ⟨hs, _, hs2, _, _⟩ := R.2.2.1 e he
  obtain ⟨hc, hc2⟩ := R.2.2.2.1 t ht
  have it : vp_in (nI (t * 40 + e)) 120 := vp_in_nI (by omega) (by omega)
  have jf : vp_in (nI (f * 40 + e)) 120 := vp_in_nI (by omega) (by omega)
  have it3 : vp_in (nI t) 3 := vp_in_nI (by omega) (by omega)
  have ie : vp_in (nI e) 40 := vp_in_nI (by omega) (by omega)
  have hne : ¬ nI n ≤ nI e := nI_ge he (by omega)
  have es : ST (nI e).toNatClampNeg = nI (s e) := by rw [nI_clamp (by omega)]; exact hs
  have ecl : CK (nI t).toNatClampNeg = nI (c t) := by rw [nI_clamp (by omega)]; exact hc
  by_cases zf : rg_k K f e = true
  · have zf' := rg_k_n zf
    by_cases zt : rg_k K t e = true
    · have zt' := rg_k_n zt
      refine ⟨K, CK, c, q, R, fun post m h => ?_, fun post m h => ?_⟩
      · refine br_f hne ?_
        unfold wpX_learnElement
        dsimp only
        refine rx_kn hf (by omega) hb (fun _ => br_f rg_10 ?_) (fun w => (w zf).elim)
        exact rx_kn ht (by omega) hb (fun _ => br_f rg_10 (br_t rfl h)) (fun w => (w zt).elim)
      · rw [wY_learn_31]
        dsimp only
        rw [rg_cell, rg_cell, nI_clamp (n := f * 40 + e) (by omega), nI_clamp (n := t * 40 + e) (by omega)]
        exact br_f hne ⟨jf, br_f zf' ⟨it, br_f zt' h⟩⟩
    · have zt' : K (t * 40 + e) = 0 := by
        by_cases w : K (t * 40 + e) = 0
        · exact w
        · exact (zt (rg_k_t w)).elim
      by_cases zc : s e ≤ c t
      · have hle : nI (s e) ≤ nI (c t) := nI_le zc (by omega)
        refine ⟨upd K (t * 40 + e) 1, CK, c, q + 1, rg_R_uK R ht he zc, fun post m h => ?_, fun post m h => ?_⟩
        · refine br_f hne ?_
          unfold wpX_learnElement
          dsimp only
          rw [es, ecl]
          refine rx_kn hf (by omega) hb (fun _ => br_f rg_10 ?_) (fun w => (w zf).elim)
          refine rx_kn ht (by omega) hb (fun w => (zt w).elim) (fun _ => br_t rfl ?_)
          refine rx_cell ⟨it, nm_r (e' := upd K (t * 40 + e) 1) (by rw [nI_clamp (by omega), rg_nb1]) ⟨it3, ie, br_t hle (br_f rg_10 (nm_r (nI_1 _) h))⟩⟩
        · rw [wY_learn_31]
          dsimp only
          rw [rg_cell, rg_cell, nI_clamp (n := f * 40 + e) (by omega), nI_clamp (n := t * 40 + e) (by omega), rg_nb1, es, ecl]
          exact br_f hne ⟨jf, br_f zf' ⟨it, br_t zt' ⟨it, nm_e ⟨it3, ie, br_t hle (nm_r (nI_1 _) h)⟩⟩⟩⟩
      · have hle : ¬ nI (s e) ≤ nI (c t) := nI_ge (by omega) (by omega)
        refine ⟨upd K (t * 40 + e) 1, upd CK t (nI (s e)), fun r => if r = t then s e else c r, q + 1, rg_R_uK (rg_R_uC R (by omega) hs2) ht he (by rw [if_pos rfl]; exact Nat.le_refl _), fun post m h => ?_, fun post m h => ?_⟩
        · refine br_f hne ?_
          unfold wpX_learnElement
          dsimp only
          rw [es, ecl, nI_clamp (n := t) (by omega)]
          refine rx_kn hf (by omega) hb (fun _ => br_f rg_10 ?_) (fun w => (w zf).elim)
          refine rx_kn ht (by omega) hb (fun w => (zt w).elim) (fun _ => br_t rfl ?_)
          refine rx_cell ⟨it, nm_r (e' := upd K (t * 40 + e) 1) (by rw [nI_clamp (by omega), rg_nb1]) ⟨it3, ie, br_f hle ⟨ie, it3, nm_e (br_f rg_10 (nm_r (nI_1 _) h))⟩⟩⟩
        · rw [wY_learn_31]
          dsimp only
          rw [rg_cell, rg_cell, nI_clamp (n := f * 40 + e) (by omega), nI_clamp (n := t * 40 + e) (by omega), rg_nb1, es, ecl, nI_clamp (n := t) (by omega)]
          exact br_f hne ⟨jf, br_f zf' ⟨it, br_t zt' ⟨it, nm_e ⟨it3, ie, br_f hle ⟨ie, it3, nm_e (nm_r (nI_1 _) h)⟩⟩⟩⟩⟩
  · have zf' : K (f * 40 + e) = 0 := by
      by_cases w : K (f * 40 + e) = 0
      · exact w
      · exact (zf (rg_k_t w)).elim
    refine ⟨K, CK, c, q, R, fun post m h => ?_, fun post m h => ?_⟩
    · refine br_f hne ?_
      unfold wpX_learnElement
      dsimp only
      exact rx_kn hf (by omega) hb (fun w => (zf w).elim) (fun _ => br_t rfl (br_t rfl h))
    · rw [wY_learn_31]
      dsimp only
      rw [rg_cell f e, nI_clamp (n := f * 40 + e) (by omega)]
      exact br_f hne ⟨jf, br_t zf' h⟩
/-- all that are left -/
theorem rl_all {t f : Nat} (ht : t < 3) (hf : f < 3) : ∀ (d e q : Nat) (K D CK : Nat → Int32) (c : Nat → Nat), e + d = n → rg_R n s o ord pos c par CH ST OR ORD K D CK P AB →
    ∃ (K1 D1 CK1 : Nat → Int32) (c1 : Nat → Nat) (q1 : Nat), rg_R n s o ord pos c1 par CH ST OR ORD K1 D1 CK1 P AB ∧
    (∀ (post : Int32 → SX → Prop) (m : Nat), d < m → post (nI q1) (nI n, CH, ST, OR, ORD, K1, D1, CK1) → wX_learn_31 post (nI t) (nI f) m (nI q) (nI e) (nI n) CH ST OR ORD K D CK) ∧
    (∀ (post : Int32 → SY → Prop) (m : Nat), d < m → post (nI q1) (nI n, fo, CH, ST, OR, P, AB, K1, D1, CK1, YO) → wY_learn_31 post (nI t) (nI f) (nI n) fo m (nI q) (nI e) CH ST OR P AB K D CK YO) := by
  intro d
  induction d with
  | zero =>
    intro e q K D CK c he R
    have hn := R.1
    have hen : e = n := by omega
    have hle : nI n ≤ nI e := by rw [hen]; exact nI_le (Nat.le_refl _) (by omega)
    refine ⟨K, D, CK, c, q, R, fun post m hm h => ?_, fun post m hm h => ?_⟩
    · obtain ⟨m, rfl⟩ : ∃ m', m = m' + 1 := ⟨m - 1, by omega⟩
      exact br_t hle h
    · obtain ⟨m, rfl⟩ : ∃ m', m = m' + 1 := ⟨m - 1, by omega⟩
      exact br_t hle h
  | succ d ih =>
    intro e q K D CK c he R
    obtain ⟨K1, CK1, c1, q1, R1, x1, y1⟩ := rl_el (fo := fo) (YO := YO) R ht hf (e := e) (by omega) q
    obtain ⟨D2, q2, R2, x2, y2⟩ := rl_del (fo := fo) (YO := YO) R1 ht hf (e := e) (by omega) q1
    obtain ⟨K3, D3, CK3, c3, q3, R3, x3, y3⟩ := ih (e + 1) q2 K1 D2 CK1 c1 (by omega) R2
    refine ⟨K3, D3, CK3, c3, q3, R3, fun post m hm h => ?_, fun post m hm h => ?_⟩
    · obtain ⟨m, rfl⟩ : ∃ m', m = m' + 1 := ⟨m - 1, by omega⟩
      exact x1 post m (x2 post _ (x3 post m (by omega) h))
    · obtain ⟨m, rfl⟩ : ∃ m', m = m' + 1 := ⟨m - 1, by omega⟩
      exact y1 post m (y2 post _ (y3 post m (by omega) h))
end RGA7
theorem i_vc_learn {k : Nat} {u : SX} {v : SY} (I : i_Rel k u v) (hk : k + 4 ≤ 2048) (v1 : Int32) (v2 : Int32) : wpX_learn (fun r u' => wpY_learn (fun r' v' => r' = r ∧ i_Rel (k + 4) u' v') v v1 v2) u v1 v2 := by
  obtain ⟨n, s, o, ord, pos, c, par, CH, ST, OR, ORD, K, D, CK, P, AB, YO, fo, rfl, rfl, R⟩ := I
  have hn := R.1
  unfold wpX_learn
  dsimp only
  rcases rg_rep v1 with h | ⟨t, ht, rfl⟩
  · refine rx_bad h (br_t rfl ?_)
    unfold wpY_learn
    dsimp only
    exact ry_bad h (br_t rfl ⟨rfl, rg_R_i R fo YO⟩)
  · refine rx_ok ht (br_f rg_10 ?_)
    rcases rg_rep v2 with h | ⟨f, hf, rfl⟩
    · refine rx_bad h (br_t rfl ?_)
      unfold wpY_learn
      dsimp only
      exact ry_ok ht (br_f rg_10 (ry_bad h (br_t rfl ⟨rfl, rg_R_i R fo YO⟩)))
    · refine rx_ok hf (br_f rg_10 ?_)
      by_cases z : nI t = nI f
      · refine br_t z ?_
        unfold wpY_learn
        dsimp only
        exact ry_ok ht (br_f rg_10 (ry_ok hf (br_f rg_10 (br_t z ⟨rfl, rg_R_i R fo YO⟩))))
      · obtain ⟨K1, D1, CK1, c1, q1, R1, x1, y1⟩ := rl_all (fo := fo) (YO := YO) ht hf n 0 0 K D CK c (by omega) R
        refine br_f z ⟨n + 1, x1 _ (n + 1) (by omega) ?_⟩
        unfold wpY_learn
        dsimp only
        exact ry_ok ht (br_f rg_10 (ry_ok hf (br_f rg_10 (br_f z ⟨n + 1, y1 _ (n + 1) (by omega) ⟨rfl, rg_R_i R1 fo YO⟩⟩))))
end
section
def rg_w {α : Type} (f : Nat → α) (k : Nat) (x : α) : Nat → α := fun j => if j = k then x else f j
theorem rg_w_s {α : Type} {f : Nat → α} {k : Nat} {x : α} : rg_w f k x k = x := if_pos rfl
theorem rg_w_n {α : Type} {f : Nat → α} {k j : Nat} {x : α} (h : j ≠ k) : rg_w f k x j = f j := if_neg h
def rg_st : Option Nat → Nat
  | none => 0
  | some i => i + 1
section RGA8
variable {CH ST OR ORD K D CK P AB YO : Nat → Int32} {nn fo : Int32} {n : Nat} {s o ord pos c : Nat → Nat} {par : Nat → Option Nat}
theorem rx_gf {post : Int32 → Prop} {a b : Nat} (ha : a < 40) (hb : b < 40) (ea : ST a = nI (s a) ∧ OR a = nI (o a) ∧ s a ≤ 41 ∧ o a < 3) (eb : ST b = nI (s b) ∧ OR b = nI (o b) ∧ s b ≤ 41 ∧ o b < 3) (h1 : rg_gt s o a b → post 1) (h0 : ¬ rg_gt s o a b → post 0) :
    wpX_goesFirst post (nn, CH, ST, OR, ORD, K, D, CK) (nI a) (nI b) := by
  obtain ⟨a1, a2, a3, a4⟩ := ea
  obtain ⟨b1, b2, b3, b4⟩ := eb
  have ia : vp_in (nI a) 40 := vp_in_nI (by omega) (by omega)
  have ib : vp_in (nI b) 40 := vp_in_nI (by omega) (by omega)
  unfold rg_gt at h1 h0
  unfold wpX_goesFirst
  dsimp only
  rw [nI_clamp (n := a) (by omega), nI_clamp (n := b) (by omega), a1, b1, a2, b2]
  exact ⟨ia, ib, rg_eq (s a) (s b) (fun z => ⟨ia, ib, rg_le (o a) (o b) (fun z2 => h0 (by omega)) (fun z2 => h1 (by omega))⟩) (fun z => ⟨ia, ib, rg_le (s a) (s b) (fun z2 => h0 (by omega)) (fun z2 => h1 (by omega))⟩)⟩
/-- the first from here that doesn't go first -/
theorem rx_pf (hn : n < 40) (ho : ∀ i, i < n → ORD i = nI (ord i) ∧ ord i < n) (hS : ∀ e, e < n + 1 → ST e = nI (s e) ∧ OR e = nI (o e) ∧ s e ≤ 41 ∧ o e < 3) : ∀ d i : Nat, i + d = n →
    ∃ q, i ≤ q ∧ q ≤ n ∧ (∀ j, i ≤ j → j < q → rg_gt s o (ord j) n) ∧ (q < n → ¬ rg_gt s o (ord q) n) ∧
    ∀ (post : Int32 → Prop) (m : Nat), d < m → post (nI q) → wX_positionFrom_2 post (nI n) (nI n) CH ST OR ORD K D CK m (nI i) := by
  intro d
  induction d with
  | zero =>
    intro i hi
    have e : i = n := by omega
    refine ⟨n, by omega, Nat.le_refl _, fun j h1 h2 => by omega, fun h => by omega, fun post m hm h => ?_⟩
    obtain ⟨m, rfl⟩ : ∃ m', m = m' + 1 := ⟨m - 1, by omega⟩
    rw [e]
    exact br_t (nI_le (Nat.le_refl _) (by omega)) h
  | succ d ih =>
    intro i hi
    have hin : i < n := by omega
    have e1 : ORD (nI i).toNatClampNeg = nI (ord i) := by
      rw [nI_clamp (by omega)]
      exact (ho i hin).1
    have e2 := (ho i hin).2
    have hge : ¬ nI n ≤ nI i := nI_ge hin (by omega)
    have hv : vp_in (nI i) 40 := vp_in_nI (by omega) (by omega)
    by_cases z : rg_gt s o (ord i) n
    · obtain ⟨q, q1, q2, q3, q4, q5⟩ := ih (i + 1) (by omega)
      refine ⟨q, by omega, q2, fun j h1 h2 => ?_, q4, fun post m hm h => ?_⟩
      · by_cases w : j = i
        · rw [w]
          exact z
        · exact q3 j (by omega) h2
      · obtain ⟨m, rfl⟩ : ∃ m', m = m' + 1 := ⟨m - 1, by omega⟩
        refine br_f hge ⟨hv, ?_⟩
        rw [e1]
        exact rx_gf (by omega) hn (hS (ord i) (by omega)) (hS n (by omega)) (fun _ => br_f rg_10 (nm_r (nI_1 _) (q5 post m (by omega) h))) (fun w => (w z).elim)
    · refine ⟨i, Nat.le_refl _, by omega, fun j h1 h2 => by omega, fun _ => z, fun post m hm h => ?_⟩
      obtain ⟨m, rfl⟩ : ∃ m', m = m' + 1 := ⟨m - 1, by omega⟩
      refine br_f hge ⟨hv, ?_⟩
      rw [e1]
      exact rx_gf (by omega) hn (hS (ord i) (by omega)) (hS n (by omega)) (fun w => (z w).elim) (fun _ => br_t rfl h)
/-- room in the order -/
theorem rx_oo {post : SX → Prop} {q : Nat} (hn : n < 40) (hp : ∀ A : Nat → Int32, (∀ j, j ≤ q → A j = ORD j) → (∀ j, q < j → j ≤ n → A j = ORD (j - 1)) → post (nI n, CH, ST, OR, A, K, D, CK)) : ∀ (m i : Nat) (A : Nat → Int32), q ≤ i → i ≤ n → i - q < m → (∀ j, j ≤ i → A j = ORD j) → (∀ j, i < j → j ≤ n → A j = ORD (j - 1)) →
    wX_openOrderAt_5 post (nI q) (nI n) m (nI i) CH ST OR A K D CK := by
  intro m
  induction m with
  | zero => intro i A _ _ h; omega
  | succ m ih =>
    intro i A h1 h2 h3 h4 h5
    refine rg_le i q (fun z => ?_) (fun z => ?_)
    · have e : i = q := by omega
      rw [e] at h4 h5
      exact hp A h4 h5
    · rw [rg_m1 (n := i) (by omega), nI_clamp (n := i) (by omega), nI_clamp (n := i - 1) (by omega)]
      refine ⟨vp_in_nI (by omega) (by omega), vp_in_nI (by omega) (by omega), nm_e (nm_r (rg_m1' (by omega)) (ih (i - 1) _ (by omega) (by omega) (by omega) ?_ ?_))⟩
      · intro j hj
        rw [rg_un (by omega)]
        exact h4 j (by omega)
      · intro j hj hj2
        by_cases w : j = i
        · rw [w, rg_us]
          exact h4 (i - 1) (by omega)
        · rw [rg_un w]
          exact h5 j (by omega) hj2
/-- X's new element -/
theorem rx_add (R : rg_R n s o ord pos c par CH ST OR ORD K D CK P AB) (hn : n < 40) {r : Nat} (hr : r < 3) (pp : Option Nat) (hpp : ∀ i, pp = some i → i < n) (ch : Int32) :
    ∃ q, rg_st pp ≤ q ∧ q ≤ n ∧ (∀ j, rg_st pp ≤ j → j < q → rg_gt (rg_w s n (c r + 1)) (rg_w o n r) (ord j) n) ∧ (q < n → ¬ rg_gt (rg_w s n (c r + 1)) (rg_w o n r) (ord q) n) ∧
    ∀ (post : Int32 → SX → Prop), (∀ ORD' : Nat → Int32, (∀ i, i < n + 1 → ORD' i = nI (rg_io ord n q i)) → post (nI n) (nI (n + 1), upd CH n ch, upd ST n (nI (c r + 1)), upd OR n (nI r), ORD', upd K (r * 40 + n) 1, D, upd CK r (nI (c r + 1)))) →
      wpX_addElement post (nI n, CH, ST, OR, ORD, K, D, CK) (nI r) (rg_pc pp) ch := by
  obtain ⟨hc, hc2⟩ := R.2.2.2.1 r hr
  have ho := rg_R_o R
  have hS := rg_R_S R
  have hS' : ∀ e, e < n + 1 → upd ST n (nI (c r + 1)) e = nI (rg_w s n (c r + 1) e) ∧ upd OR n (nI r) e = nI (rg_w o n r e) ∧ rg_w s n (c r + 1) e ≤ 41 ∧ rg_w o n r e < 3 := by
    intro e he
    by_cases z : e = n
    · rw [z, rg_us, rg_us, rg_w_s, rg_w_s]
      exact ⟨rfl, rfl, by omega, hr⟩
    · rw [rg_un z, rg_un z, rg_w_n z, rg_w_n z]
      obtain ⟨a1, a2, a3, a4⟩ := hS e (by omega)
      exact ⟨a1, a2, by omega, a4⟩
  have hst : rg_st pp ≤ n := by
    cases pp with
    | none => exact Nat.zero_le _
    | some i => exact hpp i rfl
  obtain ⟨q, q1, q2, q3, q4, q5⟩ := rx_pf (CH := upd CH n ch) (K := K) (D := D) (CK := upd CK r (nI (c r + 1))) hn ho hS' (n - rg_st pp) (rg_st pp) (by omega)
  refine ⟨q, q1, q2, q3, q4, fun post hpost => ?_⟩
  have key : wX_addElement_58 post (nI r) (nI n) (nI (rg_st pp)) (nI n) (upd CH n ch) (upd ST n (nI (c r + 1))) (upd OR n (nI r)) ORD K D (upd CK r (nI (c r + 1))) := by
    unfold wX_addElement_58
    refine ⟨n - rg_st pp + 1, q5 _ (n - rg_st pp + 1) (by omega) ?_⟩
    refine ⟨n + 1, rx_oo (ORD := ORD) hn ?_ (n + 1) n ORD q2 (Nat.le_refl _) (by omega) (fun j _ => rfl) (fun j h1 h2 => by omega)⟩
    intro A hA1 hA2
    refine ⟨vp_in_nI (by omega) (by omega), nm_r (e' := upd A q (nI n)) (by rw [nI_clamp (by omega)]) (nm_r (nI_1 _) (rx_cell ⟨vp_in_nI (by omega) (by omega), nm_r (e' := upd K (r * 40 + n) 1) (by rw [nI_clamp (by omega), rg_nb1]) (hpost _ ?_)⟩))⟩
    intro i hi
    by_cases z : i < q
    · rw [rg_un (by omega), rg_io_l z, hA1 i (by omega)]
      exact (ho i (by omega)).1
    · by_cases z2 : i = q
      · rw [z2, rg_us, rg_io_e]
      · rw [rg_un z2, rg_io_g (by omega), hA2 i (by omega) (by omega)]
        exact (ho (i - 1) (by omega)).1
  have ir : vp_in (nI r) 3 := vp_in_nI (by omega) (by omega)
  have jn : vp_in (nI n) 40 := vp_in_nI (by omega) (by omega)
  unfold wpX_addElement
  dsimp only
  rw [nI_clamp (n := r) (by omega), nI_clamp (n := n) (by omega), hc, nI_1 (c r)]
  refine ⟨ir, ir, nm_e ⟨jn, nm_e ⟨ir, jn, nm_r (e' := upd ST n (nI (c r + 1))) (by show upd ST n (upd CK r (nI (c r + 1)) r) = _; rw [rg_us]) ⟨jn, nm_e ?_⟩⟩⟩⟩
  cases pp with
  | none => exact br_t rfl key
  | some i =>
    have := hpp i rfl
    refine br_f (rg_ne5 (n := i) (by omega)) ?_
    show wX_addElement_58 post (nI r) (nI n) (nI i + 1) (nI n) (upd CH n ch) (upd ST n (nI (c r + 1))) (upd OR n (nI r)) ORD K D (upd CK r (nI (c r + 1)))
    rw [nI_1]
    exact key
end RGA8
end
section
section RGA9
variable {CH ST OR ORD K D CK P AB YO : Nat → Int32} {nn fo : Int32} {n : Nat} {s o ord pos c : Nat → Nat} {par : Nat → Option Nat}
/-- Y's new element -/
theorem ry_in {post : Int32 → SY → Prop} {r : Nat} {x : Int32} {pe : Option Nat} (hn : n < 40) (hr : r < 3) (hc : CK r = nI (c r)) (hP : P n = rg_pc pe) (hpe : ∀ p, pe = some p → p < n)
    (hp : ∀ A : Nat → Int32, (∀ j, j < n * 40 → A j = AB j) → (∀ k, k < 40 → (¬ A (n * 40 + k) = 0 ↔ (k = n ∨ ∃ p, pe = some p ∧ ¬ AB (p * 40 + k) = 0))) → post (nI n) (nI (n + 1), fo, upd CH n (x &&& 255), upd ST n (nI (c r + 1)), upd OR n (nI r), P, A, upd K (r * 40 + n) 1, D, upd CK r (nI (c r + 1)), YO)) :
    ∀ (m i : Nat) (A : Nat → Int32), i ≤ 40 → 40 - i < m → (∀ j, j < n * 40 → A j = AB j) → (∀ k, k < i → (¬ A (n * 40 + k) = 0 ↔ (k = n ∨ ∃ p, pe = some p ∧ ¬ AB (p * 40 + k) = 0))) →
    wY_insert_71 post (nI r) x (nI n) (nI n) fo m (nI i) CH ST OR P A K D CK YO := by
  have ir : vp_in (nI r) 3 := vp_in_nI (by omega) (by omega)
  have jn : vp_in (nI n) 40 := vp_in_nI (by omega) (by omega)
  have jk : vp_in (nI (r * 40 + n)) 120 := vp_in_nI (by omega) (by omega)
  intro m
  induction m with
  | zero => intro i A _ h; omega
  | succ m ih =>
    intro i A h1 h2 h3 h4
    rw [wY_insert_71]
    dsimp only
    refine rg_le 40 i (fun z => ?_) (fun z => ?_)
    · rw [nI_clamp (n := r) (by omega), nI_clamp (n := n) (by omega), rg_cell r n, nI_clamp (n := r * 40 + n) (by omega), rg_nb1, hc, nI_1 (c r)]
      have e : i = 40 := by omega
      rw [e] at h4
      exact ⟨ir, ir, nm_e ⟨jn, nm_e ⟨ir, jn, nm_r (e' := upd ST n (nI (c r + 1))) (by show upd ST n (upd CK r (nI (c r + 1)) r) = _; rw [rg_us]) ⟨jn, nm_e ⟨jk, nm_e (nm_r (nI_1 _) (hp A h3 h4))⟩⟩⟩⟩⟩
    · have ik : vp_in (nI (n * 40 + i)) 1600 := vp_in_nI (by omega) (by omega)
      have st : ∀ v : Int32, (¬ v = 0 ↔ (i = n ∨ ∃ p, pe = some p ∧ ¬ AB (p * 40 + i) = 0)) → wY_insert_71 post (nI r) x (nI n) (nI n) fo m (nI (i + 1)) CH ST OR P (upd A (n * 40 + i) v) K D CK YO := by
        intro v hv
        refine ih (i + 1) _ (by omega) (by omega) ?_ ?_
        · intro j hj
          rw [rg_un (by omega)]
          exact h3 j hj
        · intro k hk
          by_cases w : k = i
          · rw [w, rg_us]
            exact hv
          · rw [rg_un (by omega)]
            exact h4 k (by omega)
      rw [rg_cell n i, nI_clamp (n := n * 40 + i) (by omega), nI_clamp (n := n) (by omega), rg_nb1, rg_nb0, hP]
      refine rg_eq i n (fun z2 => ?_) (fun z2 => ?_)
      · exact ⟨ik, nm_e (nm_r (nI_1 _) (st 1 ⟨fun _ => Or.inl z2, fun _ => rg_10⟩))⟩
      · refine ⟨jn, ?_⟩
        cases hq : pe with
        | none =>
          refine br_t (show (-5 : Int32) < 0 by decide) ⟨ik, nm_e (nm_r (nI_1 _) (st 0 ⟨fun w => (w rfl).elim, fun w => ?_⟩))⟩
          rcases w with w | ⟨p, w, _⟩
          · exact (z2 w).elim
          · rw [hq] at w
            cases w
        | some p =>
          have hpn := hpe p hq
          rw [show rg_pc (some p) = nI p from rfl, rg_cell p i, nI_clamp (n := p * 40 + i) (by omega), h3 (p * 40 + i) (by omega)]
          refine br_f (nI_pos (by omega)) ⟨jn, vp_in_nI (by omega) (by omega), ?_⟩
          by_cases w : AB (p * 40 + i) = 0
          · refine br_t w ⟨ik, nm_e (nm_r (nI_1 _) (st 0 ⟨fun w => (w rfl).elim, fun w3 => ?_⟩))⟩
            rcases w3 with w3 | ⟨p', w3, w4⟩
            · exact (z2 w3).elim
            · rw [hq] at w3
              cases w3
              exact (w4 w).elim
          · exact br_f w ⟨ik, nm_e (nm_r (nI_1 _) (st 1 ⟨fun _ => Or.inr ⟨p, hq, w⟩, fun _ => rg_10⟩))⟩
/-- the relation with a new element -/
theorem rg_R_ins (R : rg_R n s o ord pos c par CH ST OR ORD K D CK P AB) (hn : n < 40) {r q : Nat} (hr : r < 3) {pp : Option Nat} (hpp : ∀ i, pp = some i → i < n ∧ rg_k K r (ord i) = true) (x : Int32) {ORD' A : Nat → Int32}
    (q1 : rg_st pp ≤ q) (q2 : q ≤ n) (q3 : ∀ j, rg_st pp ≤ j → j < q → rg_gt (rg_w s n (c r + 1)) (rg_w o n r) (ord j) n) (q4 : q < n → ¬ rg_gt (rg_w s n (c r + 1)) (rg_w o n r) (ord q) n)
    (hO : ∀ i, i < n + 1 → ORD' i = nI (rg_io ord n q i))
    (hA : ∀ j, j < n * 40 → A j = AB j) (hA2 : ∀ k, k < 40 → (¬ A (n * 40 + k) = 0 ↔ (k = n ∨ ∃ p, pp.map ord = some p ∧ ¬ AB (p * 40 + k) = 0))) :
    rg_R (n + 1) (rg_w s n (c r + 1)) (rg_w o n r) (rg_io ord n q) (rg_ip pos n q) (rg_w c r (c r + 1)) (rg_w par n (pp.map ord)) (upd CH n (x &&& 255)) (upd ST n (nI (c r + 1))) (upd OR n (nI r)) ORD' (upd K (r * 40 + n) 1) D (upd CK r (nI (c r + 1))) (upd P n (rg_pc (pp.map ord))) A := by
  obtain ⟨hn', G, h1, h2, h3, h4, h5, h6, h7, h8⟩ := R
  have hcg : ∀ r', c r' ≤ rg_w c r (c r + 1) r' := by
    intro r'
    by_cases z : r' = r
    · rw [z, rg_w_s]
      omega
    · rw [rg_w_n z]
      exact Nat.le_refl _
  have hcr := (h2 r hr).2
  have hmap : ∀ p, pp.map ord = some p → ∃ i, pp = some i ∧ i < n ∧ ord i = p ∧ p < n ∧ pos p = i ∧ s p ≤ c r := by
    intro p hp
    cases hq : pp with
    | none =>
      rw [hq] at hp
      cases hp
    | some i =>
      rw [hq] at hp
      have e : ord i = p := Option.some.inj hp
      obtain ⟨a1, a2⟩ := hpp i hq
      have a3 := (G.2.1 i a1).1
      refine ⟨i, rfl, a1, e, by omega, by rw [← e]; exact (G.2.1 i a1).2, ?_⟩
      rw [← e]
      exact h6 r (ord i) hr a3 (rg_k_n a2)
  have Gx : rg_G n (rg_w s n (c r + 1)) (rg_w o n r) ord pos (rg_w par n (pp.map ord)) (rg_A A) := by
    refine rg_G_ext G (fun e he => rg_w_n (by omega)) (fun e he => rg_w_n (by omega)) (fun e he => rg_w_n (by omega)) (fun e k he hk => ?_)
    unfold rg_A
    rw [hA (e * 40 + k) (by omega)]
  refine ⟨by omega, ?_, ?_, ?_, hO, ?_, ?_, ?_, ?_, ?_⟩
  · refine rg_G_ins Gx q2 q1 ?_ ?_ ?_ q3 q4 ?_
    · intro a ha e1 e2
      rw [rg_w_n (by omega), rg_w_s] at e1
      rw [rg_w_n (by omega), rg_w_s] at e2
      obtain ⟨_, _, _, _, w⟩ := h1 a ha
      rw [e2] at w
      omega
    · intro e
      rw [rg_w_s] at e
      cases hq : pp with
      | none => rfl
      | some i =>
        rw [hq] at e
        cases e
    · intro p hp
      rw [rg_w_s] at hp
      obtain ⟨i, a1, a2, a3, a4, a5, a6⟩ := hmap p hp
      rw [rg_w_n (by omega), rg_w_s, a1, a5]
      exact ⟨a4, rfl, by omega⟩
    · intro k hk
      rw [rg_w_s]
      show ¬ A (n * 40 + k) = 0 ↔ _
      rw [hA2 k hk]
      constructor
      · intro w
        rcases w with w | ⟨p, w1, w2⟩
        · exact Or.inl w
        · obtain ⟨i, a1, a2, a3, a4, a5, a6⟩ := hmap p w1
          refine Or.inr ⟨p, w1, ?_⟩
          show ¬ A (p * 40 + k) = 0
          rw [hA (p * 40 + k) (by omega)]
          exact w2
      · intro w
        rcases w with w | ⟨p, w1, w2⟩
        · exact Or.inl w
        · obtain ⟨i, a1, a2, a3, a4, a5, a6⟩ := hmap p w1
          refine Or.inr ⟨p, w1, ?_⟩
          have w3 : ¬ A (p * 40 + k) = 0 := w2
          rw [hA (p * 40 + k) (by omega)] at w3
          exact w3
  · intro e he
    by_cases z : e = n
    · rw [z, rg_us, rg_us, rg_w_s, rg_w_s, rg_w_s]
      exact ⟨rfl, rfl, by omega, hr, Nat.le_refl _⟩
    · rw [rg_un z, rg_un z, rg_w_n z, rg_w_n z]
      obtain ⟨a1, a2, a3, a4, a5⟩ := h1 e (by omega)
      exact ⟨a1, a2, by omega, a4, Nat.le_trans a5 (hcg _)⟩
  · intro r' hr'
    by_cases z : r' = r
    · rw [z, rg_us, rg_w_s]
      exact ⟨rfl, by omega⟩
    · rw [rg_un z, rg_w_n z]
      obtain ⟨a1, a2⟩ := h2 r' hr'
      exact ⟨a1, by omega⟩
  · intro e he
    by_cases z : e = n
    · rw [z, rg_us, rg_w_s]
    · rw [rg_un z, rg_w_n z]
      exact h4 e (by omega)
  · exact fun j => ⟨rg_us1 (fun i => (h5 i).1) j, (h5 j).2⟩
  · intro r' e hr' he w
    by_cases z : r' * 40 + e = r * 40 + n
    · have z1 : r' = r := by omega
      have z2 : e = n := by omega
      rw [z1, z2, rg_w_s, rg_w_s]
      exact Nat.le_refl _
    · rw [rg_un z] at w
      by_cases z2 : e = n
      · rw [z2] at w
        exact (w (h7 r' n hr' (Nat.le_refl _) hn)).elim
      · rw [rg_w_n z2]
        exact Nat.le_trans (h6 r' e hr' (by omega) w) (hcg r')
  · intro r' e hr' he h40
    rw [rg_un (by omega)]
    exact h7 r' e hr' (by omega) h40
  · intro e he
    by_cases z : e = n
    · rw [z, rg_us]
      exact rg_and255 x
    · rw [rg_un z]
      exact h8 e (by omega)
end RGA9
theorem i_vc_insert {k : Nat} {u : SX} {v : SY} (I : i_Rel k u v) (hk : k + 4 ≤ 2048) (v1 : Int32) (v2 : Int32) (v3 : Int32) : wpX_insert (fun r u' => wpY_insert (fun r' v' => r' = r ∧ i_Rel (k + 4) u' v') v v1 v2 v3) u v1 v2 v3 := by
  obtain ⟨n, s, o, ord, pos, c, par, CH, ST, OR, ORD, K, D, CK, P, AB, YO, fo, rfl, rfl, R⟩ := I
  have hn := R.1
  have G := R.2.1
  unfold wpX_insert
  dsimp only
  rcases rg_rep v1 with h | ⟨r, hr, rfl⟩
  · refine rx_bad h (br_t rfl ?_)
    unfold wpY_insert
    dsimp only
    exact ry_bad h (br_t rfl ⟨rfl, rg_R_i R fo YO⟩)
  · refine rx_ok hr (br_f rg_10 ?_)
    by_cases h0 : v2 < 0
    · refine br_t h0 ?_
      unfold wpY_insert
      dsimp only
      exact ry_ok hr (br_f rg_10 (br_t h0 ⟨rfl, rg_R_i R fo YO⟩))
    · obtain ⟨p, hp, rfl⟩ := nI_of h0
      have hL := rg_C_le (rg_h K D r) n
      refine br_f h0 (rx_textLength hn hr (rg_le p (rg_C (rg_h K D r) n) (fun z => ?_) (fun z => ?_)))
      · refine rg_lt n 40 (fun z2 => ?_) (fun z2 => ?_)
        · have hpp : ∀ i, rg_at K D ord r n (nI p - 1) = some i → i < n ∧ rg_k K r (ord i) = true := fun i hi => ⟨(rg_at_lt hi).1, rg_h_k (rg_at_lt hi).2⟩
          obtain ⟨q, q1, q2, q3, q4, q5⟩ := rx_add R z2 hr (rg_at K D ord r n (nI p - 1)) (fun i hi => (hpp i hi).1) (v3 &&& 255)
          refine rx_textPosition hn hr (rg_R_o R) (q5 _ ?_)
          intro ORD' hO
          have hpe : ∀ p', (rg_at K D ord r n (nI p - 1)).map ord = some p' → p' < n := by
            intro p' hp'
            cases hq : rg_at K D ord r n (nI p - 1) with
            | none =>
              rw [hq] at hp'
              cases hp'
            | some i =>
              rw [hq] at hp'
              have e : ord i = p' := Option.some.inj hp'
              rw [← e]
              exact (G.2.1 i (hpp i hq).1).1
          have hc := (R.2.2.2.1 r hr).1
          have h40 : ¬ nI n = 40 := fun w => by
            have := (nI_eq (a := n) (b := 40) (by omega) (by omega)).mp w
            omega
          have jn : vp_in (nI n) 40 := vp_in_nI (by omega) (by omega)
          unfold wpY_insert
          dsimp only
          refine ry_ok hr (br_f rg_10 (br_f h0 (ry_length hn hr (br_t (nI_le z (by omega)) (br_f h40 ?_)))))
          rw [nI_clamp (n := n) (by omega)]
          by_cases z3 : p = 0
          · have hnone : rg_at K D ord r n (nI p - 1) = none := by
              rw [z3]
              exact rg_fd_neg (show nI 0 - 1 < 0 by decide) n 0 0 (by omega)
            refine br_t (by rw [z3]; rfl) ⟨jn, nm_r (e' := upd P n (rg_pc ((rg_at K D ord r n (nI p - 1)).map ord))) (by rw [hnone]; rfl) ⟨41, ry_in (c := c) (AB := AB) (pe := (rg_at K D ord r n (nI p - 1)).map ord) z2 hr hc rg_us hpe ?_ 41 0 AB (by omega) (by omega) (fun j _ => rfl) (fun k h => by omega)⟩⟩
            intro A hA hA2
            exact ⟨rfl, rg_R_i (rg_R_ins R z2 hr hpp v3 q1 q2 q3 q4 hO hA hA2) fo YO⟩
          · refine br_f (fun w => z3 ((nI_eq (a := p) (b := 0) hp (by omega)).mp w)) (ry_elementAt hn G (rg_R_P R) (rg_R_S R) hr (fun fo' YO' => ?_))
            refine ⟨jn, nm_e ⟨41, ry_in (c := c) (AB := AB) (pe := (rg_at K D ord r n (nI p - 1)).map ord) z2 hr hc rg_us hpe ?_ 41 0 AB (by omega) (by omega) (fun j _ => rfl) (fun k h => by omega)⟩⟩
            intro A hA hA2
            exact ⟨rfl, rg_R_i (rg_R_ins R z2 hr hpp v3 q1 q2 q3 q4 hO hA hA2) fo' YO'⟩
        · have e : n = 40 := by omega
          unfold wpY_insert
          dsimp only
          exact ry_ok hr (br_f rg_10 (br_f h0 (ry_length hn hr (br_t (nI_le z (by omega)) (br_t (by rw [e]; rfl) ⟨rfl, rg_R_i R fo YO⟩)))))
      · unfold wpY_insert
        dsimp only
        exact ry_ok hr (br_f rg_10 (br_f h0 (ry_length hn hr (br_f (nI_ge z hp) ⟨rfl, rg_R_i R fo YO⟩))))
end
