section RGA1
/-! A: counting -/
def rg_C (f : Nat → Bool) : Nat → Nat
  | 0 => 0
  | n + 1 => rg_C f n + (if f n = true then 1 else 0)
theorem rg_C_s (f : Nat → Bool) (n : Nat) : rg_C f (n + 1) = rg_C f n + (if f n = true then 1 else 0) := rfl
theorem rg_C_t {f : Nat → Bool} {n : Nat} (h : f n = true) : rg_C f (n + 1) = rg_C f n + 1 := by rw [rg_C_s, if_pos h]
theorem rg_C_f {f : Nat → Bool} {n : Nat} (h : ¬ f n = true) : rg_C f (n + 1) = rg_C f n := by rw [rg_C_s, if_neg h, Nat.add_zero]
theorem rg_C_ext {f g : Nat → Bool} : ∀ n : Nat, (∀ k, k < n → f k = g k) → rg_C f n = rg_C g n := by
  intro n
  induction n with
  | zero => intro _; rfl
  | succ n ih =>
    intro h
    rw [rg_C_s, rg_C_s, ih (fun k hk => h k (by omega)), h n (by omega)]
theorem rg_C_le (f : Nat → Bool) : ∀ n : Nat, rg_C f n ≤ n := by
  intro n
  induction n with
  | zero => exact Nat.le_refl 0
  | succ n ih =>
    rw [rg_C_s]
    split <;> omega
theorem rg_C_mono (f : Nat → Bool) {a : Nat} : ∀ b : Nat, a ≤ b → rg_C f a ≤ rg_C f b := by
  intro b
  induction b with
  | zero =>
    intro h
    have e : a = 0 := by omega
    rw [e]
    exact Nat.le_refl _
  | succ b ih =>
    intro h
    by_cases e : a = b + 1
    · rw [e]; exact Nat.le_refl _
    · have h2 := ih (by omega)
      rw [rg_C_s]
      omega
theorem rg_C_ins {g g' : Nat → Bool} {q : Nat} (h1 : ∀ i, i < q → g' i = g i) (h2 : ∀ i, q ≤ i → g' (i + 1) = g i) :
    ∀ d : Nat, rg_C g' (q + d + 1) = rg_C g (q + d) + (if g' q = true then 1 else 0) := by
  intro d
  induction d with
  | zero =>
    show rg_C g' (q + 1) = rg_C g q + _
    rw [rg_C_s, rg_C_ext q h1]
  | succ d ih =>
    show rg_C g' (q + d + 1 + 1) = rg_C g (q + d + 1) + _
    rw [rg_C_s, ih, rg_C_s g (q + d), h2 (q + d) (by omega)]
    exact Nat.add_right_comm _ _ _
theorem rg_C_cut (h : Nat → Bool) (p : Nat) : ∀ d : Nat, rg_C (fun i => h i && decide (i < p)) (p + d) = rg_C h p := by
  intro d
  induction d with
  | zero =>
    refine rg_C_ext p ?_
    intro k hk
    show (h k && decide (k < p)) = h k
    rw [decide_eq_true hk, Bool.and_true]
  | succ d ih =>
    show rg_C _ (p + d + 1) = _
    rw [rg_C_f, ih]
    show ¬ (h (p + d) && decide (p + d < p)) = true
    rw [decide_eq_false (by omega), Bool.and_false]
    exact Bool.false_ne_true

/-! B: keys -/
def rg_gt (s o : Nat → Nat) (a b : Nat) : Prop := s b < s a ∨ (s a = s b ∧ o b < o a)
theorem rg_gt_tr {s o : Nat → Nat} {a b c : Nat} (h1 : rg_gt s o a b) (h2 : rg_gt s o b c) : rg_gt s o a c := by
  unfold rg_gt at *
  omega
theorem rg_gt_as {s o : Nat → Nat} {a b : Nat} (h1 : rg_gt s o a b) (h2 : rg_gt s o b a) : False := by
  unfold rg_gt at *
  omega
theorem rg_gt_s {s o : Nat → Nat} {a b : Nat} (h : s b < s a) : rg_gt s o a b := Or.inl h
theorem rg_gt_or {s o : Nat → Nat} {a b : Nat} (h1 : ¬ rg_gt s o a b) (h2 : s a = s b → o a = o b → False) : rg_gt s o b a := by
  have h3 : ¬ (s a = s b ∧ o a = o b) := fun z => h2 z.1 z.2
  clear h2
  unfold rg_gt at *
  omega

/-! C: the order: the parent is the nearest lesser one ahead -/
def rg_G (n : Nat) (s o ord pos : Nat → Nat) (par : Nat → Option Nat) (an : Nat → Nat → Prop) : Prop :=
  (∀ e, e < n → pos e < n ∧ ord (pos e) = e) ∧
  (∀ i, i < n → ord i < n ∧ pos (ord i) = i) ∧
  (∀ a b, a < n → b < n → s a = s b → o a = o b → a = b) ∧
  (∀ e, e < n → par e = none → ∀ i, i < pos e → rg_gt s o (ord i) e) ∧
  (∀ e p, e < n → par e = some p → p < e ∧ pos p < pos e ∧ s p < s e ∧ ∀ i, pos p < i → i < pos e → rg_gt s o (ord i) e) ∧
  (∀ e k, e < n → k < 40 → (an e k ↔ (k = e ∨ ∃ p, par e = some p ∧ an p k))) ∧
  (∀ f : Nat → Bool, rg_C f n = rg_C (fun i => f (ord i)) n)
theorem rg_G_0 {s o ord pos : Nat → Nat} {par : Nat → Option Nat} {an : Nat → Nat → Prop} : rg_G 0 s o ord pos par an :=
  ⟨fun _ h => absurd h (Nat.not_lt_zero _), fun _ h => absurd h (Nat.not_lt_zero _), fun _ _ h => absurd h (Nat.not_lt_zero _), fun _ h => absurd h (Nat.not_lt_zero _), fun _ _ h => absurd h (Nat.not_lt_zero _), fun _ _ h => absurd h (Nat.not_lt_zero _), fun _ => rfl⟩
/-- above, by places -/
theorem rg_an {n : Nat} {s o ord pos : Nat → Nat} {par : Nat → Option Nat} {an : Nat → Nat → Prop} (G : rg_G n s o ord pos par an) (hn : n ≤ 40) :
    ∀ m e k : Nat, e < m → e < n → k < n → (an e k ↔ (pos k ≤ pos e ∧ ∀ i, pos k < i → i ≤ pos e → rg_gt s o (ord i) k)) := by
  obtain ⟨b1, b2, un, p0, p1, ha, hc⟩ := G
  intro m
  induction m with
  | zero => intro e k h; omega
  | succ m ih =>
    intro e k hm he hk
    rw [ha e k he (by omega)]
    constructor
    · intro h
      rcases h with h | ⟨p, hp, hap⟩
      · subst h
        exact ⟨Nat.le_refl _, fun i h1 h2 => by omega⟩
      · obtain ⟨q1, q2, q3, q4⟩ := p1 e p he hp
        obtain ⟨r1, r2⟩ := (ih p k (by omega) (by omega) hk).mp hap
        have hpk : p = k ∨ rg_gt s o p k := by
          by_cases z : pos k = pos p
          · left
            have e1 := (b1 k hk).2
            have e2 := (b1 p (by omega)).2
            rw [← e1, ← e2, z]
          · right
            have := r2 (pos p) (by omega) (Nat.le_refl _)
            rw [(b1 p (by omega)).2] at this
            exact this
        have hek : rg_gt s o e k := by
          rcases hpk with z | z
          · subst z; exact rg_gt_s q3
          · exact rg_gt_tr (rg_gt_s q3) z
        refine ⟨by omega, fun i h1 h2 => ?_⟩
        by_cases z : i ≤ pos p
        · exact r2 i h1 z
        · by_cases z2 : i = pos e
          · rw [z2, (b1 e he).2]; exact hek
          · exact rg_gt_tr (q4 i (by omega) (by omega)) hek
    · intro ⟨h1, h2⟩
      by_cases z : pos k = pos e
      · left
        have e1 := (b1 k hk).2
        have e2 := (b1 e he).2
        rw [← e1, ← e2, z]
      · right
        have hek : rg_gt s o e k := by
          have := h2 (pos e) (by omega) (Nat.le_refl _)
          rw [(b1 e he).2] at this
          exact this
        cases hp : par e with
        | none =>
          have := p0 e he hp (pos k) (by omega)
          rw [(b1 k hk).2] at this
          exact (rg_gt_as this hek).elim
        | some p =>
          obtain ⟨q1, q2, q3, q4⟩ := p1 e p he hp
          have hle : pos k ≤ pos p := by
            by_cases z3 : pos k ≤ pos p
            · exact z3
            · have := q4 (pos k) (by omega) (by omega)
              rw [(b1 k hk).2] at this
              exact (rg_gt_as this hek).elim
          exact ⟨p, rfl, (ih p k (by omega) (by omega) hk).mpr ⟨hle, fun i g1 g2 => h2 i g1 (by omega)⟩⟩
/-- the branches decide -/
theorem rg_bf {n : Nat} {s o ord pos : Nat → Nat} {par : Nat → Option Nat} {an : Nat → Nat → Prop} (G : rg_G n s o ord pos par an) (hn : n ≤ 40) {a b p q : Nat} (ha : a < n) (hb : b < n) (hp : p < n) (hq : q < n)
    (h1 : an a p) (h2 : ¬ an b p) (h3 : an b q) (h4 : ¬ an a q) (h5 : ∀ q', par q = some q' → an a q') (hl : pos a < pos b) : rg_gt s o p q := by
  have A : ∀ e k, e < n → k < n → (an e k ↔ (pos k ≤ pos e ∧ ∀ i, pos k < i → i ≤ pos e → rg_gt s o (ord i) k)) := fun e k he hk => rg_an G hn n e k he he hk
  obtain ⟨b1, b2, un, p0, p1, han, hc⟩ := G
  obtain ⟨x1, x2⟩ := (A a p ha hp).mp h1
  obtain ⟨y1, y2⟩ := (A b q hb hq).mp h3
  have hqa : pos a < pos q := by
    by_cases z : pos a < pos q
    · exact z
    · exact (h4 ((A a q ha hq).mpr ⟨by omega, fun i g1 g2 => y2 i g1 (by omega)⟩)).elim
  have ep := (b1 p hp).2
  cases hpar : par q with
  | none =>
    have := p0 q hq hpar (pos p) (by omega)
    rw [ep] at this
    exact this
  | some q' =>
    obtain ⟨q1, q2, q3, q4⟩ := p1 q q' hq hpar
    by_cases z : pos q' < pos p
    · have := q4 (pos p) z (by omega)
      rw [ep] at this
      exact this
    · exfalso
      have hq' : q' < n := by omega
      have haq := h5 q' hpar
      obtain ⟨w1, w2⟩ := (A a q' ha hq').mp haq
      apply h2
      refine (A b p hb hp).mpr ⟨by omega, fun i g1 g2 => ?_⟩
      by_cases z1 : i ≤ pos a
      · exact x2 i g1 z1
      · by_cases z2 : i ≤ pos q
        · have hqq : rg_gt s o q p := by
            by_cases z4 : pos p = pos q'
            · have e1 := (b1 q' hq').2
              have e2 : q' = p := by rw [← ep, ← e1, z4]
              rw [← e2]
              exact rg_gt_s q3
            · have := x2 (pos q') (by omega) w1
              rw [(b1 q' hq').2] at this
              exact rg_gt_tr (rg_gt_s q3) this
          by_cases z3 : i = pos q
          · rw [z3, (b1 q hq).2]; exact hqq
          · exact rg_gt_tr (q4 i (by omega) (by omega)) hqq
        · have hqq : rg_gt s o q p := by
            by_cases z4 : pos p = pos q'
            · have e1 := (b1 q' hq').2
              have e2 : q' = p := by rw [← ep, ← e1, z4]
              rw [← e2]
              exact rg_gt_s q3
            · have := x2 (pos q') (by omega) w1
              rw [(b1 q' hq').2] at this
              exact rg_gt_tr (rg_gt_s q3) this
          exact rg_gt_tr (y2 i (by omega) g2) hqq
/-- what depends on the first n alone -/
theorem rg_G_ext {n : Nat} {s o s' o' ord pos : Nat → Nat} {par par' : Nat → Option Nat} {an an' : Nat → Nat → Prop} (G : rg_G n s o ord pos par an)
    (hs : ∀ e, e < n → s' e = s e) (ho : ∀ e, e < n → o' e = o e) (hp : ∀ e, e < n → par' e = par e) (ha : ∀ e k, e < n → k < 40 → (an' e k ↔ an e k)) : rg_G n s' o' ord pos par' an' := by
  obtain ⟨b1, b2, un, p0, p1, han, hc⟩ := G
  have hg : ∀ a b, a < n → b < n → rg_gt s o a b → rg_gt s' o' a b := by
    intro a b h1 h2 h
    unfold rg_gt at *
    rw [hs a h1, hs b h2, ho a h1, ho b h2]
    exact h
  refine ⟨b1, b2, ?_, ?_, ?_, ?_, hc⟩
  · intro a b h1 h2 e1 e2
    rw [hs a h1, hs b h2] at e1
    rw [ho a h1, ho b h2] at e2
    exact un a b h1 h2 e1 e2
  · intro e he e1 i hi
    rw [hp e he] at e1
    have := (b1 e he).1
    exact hg _ _ (b2 i (by omega)).1 he (p0 e he e1 i hi)
  · intro e p he e1
    rw [hp e he] at e1
    obtain ⟨q1, q2, q3, q4⟩ := p1 e p he e1
    have := (b1 e he).1
    refine ⟨q1, q2, ?_, fun i g1 g2 => hg _ _ (b2 i (by omega)).1 he (q4 i g1 g2)⟩
    rw [hs e he, hs p (by omega)]
    exact q3
  · intro e k he hk
    rw [ha e k he hk, han e k he hk, hp e he]
    constructor
    · intro h
      rcases h with h | ⟨p, h1, h2⟩
      · exact Or.inl h
      · have := (p1 e p he h1).1
        exact Or.inr ⟨p, h1, (ha p k (by omega) hk).mpr h2⟩
    · intro h
      rcases h with h | ⟨p, h1, h2⟩
      · exact Or.inl h
      · have := (p1 e p he h1).1
        exact Or.inr ⟨p, h1, (ha p k (by omega) hk).mp h2⟩
def rg_io (ord : Nat → Nat) (n q : Nat) : Nat → Nat := fun i => if i < q then ord i else if i = q then n else ord (i - 1)
def rg_ip (pos : Nat → Nat) (n q : Nat) : Nat → Nat := fun e => if e = n then q else if pos e < q then pos e else pos e + 1
theorem rg_io_l {ord : Nat → Nat} {n q i : Nat} (h : i < q) : rg_io ord n q i = ord i := if_pos h
theorem rg_io_e {ord : Nat → Nat} {n q : Nat} : rg_io ord n q q = n := by
  unfold rg_io
  rw [if_neg (Nat.lt_irrefl q), if_pos rfl]
theorem rg_io_g {ord : Nat → Nat} {n q i : Nat} (h : q < i) : rg_io ord n q i = ord (i - 1) := by
  unfold rg_io
  rw [if_neg (by omega), if_neg (by omega)]
theorem rg_ip_n {pos : Nat → Nat} {n q : Nat} : rg_ip pos n q n = q := if_pos rfl
theorem rg_ip_l {pos : Nat → Nat} {n q e : Nat} (h : e < n) (h2 : pos e < q) : rg_ip pos n q e = pos e := by
  unfold rg_ip
  rw [if_neg (by omega), if_pos h2]
theorem rg_ip_g {pos : Nat → Nat} {n q e : Nat} (h : e < n) (h2 : ¬ pos e < q) : rg_ip pos n q e = pos e + 1 := by
  unfold rg_ip
  rw [if_neg (by omega), if_neg h2]
/-- a new element -/
theorem rg_G_ins {n : Nat} {s o ord pos : Nat → Nat} {par : Nat → Option Nat} {an : Nat → Nat → Prop} (G : rg_G n s o ord pos par an) {q st : Nat} (hq : q ≤ n) (hst : st ≤ q)
    (hu : ∀ a, a < n → s a = s n → o a = o n → False)
    (h0 : par n = none → st = 0) (h1 : ∀ p, par n = some p → p < n ∧ st = pos p + 1 ∧ s p < s n)
    (hk : ∀ i, st ≤ i → i < q → rg_gt s o (ord i) n) (hx : q < n → ¬ rg_gt s o (ord q) n)
    (ha : ∀ k, k < 40 → (an n k ↔ (k = n ∨ ∃ p, par n = some p ∧ an p k))) : rg_G (n + 1) s o (rg_io ord n q) (rg_ip pos n q) par an := by
  obtain ⟨b1, b2, un, p0, p1, han, hc⟩ := G
  have hy : q < n → rg_gt s o n (ord q) := fun z => rg_gt_or (hx z) (hu _ (b2 q z).1)
  refine ⟨?_, ?_, ?_, ?_, ?_, ?_, ?_⟩
  · intro e he
    by_cases z : e = n
    · rw [z, rg_ip_n]
      exact ⟨by omega, rg_io_e⟩
    · have he' : e < n := by omega
      obtain ⟨c1, c2⟩ := b1 e he'
      by_cases z2 : pos e < q
      · rw [rg_ip_l he' z2, rg_io_l z2]
        exact ⟨by omega, c2⟩
      · rw [rg_ip_g he' z2, rg_io_g (by omega)]
        exact ⟨by omega, c2⟩
  · intro i hi
    by_cases z : i < q
    · obtain ⟨c1, c2⟩ := b2 i (by omega)
      rw [rg_io_l z, rg_ip_l c1 (by omega)]
      exact ⟨by omega, c2⟩
    · by_cases z2 : i = q
      · rw [z2, rg_io_e, rg_ip_n]
        exact ⟨by omega, rfl⟩
      · obtain ⟨c1, c2⟩ := b2 (i - 1) (by omega)
        rw [rg_io_g (by omega), rg_ip_g c1 (by omega), c2]
        exact ⟨by omega, by omega⟩
  · intro a b h2 h3 e1 e2
    by_cases z : a = n
    · by_cases z2 : b = n
      · rw [z, z2]
      · subst z
        exact (hu b (by omega) e1.symm e2.symm).elim
    · by_cases z2 : b = n
      · subst z2
        exact (hu a (by omega) e1 e2).elim
      · exact un a b (by omega) (by omega) e1 e2
  · intro e he hpe i hi
    by_cases z : e = n
    · subst z
      rw [rg_ip_n] at hi
      rw [rg_io_l hi]
      exact hk i (by have := h0 hpe; omega) hi
    · have he' : e < n := by omega
      obtain ⟨c1, c2⟩ := b1 e he'
      by_cases z2 : i < q
      · rw [rg_io_l z2]
        by_cases z3 : pos e < q
        · rw [rg_ip_l he' z3] at hi
          exact p0 e he' hpe i hi
        · exact p0 e he' hpe i (by omega)
      · by_cases z3 : pos e < q
        · rw [rg_ip_l he' z3] at hi
          omega
        · rw [rg_ip_g he' z3] at hi
          by_cases z4 : i = q
          · subst z4
            rw [rg_io_e]
            have y := hy (by omega)
            by_cases z5 : pos e = i
            · rw [← z5, c2] at y
              exact y
            · exact rg_gt_tr y (p0 e he' hpe i (by omega))
          · rw [rg_io_g (by omega)]
            exact p0 e he' hpe (i - 1) (by omega)
  · intro e p he hpe
    by_cases z : e = n
    · subst z
      obtain ⟨q1, q2, q3⟩ := h1 p hpe
      rw [rg_ip_n, rg_ip_l q1 (by omega)]
      refine ⟨q1, by omega, q3, fun i g1 g2 => ?_⟩
      rw [rg_io_l g2]
      exact hk i (by omega) g2
    · have he' : e < n := by omega
      obtain ⟨c1, c2⟩ := b1 e he'
      obtain ⟨q1, q2, q3, q4⟩ := p1 e p he' hpe
      have hp' : p < n := by omega
      have dp : (pos p < q ∧ rg_ip pos n q p = pos p) ∨ (q ≤ pos p ∧ rg_ip pos n q p = pos p + 1) := by
        by_cases z2 : pos p < q
        · exact Or.inl ⟨z2, rg_ip_l hp' z2⟩
        · exact Or.inr ⟨by omega, rg_ip_g hp' z2⟩
      have de : (pos e < q ∧ rg_ip pos n q e = pos e) ∨ (q ≤ pos e ∧ rg_ip pos n q e = pos e + 1) := by
        by_cases z2 : pos e < q
        · exact Or.inl ⟨z2, rg_ip_l he' z2⟩
        · exact Or.inr ⟨by omega, rg_ip_g he' z2⟩
      refine ⟨q1, by omega, q3, fun i g1 g2 => ?_⟩
      by_cases z2 : i < q
      · rw [rg_io_l z2]
        exact q4 i (by omega) (by omega)
      · by_cases z4 : i = q
        · subst z4
          rw [rg_io_e]
          have y := hy (by omega)
          by_cases z5 : pos e = i
          · rw [← z5, c2] at y
            exact y
          · exact rg_gt_tr y (q4 i (by omega) (by omega))
        · rw [rg_io_g (by omega)]
          exact q4 (i - 1) (by omega) (by omega)
  · intro e k he hk2
    by_cases z : e = n
    · subst z
      exact ha k hk2
    · exact han e k (by omega) hk2
  · intro f
    have w := rg_C_ins (g := fun i => f (ord i)) (g' := fun i => f (rg_io ord n q i)) (q := q) (fun i hi => congrArg f (rg_io_l hi)) (fun i hi => congrArg f (rg_io_g (ord := ord) (n := n) (show q < i + 1 by omega))) (n - q)
    have e1 : q + (n - q) = n := by omega
    rw [e1] at w
    rw [w, rg_C_s, hc f]
    show _ = _ + (if f (rg_io ord n q q) = true then 1 else 0)
    rw [rg_io_e]
/-- the count of those ahead, over elements and over places -/
theorem rg_cnt {n : Nat} {s o ord pos : Nat → Nat} {par : Nat → Option Nat} {an : Nat → Nat → Prop} (G : rg_G n s o ord pos par an) (f : Nat → Bool) {P : Nat} (hP : P ≤ n) :
    rg_C (fun k => f k && decide (pos k < P)) n = rg_C (fun i => f (ord i)) P := by
  obtain ⟨b1, b2, un, p0, p1, han, hc⟩ := G
  rw [hc]
  have w := rg_C_cut (fun i => f (ord i)) P (n - P)
  have e1 : P + (n - P) = n := by omega
  rw [e1] at w
  rw [← w]
  refine rg_C_ext n ?_
  intro k hk
  show (f (ord k) && decide (pos (ord k) < P)) = (f (ord k) && decide (k < P))
  rw [(b2 k hk).2]

/-! D: the first place with a count -/
def rg_fd (f : Nat → Bool) (t : Int32) : Nat → Nat → Nat → Option Nat
  | 0, _, _ => none
  | d + 1, i, c => if f i = true then (if nI c = t then some i else rg_fd f t d (i + 1) (c + 1)) else rg_fd f t d (i + 1) c
theorem rg_fd_s (f : Nat → Bool) (t : Int32) (d i c : Nat) : rg_fd f t (d + 1) i c = if f i = true then (if nI c = t then some i else rg_fd f t d (i + 1) (c + 1)) else rg_fd f t d (i + 1) c := rfl
theorem rg_fd_lt {f : Nat → Bool} {t : Int32} {j : Nat} : ∀ d i c : Nat, rg_fd f t d i c = some j → i ≤ j ∧ j < i + d ∧ f j = true := by
  intro d
  induction d with
  | zero =>
    intro i c h
    cases (show (none : Option Nat) = some j from h)
  | succ d ih =>
    intro i c h
    rw [rg_fd_s] at h
    split at h
    · split at h
      · cases h
        exact ⟨Nat.le_refl _, by omega, by assumption⟩
      · have := ih _ _ h
        exact ⟨by omega, by omega, this.2.2⟩
    · have := ih _ _ h
      exact ⟨by omega, by omega, this.2.2⟩
theorem rg_fd_neg {f : Nat → Bool} {t : Int32} (ht : t < 0) : ∀ d i c : Nat, c + d < 2 ^ 31 → rg_fd f t d i c = none := by
  intro d
  induction d with
  | zero => intro i c _; rfl
  | succ d ih =>
    intro i c h
    rw [rg_fd_s, ih (i + 1) (c + 1) (by omega), ih (i + 1) c (by omega)]
    have : ¬ nI c = t := by
      intro e
      rw [← e] at ht
      exact nI_pos (by omega) ht
    rw [if_neg this]
    split <;> rfl
/-- found just if the count gets beyond it -/
theorem rg_fd_iff {f : Nat → Bool} {p : Nat} (hp : p < 2 ^ 30) : ∀ d i c : Nat, c ≤ p → i + d < 2 ^ 30 → c = rg_C f i → ((∃ j, rg_fd f (nI p) d i c = some j) ↔ p < rg_C f (i + d)) := by
  intro d
  induction d with
  | zero =>
    intro i c h1 h2 h3
    constructor
    · intro ⟨j, h⟩
      cases (show (none : Option Nat) = some j from h)
    · intro h
      have : rg_C f (i + 0) = c := h3.symm
      omega
  | succ d ih =>
    intro i c h1 h2 h3
    have e1 : i + (d + 1) = (i + 1) + d := by omega
    have hc := rg_C_le f i
    rw [rg_fd_s, e1]
    by_cases z : f i = true
    · rw [if_pos z]
      have e2 := rg_C_t z
      by_cases z2 : c = p
      · have z3 : nI c = nI p := by rw [z2]
        rw [if_pos z3]
        have := rg_C_mono f (a := i + 1) (i + 1 + d) (by omega)
        exact ⟨fun _ => by omega, fun _ => ⟨i, rfl⟩⟩
      · have z3 : ¬ nI c = nI p := fun e => z2 ((nI_eq (by omega) (by omega)).mp e)
        rw [if_neg z3]
        exact ih (i + 1) (c + 1) (by omega) (by omega) (by omega)
    · rw [if_neg z]
      have e2 := rg_C_f z
      exact ih (i + 1) c h1 (by omega) (by omega)
end RGA1
