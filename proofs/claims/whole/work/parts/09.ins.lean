section RGA9
variable {CH ST OR ORD K D CK P AB YO : Nat → Int32} {nn fo : Int32} {n : Nat} {s o ord pos c : Nat → Nat} {par : Nat → Option Nat}
/-- Y's new element -/
theorem ry_in {post : Int32 → SY → Prop} {r : Nat} {x : Int32} {pe : Option Nat} (hn : n < 40) (hr : r < 3) (hc : CK r = nI (c r)) (hP : P n = rg_pc pe) (hpe : ∀ p, pe = some p → p < n)
    (hp : ∀ A : Nat → Int32, (∀ j, j < n * 40 → A j = AB j) → (∀ k, k < 40 → (¬ A (n * 40 + k) = 0 ↔ (k = n ∨ ∃ p, pe = some p ∧ ¬ AB (p * 40 + k) = 0))) → post (nI n) (nI (n + 1), fo, upd CH n (x &&& 255), upd ST n (nI (c r + 1)), upd OR n (nI r), P, A, upd K (r * 40 + n) 1, D, upd CK r (nI (c r + 1)), YO)) :
    ∀ (m i : Nat) (A : Nat → Int32), i ≤ 40 → 40 - i < m → (∀ j, j < n * 40 → A j = AB j) → (∀ k, k < i → (¬ A (n * 40 + k) = 0 ↔ (k = n ∨ ∃ p, pe = some p ∧ ¬ AB (p * 40 + k) = 0))) →
    wY_insert_71 post (nI r) x (nI n) (nI n) fo m (nI i) CH ST OR P A K D CK YO := by
  have ir : vp_in (nI r) 3 := vp_in_nI (by omega) (by omega)
  have jn : vp_in (nI n) 40 := vp_in_nI (by omega) (by omega)
  have jk : vp_in (nI (r * 40 + n)) 120 := vp_in_nI (by omega) (by omega)
  intro m
  induction m with
  | zero => intro i A _ h; omega
  | succ m ih =>
    intro i A h1 h2 h3 h4
    rw [wY_insert_71]
    dsimp only
    refine rg_le 40 i (fun z => ?_) (fun z => ?_)
    · rw [nI_clamp (n := r) (by omega), nI_clamp (n := n) (by omega), rg_cell r n, nI_clamp (n := r * 40 + n) (by omega), rg_nb1, hc, nI_1 (c r)]
      have e : i = 40 := by omega
      rw [e] at h4
      exact ⟨ir, ir, nm_e ⟨jn, nm_e ⟨ir, jn, nm_r (e' := upd ST n (nI (c r + 1))) (by show upd ST n (upd CK r (nI (c r + 1)) r) = _; rw [rg_us]) ⟨jn, nm_e ⟨jk, nm_e (nm_r (nI_1 _) (hp A h3 h4))⟩⟩⟩⟩⟩
    · have ik : vp_in (nI (n * 40 + i)) 1600 := vp_in_nI (by omega) (by omega)
      have st : ∀ v : Int32, (¬ v = 0 ↔ (i = n ∨ ∃ p, pe = some p ∧ ¬ AB (p * 40 + i) = 0)) → wY_insert_71 post (nI r) x (nI n) (nI n) fo m (nI (i + 1)) CH ST OR P (upd A (n * 40 + i) v) K D CK YO := by
        intro v hv
        refine ih (i + 1) _ (by omega) (by omega) ?_ ?_
        · intro j hj
          rw [rg_un (by omega)]
          exact h3 j hj
        · intro k hk
          by_cases w : k = i
          · rw [w, rg_us]
            exact hv
          · rw [rg_un (by omega)]
            exact h4 k (by omega)
      rw [rg_cell n i, nI_clamp (n := n * 40 + i) (by omega), nI_clamp (n := n) (by omega), rg_nb1, rg_nb0, hP]
      refine rg_eq i n (fun z2 => ?_) (fun z2 => ?_)
      · exact ⟨ik, nm_e (nm_r (nI_1 _) (st 1 ⟨fun _ => Or.inl z2, fun _ => rg_10⟩))⟩
      · refine ⟨jn, ?_⟩
        cases hq : pe with
        | none =>
          refine br_t (show (-5 : Int32) < 0 by decide) ⟨ik, nm_e (nm_r (nI_1 _) (st 0 ⟨fun w => (w rfl).elim, fun w => ?_⟩))⟩
          rcases w with w | ⟨p, w, _⟩
          · exact (z2 w).elim
          · rw [hq] at w
            cases w
        | some p =>
          have hpn := hpe p hq
          rw [show rg_pc (some p) = nI p from rfl, rg_cell p i, nI_clamp (n := p * 40 + i) (by omega), h3 (p * 40 + i) (by omega)]
          refine br_f (nI_pos (by omega)) ⟨jn, vp_in_nI (by omega) (by omega), ?_⟩
          by_cases w : AB (p * 40 + i) = 0
          · refine br_t w ⟨ik, nm_e (nm_r (nI_1 _) (st 0 ⟨fun w => (w rfl).elim, fun w3 => ?_⟩))⟩
            rcases w3 with w3 | ⟨p', w3, w4⟩
            · exact (z2 w3).elim
            · rw [hq] at w3
              cases w3
              exact (w4 w).elim
          · exact br_f w ⟨ik, nm_e (nm_r (nI_1 _) (st 1 ⟨fun _ => Or.inr ⟨p, hq, w⟩, fun _ => rg_10⟩))⟩
/-- the relation with a new element -/
theorem rg_R_ins (R : rg_R n s o ord pos c par CH ST OR ORD K D CK P AB) (hn : n < 40) {r q : Nat} (hr : r < 3) {pp : Option Nat} (hpp : ∀ i, pp = some i → i < n ∧ rg_k K r (ord i) = true) (x : Int32) {ORD' A : Nat → Int32}
    (q1 : rg_st pp ≤ q) (q2 : q ≤ n) (q3 : ∀ j, rg_st pp ≤ j → j < q → rg_gt (rg_w s n (c r + 1)) (rg_w o n r) (ord j) n) (q4 : q < n → ¬ rg_gt (rg_w s n (c r + 1)) (rg_w o n r) (ord q) n)
    (hO : ∀ i, i < n + 1 → ORD' i = nI (rg_io ord n q i))
    (hA : ∀ j, j < n * 40 → A j = AB j) (hA2 : ∀ k, k < 40 → (¬ A (n * 40 + k) = 0 ↔ (k = n ∨ ∃ p, pp.map ord = some p ∧ ¬ AB (p * 40 + k) = 0))) :
    rg_R (n + 1) (rg_w s n (c r + 1)) (rg_w o n r) (rg_io ord n q) (rg_ip pos n q) (rg_w c r (c r + 1)) (rg_w par n (pp.map ord)) (upd CH n (x &&& 255)) (upd ST n (nI (c r + 1))) (upd OR n (nI r)) ORD' (upd K (r * 40 + n) 1) D (upd CK r (nI (c r + 1))) (upd P n (rg_pc (pp.map ord))) A := by
  obtain ⟨hn', G, h1, h2, h3, h4, h5, h6, h7, h8⟩ := R
  have hcg : ∀ r', c r' ≤ rg_w c r (c r + 1) r' := by
    intro r'
    by_cases z : r' = r
    · rw [z, rg_w_s]
      omega
    · rw [rg_w_n z]
      exact Nat.le_refl _
  have hcr := (h2 r hr).2
  have hmap : ∀ p, pp.map ord = some p → ∃ i, pp = some i ∧ i < n ∧ ord i = p ∧ p < n ∧ pos p = i ∧ s p ≤ c r := by
    intro p hp
    cases hq : pp with
    | none =>
      rw [hq] at hp
      cases hp
    | some i =>
      rw [hq] at hp
      have e : ord i = p := Option.some.inj hp
      obtain ⟨a1, a2⟩ := hpp i hq
      have a3 := (G.2.1 i a1).1
      refine ⟨i, rfl, a1, e, by omega, by rw [← e]; exact (G.2.1 i a1).2, ?_⟩
      rw [← e]
      exact h6 r (ord i) hr a3 (rg_k_n a2)
  have Gx : rg_G n (rg_w s n (c r + 1)) (rg_w o n r) ord pos (rg_w par n (pp.map ord)) (rg_A A) := by
    refine rg_G_ext G (fun e he => rg_w_n (by omega)) (fun e he => rg_w_n (by omega)) (fun e he => rg_w_n (by omega)) (fun e k he hk => ?_)
    unfold rg_A
    rw [hA (e * 40 + k) (by omega)]
  refine ⟨by omega, ?_, ?_, ?_, hO, ?_, ?_, ?_, ?_, ?_⟩
  · refine rg_G_ins Gx q2 q1 ?_ ?_ ?_ q3 q4 ?_
    · intro a ha e1 e2
      rw [rg_w_n (by omega), rg_w_s] at e1
      rw [rg_w_n (by omega), rg_w_s] at e2
      obtain ⟨_, _, _, _, w⟩ := h1 a ha
      rw [e2] at w
      omega
    · intro e
      rw [rg_w_s] at e
      cases hq : pp with
      | none => rfl
      | some i =>
        rw [hq] at e
        cases e
    · intro p hp
      rw [rg_w_s] at hp
      obtain ⟨i, a1, a2, a3, a4, a5, a6⟩ := hmap p hp
      rw [rg_w_n (by omega), rg_w_s, a1, a5]
      exact ⟨a4, rfl, by omega⟩
    · intro k hk
      rw [rg_w_s]
      show ¬ A (n * 40 + k) = 0 ↔ _
      rw [hA2 k hk]
      constructor
      · intro w
        rcases w with w | ⟨p, w1, w2⟩
        · exact Or.inl w
        · obtain ⟨i, a1, a2, a3, a4, a5, a6⟩ := hmap p w1
          refine Or.inr ⟨p, w1, ?_⟩
          show ¬ A (p * 40 + k) = 0
          rw [hA (p * 40 + k) (by omega)]
          exact w2
      · intro w
        rcases w with w | ⟨p, w1, w2⟩
        · exact Or.inl w
        · obtain ⟨i, a1, a2, a3, a4, a5, a6⟩ := hmap p w1
          refine Or.inr ⟨p, w1, ?_⟩
          have w3 : ¬ A (p * 40 + k) = 0 := w2
          rw [hA (p * 40 + k) (by omega)] at w3
          exact w3
  · intro e he
    by_cases z : e = n
    · rw [z, rg_us, rg_us, rg_w_s, rg_w_s, rg_w_s]
      exact ⟨rfl, rfl, by omega, hr, Nat.le_refl _⟩
    · rw [rg_un z, rg_un z, rg_w_n z, rg_w_n z]
      obtain ⟨a1, a2, a3, a4, a5⟩ := h1 e (by omega)
      exact ⟨a1, a2, by omega, a4, Nat.le_trans a5 (hcg _)⟩
  · intro r' hr'
    by_cases z : r' = r
    · rw [z, rg_us, rg_w_s]
      exact ⟨rfl, by omega⟩
    · rw [rg_un z, rg_w_n z]
      obtain ⟨a1, a2⟩ := h2 r' hr'
      exact ⟨a1, by omega⟩
  · intro e he
    by_cases z : e = n
    · rw [z, rg_us, rg_w_s]
    · rw [rg_un z, rg_w_n z]
      exact h4 e (by omega)
  · exact fun j => ⟨rg_us1 (fun i => (h5 i).1) j, (h5 j).2⟩
  · intro r' e hr' he w
    by_cases z : r' * 40 + e = r * 40 + n
    · have z1 : r' = r := by omega
      have z2 : e = n := by omega
      rw [z1, z2, rg_w_s, rg_w_s]
      exact Nat.le_refl _
    · rw [rg_un z] at w
      by_cases z2 : e = n
      · rw [z2] at w
        exact (w (h7 r' n hr' (Nat.le_refl _) hn)).elim
      · rw [rg_w_n z2]
        exact Nat.le_trans (h6 r' e hr' (by omega) w) (hcg r')
  · intro r' e hr' he h40
    rw [rg_un (by omega)]
    exact h7 r' e hr' (by omega) h40
  · intro e he
    by_cases z : e = n
    · rw [z, rg_us]
      exact rg_and255 x
    · rw [rg_un z]
      exact h8 e (by omega)
end RGA9
theorem i_vc_insert {k : Nat} {u : SX} {v : SY} (I : i_Rel k u v) (hk : k + 4 ≤ 2048) (v1 : Int32) (v2 : Int32) (v3 : Int32) : wpX_insert (fun r u' => wpY_insert (fun r' v' => r' = r ∧ i_Rel (k + 4) u' v') v v1 v2 v3) u v1 v2 v3 := by
  obtain ⟨n, s, o, ord, pos, c, par, CH, ST, OR, ORD, K, D, CK, P, AB, YO, fo, rfl, rfl, R⟩ := I
  have hn := R.1
  have G := R.2.1
  unfold wpX_insert
  dsimp only
  rcases rg_rep v1 with h | ⟨r, hr, rfl⟩
  · refine rx_bad h (br_t rfl ?_)
    unfold wpY_insert
    dsimp only
    exact ry_bad h (br_t rfl ⟨rfl, rg_R_i R fo YO⟩)
  · refine rx_ok hr (br_f rg_10 ?_)
    by_cases h0 : v2 < 0
    · refine br_t h0 ?_
      unfold wpY_insert
      dsimp only
      exact ry_ok hr (br_f rg_10 (br_t h0 ⟨rfl, rg_R_i R fo YO⟩))
    · obtain ⟨p, hp, rfl⟩ := nI_of h0
      have hL := rg_C_le (rg_h K D r) n
      refine br_f h0 (rx_textLength hn hr (rg_le p (rg_C (rg_h K D r) n) (fun z => ?_) (fun z => ?_)))
      · refine rg_lt n 40 (fun z2 => ?_) (fun z2 => ?_)
        · have hpp : ∀ i, rg_at K D ord r n (nI p - 1) = some i → i < n ∧ rg_k K r (ord i) = true := fun i hi => ⟨(rg_at_lt hi).1, rg_h_k (rg_at_lt hi).2⟩
          obtain ⟨q, q1, q2, q3, q4, q5⟩ := rx_add R z2 hr (rg_at K D ord r n (nI p - 1)) (fun i hi => (hpp i hi).1) (v3 &&& 255)
          refine rx_textPosition hn hr (rg_R_o R) (q5 _ ?_)
          intro ORD' hO
          have hpe : ∀ p', (rg_at K D ord r n (nI p - 1)).map ord = some p' → p' < n := by
            intro p' hp'
            cases hq : rg_at K D ord r n (nI p - 1) with
            | none =>
              rw [hq] at hp'
              cases hp'
            | some i =>
              rw [hq] at hp'
              have e : ord i = p' := Option.some.inj hp'
              rw [← e]
              exact (G.2.1 i (hpp i hq).1).1
          have hc := (R.2.2.2.1 r hr).1
          have h40 : ¬ nI n = 40 := fun w => by
            have := (nI_eq (a := n) (b := 40) (by omega) (by omega)).mp w
            omega
          have jn : vp_in (nI n) 40 := vp_in_nI (by omega) (by omega)
          unfold wpY_insert
          dsimp only
          refine ry_ok hr (br_f rg_10 (br_f h0 (ry_length hn hr (br_t (nI_le z (by omega)) (br_f h40 ?_)))))
          rw [nI_clamp (n := n) (by omega)]
          by_cases z3 : p = 0
          · have hnone : rg_at K D ord r n (nI p - 1) = none := by
              rw [z3]
              exact rg_fd_neg (show nI 0 - 1 < 0 by decide) n 0 0 (by omega)
            refine br_t (by rw [z3]; rfl) ⟨jn, nm_r (e' := upd P n (rg_pc ((rg_at K D ord r n (nI p - 1)).map ord))) (by rw [hnone]; rfl) ⟨41, ry_in (c := c) (AB := AB) (pe := (rg_at K D ord r n (nI p - 1)).map ord) z2 hr hc rg_us hpe ?_ 41 0 AB (by omega) (by omega) (fun j _ => rfl) (fun k h => by omega)⟩⟩
            intro A hA hA2
            exact ⟨rfl, rg_R_i (rg_R_ins R z2 hr hpp v3 q1 q2 q3 q4 hO hA hA2) fo YO⟩
          · refine br_f (fun w => z3 ((nI_eq (a := p) (b := 0) hp (by omega)).mp w)) (ry_elementAt hn G (rg_R_P R) (rg_R_S R) hr (fun fo' YO' => ?_))
            refine ⟨jn, nm_e ⟨41, ry_in (c := c) (AB := AB) (pe := (rg_at K D ord r n (nI p - 1)).map ord) z2 hr hc rg_us hpe ?_ 41 0 AB (by omega) (by omega) (fun j _ => rfl) (fun k h => by omega)⟩⟩
            intro A hA hA2
            exact ⟨rfl, rg_R_i (rg_R_ins R z2 hr hpp v3 q1 q2 q3 q4 hO hA hA2) fo' YO'⟩
        · have e : n = 40 := by omega
          unfold wpY_insert
          dsimp only
          exact ry_ok hr (br_f rg_10 (br_f h0 (ry_length hn hr (br_t (nI_le z (by omega)) (br_t (by rw [e]; rfl) ⟨rfl, rg_R_i R fo YO⟩)))))
      · unfold wpY_insert
        dsimp only
        exact ry_ok hr (br_f rg_10 (br_f h0 (ry_length hn hr (br_f (nI_ge z hp) ⟨rfl, rg_R_i R fo YO⟩))))
