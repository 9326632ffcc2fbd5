section RGA7
variable {CH ST OR ORD K D CK P AB YO : Nat → Int32} {fo : Int32} {n : Nat} {s o ord pos c : Nat → Nat} {par : Nat → Option Nat}
theorem rg_R_uK (R : rg_R n s o ord pos c par CH ST OR ORD K D CK P AB) {t e : Nat} (ht : t < 3) (he : e < n) (hc : s e ≤ c t) : rg_R n s o ord pos c par CH ST OR ORD (upd K (t * 40 + e) 1) D CK P AB := by
  obtain ⟨hn, G, h1, h2, h3, h4, h5, h6, h7, h8⟩ := R
  refine ⟨hn, G, h1, h2, h3, h4, fun j => ⟨rg_us1 (fun i => (h5 i).1) j, (h5 j).2⟩, ?_, ?_, h8⟩
  · intro r e' hr he' w
    by_cases z : r * 40 + e' = t * 40 + e
    · have z1 : r = t := by omega
      have z2 : e' = e := by omega
      rw [z1, z2]
      exact hc
    · rw [rg_un z] at w
      exact h6 r e' hr he' w
  · intro r e' hr he' h40
    rw [rg_un (by omega)]
    exact h7 r e' hr he' h40
theorem rg_R_uC (R : rg_R n s o ord pos c par CH ST OR ORD K D CK P AB) {t x : Nat} (hx : c t ≤ x) (hxn : x ≤ n) : rg_R n s o ord pos (fun r => if r = t then x else c r) par CH ST OR ORD K D (upd CK t (nI x)) P AB := by
  obtain ⟨hn, G, h1, h2, h3, h4, h5, h6, h7, h8⟩ := R
  have hg : ∀ r, c r ≤ (fun r => if r = t then x else c r) r := by
    intro r
    show c r ≤ if r = t then x else c r
    by_cases z : r = t
    · rw [if_pos z, z]
      exact hx
    · rw [if_neg z]
      exact Nat.le_refl _
  refine ⟨hn, G, ?_, ?_, h3, h4, h5, ?_, h7, h8⟩
  · intro e he
    obtain ⟨a1, a2, a3, a4, a5⟩ := h1 e he
    exact ⟨a1, a2, a3, a4, Nat.le_trans a5 (hg _)⟩
  · intro r hr
    by_cases z : r = t
    · rw [z]
      show upd CK t (nI x) t = nI (if t = t then x else c t) ∧ (if t = t then x else c t) ≤ n
      rw [if_pos rfl, rg_us]
      exact ⟨rfl, hxn⟩
    · show upd CK t (nI x) r = nI (if r = t then x else c r) ∧ (if r = t then x else c r) ≤ n
      rw [if_neg z, rg_un z]
      exact h2 r hr
  · intro r e hr he w
    exact Nat.le_trans (h6 r e hr he w) (hg r)
/-- one deletion learned, or not -/
theorem rl_del (R : rg_R n s o ord pos c par CH ST OR ORD K D CK P AB) {t f e : Nat} (ht : t < 3) (hf : f < 3) (he : e < n) (q : Nat) : ∃ (D1 : Nat → Int32) (q1 : Nat), rg_R n s o ord pos c par CH ST OR ORD K D1 CK P AB ∧
    (∀ (post : Int32 → SX → Prop) (J : Int32 → Int32 → Int32 → (Nat → Int32) → (Nat → Int32) → (Nat → Int32) → (Nat → Int32) → (Nat → Int32) → (Nat → Int32) → (Nat → Int32) → Prop), J (nI q1) (nI (e + 1)) (nI n) CH ST OR ORD K D1 CK → wX_learn_54 post J (nI t) (nI f) (nI q) (nI e) (nI n) CH ST OR ORD K D CK) ∧
    (∀ (post : Int32 → SY → Prop) (J : Int32 → Int32 → (Nat → Int32) → (Nat → Int32) → (Nat → Int32) → (Nat → Int32) → (Nat → Int32) → (Nat → Int32) → (Nat → Int32) → (Nat → Int32) → (Nat → Int32) → Prop), J (nI q1) (nI (e + 1)) CH ST OR P AB K D1 CK YO → wY_learn_115 post J (nI t) (nI f) (nI q) (nI e) (nI n) fo CH ST OR P AB K D CK YO) := by
  have hn := R.1
  have hb := rg_R_D R
  have it : vp_in (nI (t * 40 + e)) 120 := vp_in_nI (by omega) (by omega)
  have jf : vp_in (nI (f * 40 + e)) 120 := vp_in_nI (by omega) (by omega)
  by_cases zf : D (f * 40 + e) = 0
  · refine ⟨D, q, R, fun post J h => ?_, fun post J h => ?_⟩
    · unfold wX_learn_54 wpX_learnDeletion
      dsimp only
      exact rx_kd hf (by omega) hb (fun w => (w zf).elim) (fun _ => br_t rfl (br_t rfl (nm_r (nI_1 _) h)))
    · unfold wY_learn_115
      rw [rg_cell, nI_clamp (n := f * 40 + e) (by omega)]
      exact ⟨jf, br_t zf (nm_r (nI_1 _) h)⟩
  · by_cases zt : D (t * 40 + e) = 0
    · refine ⟨upd D (t * 40 + e) 1, q + 1, rg_R_uD R _, fun post J h => ?_, fun post J h => ?_⟩
      · unfold wX_learn_54 wpX_learnDeletion
        dsimp only
        refine rx_kd hf (by omega) hb (fun _ => br_f rg_10 ?_) (fun w => (zf w).elim)
        refine rx_kd ht (by omega) hb (fun w => (w zt).elim) (fun _ => br_t rfl ?_)
        refine rx_cell ⟨it, nm_r (e' := upd D (t * 40 + e) 1) (by rw [nI_clamp (by omega), rg_nb1]) ?_⟩
        exact br_f rg_10 (nm_r (nI_1 _) (nm_r (nI_1 _) h))
      · unfold wY_learn_115
        rw [rg_cell, rg_cell, nI_clamp (n := f * 40 + e) (by omega), nI_clamp (n := t * 40 + e) (by omega), rg_nb1]
        exact ⟨jf, br_f zf ⟨it, br_t zt ⟨it, nm_e (nm_r (nI_1 _) (nm_r (nI_1 _) h))⟩⟩⟩
    · refine ⟨D, q, R, fun post J h => ?_, fun post J h => ?_⟩
      · unfold wX_learn_54 wpX_learnDeletion
        dsimp only
        refine rx_kd hf (by omega) hb (fun _ => br_f rg_10 ?_) (fun w => (zf w).elim)
        exact rx_kd ht (by omega) hb (fun _ => br_f rg_10 (br_t rfl (nm_r (nI_1 _) h))) (fun w => (zt w).elim)
      · unfold wY_learn_115
        rw [rg_cell, rg_cell, nI_clamp (n := f * 40 + e) (by omega), nI_clamp (n := t * 40 + e) (by omega)]
        exact ⟨jf, br_f zf ⟨it, br_f zt (nm_r (nI_1 _) h)⟩⟩
/-- one element learned, or not -/
theorem rl_el (R : rg_R n s o ord pos c par CH ST OR ORD K D CK P AB) {t f e : Nat} (ht : t < 3) (hf : f < 3) (he : e < n) (q : Nat) : ∃ (K1 CK1 : Nat → Int32) (c1 : Nat → Nat) (q1 : Nat), rg_R n s o ord pos c1 par CH ST OR ORD K1 D CK1 P AB ∧
    (∀ (post : Int32 → SX → Prop) (m : Nat), wX_learn_54 post (wX_learn_31 post (nI t) (nI f) m) (nI t) (nI f) (nI q1) (nI e) (nI n) CH ST OR ORD K1 D CK1 → wX_learn_31 post (nI t) (nI f) (m + 1) (nI q) (nI e) (nI n) CH ST OR ORD K D CK) ∧
    (∀ (post : Int32 → SY → Prop) (m : Nat), wY_learn_115 post (wY_learn_31 post (nI t) (nI f) (nI n) fo m) (nI t) (nI f) (nI q1) (nI e) (nI n) fo CH ST OR P AB K1 D CK1 YO → wY_learn_31 post (nI t) (nI f) (nI n) fo (m + 1) (nI q) (nI e) CH ST OR P AB K D CK YO) := by
  have hn := R.1
  have hb := rg_R_K R
  obtain ⟨hs, _, hs2, _, _⟩ := R.2.2.1 e he
  obtain ⟨hc, hc2⟩ := R.2.2.2.1 t ht
  have it : vp_in (nI (t * 40 + e)) 120 := vp_in_nI (by omega) (by omega)
  have jf : vp_in (nI (f * 40 + e)) 120 := vp_in_nI (by omega) (by omega)
  have it3 : vp_in (nI t) 3 := vp_in_nI (by omega) (by omega)
  have ie : vp_in (nI e) 40 := vp_in_nI (by omega) (by omega)
  have hne : ¬ nI n ≤ nI e := nI_ge he (by omega)
  have es : ST (nI e).toNatClampNeg = nI (s e) := by rw [nI_clamp (by omega)]; exact hs
  have ecl : CK (nI t).toNatClampNeg = nI (c t) := by rw [nI_clamp (by omega)]; exact hc
  by_cases zf : rg_k K f e = true
  · have zf' := rg_k_n zf
    by_cases zt : rg_k K t e = true
    · have zt' := rg_k_n zt
      refine ⟨K, CK, c, q, R, fun post m h => ?_, fun post m h => ?_⟩
      · refine br_f hne ?_
        unfold wpX_learnElement
        dsimp only
        refine rx_kn hf (by omega) hb (fun _ => br_f rg_10 ?_) (fun w => (w zf).elim)
        exact rx_kn ht (by omega) hb (fun _ => br_f rg_10 (br_t rfl h)) (fun w => (w zt).elim)
      · rw [wY_learn_31]
        dsimp only
        rw [rg_cell, rg_cell, nI_clamp (n := f * 40 + e) (by omega), nI_clamp (n := t * 40 + e) (by omega)]
        exact br_f hne ⟨jf, br_f zf' ⟨it, br_f zt' h⟩⟩
    · have zt' : K (t * 40 + e) = 0 := by
        by_cases w : K (t * 40 + e) = 0
        · exact w
        · exact (zt (rg_k_t w)).elim
      by_cases zc : s e ≤ c t
      · have hle : nI (s e) ≤ nI (c t) := nI_le zc (by omega)
        refine ⟨upd K (t * 40 + e) 1, CK, c, q + 1, rg_R_uK R ht he zc, fun post m h => ?_, fun post m h => ?_⟩
        · refine br_f hne ?_
          unfold wpX_learnElement
          dsimp only
          rw [es, ecl]
          refine rx_kn hf (by omega) hb (fun _ => br_f rg_10 ?_) (fun w => (w zf).elim)
          refine rx_kn ht (by omega) hb (fun w => (zt w).elim) (fun _ => br_t rfl ?_)
          refine rx_cell ⟨it, nm_r (e' := upd K (t * 40 + e) 1) (by rw [nI_clamp (by omega), rg_nb1]) ⟨it3, ie, br_t hle (br_f rg_10 (nm_r (nI_1 _) h))⟩⟩
        · rw [wY_learn_31]
          dsimp only
          rw [rg_cell, rg_cell, nI_clamp (n := f * 40 + e) (by omega), nI_clamp (n := t * 40 + e) (by omega), rg_nb1, es, ecl]
          exact br_f hne ⟨jf, br_f zf' ⟨it, br_t zt' ⟨it, nm_e ⟨it3, ie, br_t hle (nm_r (nI_1 _) h)⟩⟩⟩⟩
      · have hle : ¬ nI (s e) ≤ nI (c t) := nI_ge (by omega) (by omega)
        refine ⟨upd K (t * 40 + e) 1, upd CK t (nI (s e)), fun r => if r = t then s e else c r, q + 1, rg_R_uK (rg_R_uC R (by omega) hs2) ht he (by rw [if_pos rfl]; exact Nat.le_refl _), fun post m h => ?_, fun post m h => ?_⟩
        · refine br_f hne ?_
          unfold wpX_learnElement
          dsimp only
          rw [es, ecl, nI_clamp (n := t) (by omega)]
          refine rx_kn hf (by omega) hb (fun _ => br_f rg_10 ?_) (fun w => (w zf).elim)
          refine rx_kn ht (by omega) hb (fun w => (zt w).elim) (fun _ => br_t rfl ?_)
          refine rx_cell ⟨it, nm_r (e' := upd K (t * 40 + e) 1) (by rw [nI_clamp (by omega), rg_nb1]) ⟨it3, ie, br_f hle ⟨ie, it3, nm_e (br_f rg_10 (nm_r (nI_1 _) h))⟩⟩⟩
        · rw [wY_learn_31]
          dsimp only
          rw [rg_cell, rg_cell, nI_clamp (n := f * 40 + e) (by omega), nI_clamp (n := t * 40 + e) (by omega), rg_nb1, es, ecl, nI_clamp (n := t) (by omega)]
          exact br_f hne ⟨jf, br_f zf' ⟨it, br_t zt' ⟨it, nm_e ⟨it3, ie, br_f hle ⟨ie, it3, nm_e (nm_r (nI_1 _) h)⟩⟩⟩⟩⟩
  · have zf' : K (f * 40 + e) = 0 := by
      by_cases w : K (f * 40 + e) = 0
      · exact w
      · exact (zf (rg_k_t w)).elim
    refine ⟨K, CK, c, q, R, fun post m h => ?_, fun post m h => ?_⟩
    · refine br_f hne ?_
      unfold wpX_learnElement
      dsimp only
      exact rx_kn hf (by omega) hb (fun w => (zf w).elim) (fun _ => br_t rfl (br_t rfl h))
    · rw [wY_learn_31]
      dsimp only
      rw [rg_cell f e, nI_clamp (n := f * 40 + e) (by omega)]
      exact br_f hne ⟨jf, br_t zf' h⟩
/-- all that are left -/
theorem rl_all {t f : Nat} (ht : t < 3) (hf : f < 3) : ∀ (d e q : Nat) (K D CK : Nat → Int32) (c : Nat → Nat), e + d = n → rg_R n s o ord pos c par CH ST OR ORD K D CK P AB →
    ∃ (K1 D1 CK1 : Nat → Int32) (c1 : Nat → Nat) (q1 : Nat), rg_R n s o ord pos c1 par CH ST OR ORD K1 D1 CK1 P AB ∧
    (∀ (post : Int32 → SX → Prop) (m : Nat), d < m → post (nI q1) (nI n, CH, ST, OR, ORD, K1, D1, CK1) → wX_learn_31 post (nI t) (nI f) m (nI q) (nI e) (nI n) CH ST OR ORD K D CK) ∧
    (∀ (post : Int32 → SY → Prop) (m : Nat), d < m → post (nI q1) (nI n, fo, CH, ST, OR, P, AB, K1, D1, CK1, YO) → wY_learn_31 post (nI t) (nI f) (nI n) fo m (nI q) (nI e) CH ST OR P AB K D CK YO) := by
  intro d
  induction d with
  | zero =>
    intro e q K D CK c he R
    have hn := R.1
    have hen : e = n := by omega
    have hle : nI n ≤ nI e := by rw [hen]; exact nI_le (Nat.le_refl _) (by omega)
    refine ⟨K, D, CK, c, q, R, fun post m hm h => ?_, fun post m hm h => ?_⟩
    · obtain ⟨m, rfl⟩ : ∃ m', m = m' + 1 := ⟨m - 1, by omega⟩
      exact br_t hle h
    · obtain ⟨m, rfl⟩ : ∃ m', m = m' + 1 := ⟨m - 1, by omega⟩
      exact br_t hle h
  | succ d ih =>
    intro e q K D CK c he R
    obtain ⟨K1, CK1, c1, q1, R1, x1, y1⟩ := rl_el (fo := fo) (YO := YO) R ht hf (e := e) (by omega) q
    obtain ⟨D2, q2, R2, x2, y2⟩ := rl_del (fo := fo) (YO := YO) R1 ht hf (e := e) (by omega) q1
    obtain ⟨K3, D3, CK3, c3, q3, R3, x3, y3⟩ := ih (e + 1) q2 K1 D2 CK1 c1 (by omega) R2
    refine ⟨K3, D3, CK3, c3, q3, R3, fun post m hm h => ?_, fun post m hm h => ?_⟩
    · obtain ⟨m, rfl⟩ : ∃ m', m = m' + 1 := ⟨m - 1, by omega⟩
      exact x1 post m (x2 post _ (x3 post m (by omega) h))
    · obtain ⟨m, rfl⟩ : ∃ m', m = m' + 1 := ⟨m - 1, by omega⟩
      exact y1 post m (y2 post _ (y3 post m (by omega) h))
end RGA7
theorem i_vc_learn {k : Nat} {u : SX} {v : SY} (I : i_Rel k u v) (hk : k + 4 ≤ 2048) (v1 : Int32) (v2 : Int32) : wpX_learn (fun r u' => wpY_learn (fun r' v' => r' = r ∧ i_Rel (k + 4) u' v') v v1 v2) u v1 v2 := by
  obtain ⟨n, s, o, ord, pos, c, par, CH, ST, OR, ORD, K, D, CK, P, AB, YO, fo, rfl, rfl, R⟩ := I
  have hn := R.1
  unfold wpX_learn
  dsimp only
  rcases rg_rep v1 with h | ⟨t, ht, rfl⟩
  · refine rx_bad h (br_t rfl ?_)
    unfold wpY_learn
    dsimp only
    exact ry_bad h (br_t rfl ⟨rfl, rg_R_i R fo YO⟩)
  · refine rx_ok ht (br_f rg_10 ?_)
    rcases rg_rep v2 with h | ⟨f, hf, rfl⟩
    · refine rx_bad h (br_t rfl ?_)
      unfold wpY_learn
      dsimp only
      exact ry_ok ht (br_f rg_10 (ry_bad h (br_t rfl ⟨rfl, rg_R_i R fo YO⟩)))
    · refine rx_ok hf (br_f rg_10 ?_)
      by_cases z : nI t = nI f
      · refine br_t z ?_
        unfold wpY_learn
        dsimp only
        exact ry_ok ht (br_f rg_10 (ry_ok hf (br_f rg_10 (br_t z ⟨rfl, rg_R_i R fo YO⟩))))
      · obtain ⟨K1, D1, CK1, c1, q1, R1, x1, y1⟩ := rl_all (fo := fo) (YO := YO) ht hf n 0 0 K D CK c (by omega) R
        refine br_f z ⟨n + 1, x1 _ (n + 1) (by omega) ?_⟩
        unfold wpY_learn
        dsimp only
        exact ry_ok ht (br_f rg_10 (ry_ok hf (br_f rg_10 (br_f z ⟨n + 1, y1 _ (n + 1) (by omega) ⟨rfl, rg_R_i R1 fo YO⟩⟩))))
