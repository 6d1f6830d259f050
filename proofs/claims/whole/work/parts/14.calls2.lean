theorem ot_rng3 {x y : Int32} {p q : Nat} (hp : p < 2 ^ 31) (hq : q < 2 ^ 31) {A B : Prop} (h1 : ∀ v w, v < p → w < q → x = nI v → y = nI w → B) (h0 : A) : (x < 0 → A) ∧ (¬ x < 0 → ((nI p ≤ x → A) ∧ (¬ nI p ≤ x → ((y < 0 → A) ∧ (¬ y < 0 → ((nI q ≤ y → A) ∧ (¬ nI q ≤ y → B))))))) :=
  ot_rng hp (fun v hv e => ot_rng hq (fun w hw e2 => h1 v w hv hw e e2) (fun _ => h0)) (fun _ => h0)
theorem ot_rng2 {p q v w : Nat} (hp : p < 2 ^ 31) (hq : q < 2 ^ 31) (hv : v < p) (hw : w < q) {A B : Prop} (h1 : B) : (nI v < 0 → A) ∧ (¬ nI v < 0 → ((nI p ≤ nI v → A) ∧ (¬ nI p ≤ nI v → ((nI w < 0 → A) ∧ (¬ nI w < 0 → ((nI q ≤ nI w → A) ∧ (¬ nI q ≤ nI w → B))))))) :=
  ot_rng hp (fun _ _ _ => ot_rng hq (fun _ _ _ => h1) (fun y => absurd ⟨w, hw, rfl⟩ y)) (fun y => absurd ⟨v, hv, rfl⟩ y)
theorem i_vc_effect {k : Nat} {u : SX} {v : SY} (I : i_Rel k u v) (hk : k + 5 ≤ 2562) (v1 : Int32) (v2 : Int32) (v3 : Int32) : wpX_effect (fun r u' => wpY_effect (fun r' v' => r' = r ∧ i_Rel (k + 5) u' v') v v1 v2 v3) u v1 v2 v3 := by
  obtain ⟨n, d, m, co, ne, ef, be, go, aC, aN, aE, aB, aG, mt, lc, rz, od, sn, mv, rm, bd, ls, ah, yl, yf, ym, yb, yd, yr, rfl, rfl, T⟩ := I
  have T0 := T
  obtain ⟨⟨⟨hn1, hn⟩, ⟨hd1, hd⟩, hm⟩, ⟨hC, hco⟩, ⟨hN, hne⟩, ⟨hE, hef⟩, ⟨hB, hbe⟩, ⟨hG, hgo⟩⟩ := T
  rcases Classical.em (∃ o v q, o < m ∧ v < n ∧ q ≤ d ∧ v1 = nI o ∧ v2 = nI v ∧ v3 = ot_rv q) with ⟨o, v, q, ho, hv, hq, rfl, rfl, rfl⟩ | hno
  · have e5 : 5 * nI o + nI v = nI (5 * o + v) := by rw [show 5 * nI o = nI (5 * o) from pk_mul 5 o, nI_add]
    have e6 : nI o * 5 + nI v = nI (5 * o + v) := by rw [show nI o * 5 = nI (o * 5) from pk_mul o 5, nI_add, Nat.mul_comm]
    have iv : vp_in (nI (5 * o + v)) 50 := vp_in_nI (by omega) (by omega)
    have fy : wY_effect_31 (fun r' v' => r' = aE (5 * o + v) ∧ i_Rel (k + 5) (nI n, nI d, nI m, mt, lc, aC, aN, upd aE (5 * o + v) (ot_rv q), aB, aG, od, sn, mv, rm, bd, ls, ah) v') (nI o) (nI v) (ot_rv q) (nI n) (nI d) (nI m) rz aC aN aE aB aG yl yf ym yb yd yr := by
      unfold wY_effect_31
      rw [e5, nI_clamp (by omega)]
      exact ⟨iv, nm_e ⟨iv, nm_e ⟨rfl, i_mk (ot_Te T0 (by omega) hq)⟩⟩⟩
    refine ot_rng (by omega) (fun _ _ _ => br_f ot_01' (ot_rng (by omega) (fun _ _ _ => br_f ot_01' (ot_von hd (fun _ _ _ => br_f ot_01' ?_) (fun y => absurd ⟨q, hq, rfl⟩ y))) (fun y => absurd ⟨v, hv, rfl⟩ y))) (fun y => absurd ⟨o, ho, rfl⟩ y)
    rw [e6]
    refine ⟨iv, nm_r (e' := aE (5 * o + v)) (by rw [nI_clamp (by omega)]) ⟨iv, nm_r (e' := upd aE (5 * o + v) (ot_rv q)) (by rw [nI_clamp (by omega)]) ?_⟩⟩
    exact ot_rng (by omega) (fun _ _ _ => br_f ot_01' (ot_rng (by omega) (fun _ _ _ => br_f ot_01' (br_c (fun _ => fy) (fun w => ot_rng (by omega) (fun _ _ _ => br_f ot_01' fy) (fun y => (y (by
      rcases Classical.em (q = 0) with p | p
      · subst p; exact absurd ot_rv0 w
      · exact ⟨q - 1, by omega, ot_rvp p⟩)).elim)))) (fun y => absurd ⟨v, hv, rfl⟩ y))) (fun y => absurd ⟨o, ho, rfl⟩ y)
  · have fin : (-1 : Int32) = -1 ∧ i_Rel (k + 5) (nI n, nI d, nI m, mt, lc, aC, aN, aE, aB, aG, od, sn, mv, rm, bd, ls, ah) (nI n, nI d, nI m, rz, aC, aN, aE, aB, aG, yl, yf, ym, yb, yd, yr) := ⟨rfl, i_mk T0⟩
    have fy : wpY_effect (fun r' v' => r' = -1 ∧ i_Rel (k + 5) (nI n, nI d, nI m, mt, lc, aC, aN, aE, aB, aG, od, sn, mv, rm, bd, ls, ah) v') (nI n, nI d, nI m, rz, aC, aN, aE, aB, aG, yl, yf, ym, yb, yd, yr) v1 v2 v3 :=
      ot_rng (by omega) (fun o ho e1 => br_f ot_01' (ot_rng (by omega) (fun v hv e2 => br_f ot_01' (br_c (fun e => absurd ⟨o, v, 0, ho, hv, by omega, e1, e2, e.trans ot_rv0.symm⟩ hno) (fun _ => ot_rng (by omega) (fun x hx e3 => absurd ⟨o, v, x + 1, ho, hv, by omega, e1, e2, e3.trans (ot_rvs x).symm⟩ hno) (fun _ => br_t rfl fin)))) (fun _ => br_t rfl fin))) (fun _ => br_t rfl fin)
    exact ot_rng (by omega) (fun o ho e1 => br_f ot_01' (ot_rng (by omega) (fun v hv e2 => br_f ot_01' (ot_von hd (fun q hq e3 => absurd ⟨o, v, q, ho, hv, hq, e1, e2, e3⟩ hno) (fun _ => br_t rfl fy))) (fun _ => br_t rfl fy))) (fun _ => br_t rfl fy)
theorem i_vc_begin {k : Nat} {u : SX} {v : SY} (I : i_Rel k u v) (hk : k + 5 ≤ 2562) (v1 : Int32) (v2 : Int32) : wpX_begin (fun r u' => wpY_begin (fun r' v' => r' = r ∧ i_Rel (k + 5) u' v') v v1 v2) u v1 v2 := by
  obtain ⟨n, d, m, co, ne, ef, be, go, aC, aN, aE, aB, aG, mt, lc, rz, od, sn, mv, rm, bd, ls, ah, yl, yf, ym, yb, yd, yr, rfl, rfl, T⟩ := I
  have T0 := T
  obtain ⟨⟨⟨hn1, hn⟩, ⟨hd1, hd⟩, hm⟩, ⟨hC, hco⟩, ⟨hN, hne⟩, ⟨hE, hef⟩, ⟨hB, hbe⟩, ⟨hG, hgo⟩⟩ := T
  rcases Classical.em (∃ v q, v < n ∧ q < d ∧ v1 = nI v ∧ v2 = nI q) with ⟨v, q, hv, hq, rfl, rfl⟩ | hno
  · have iv : vp_in (nI v) 5 := vp_in_nI (by omega) (by omega)
    have c : (nI v).toNatClampNeg = v := nI_clamp (by omega)
    refine ot_rng2 (by omega) (by omega) hv hq (br_f ot_01' ⟨iv, nm_r (e' := aB v) (by rw [c]) ⟨iv, nm_r (e' := upd aB v (nI q)) (by rw [c]) ?_⟩⟩)
    exact ot_rng (by omega) (fun _ _ _ => br_f ot_01' (ot_rng (by omega) (fun _ _ _ => br_f ot_01' ⟨iv, nm_r (e' := aB v) (by rw [c]) ⟨iv, nm_r (e' := upd aB v (nI q)) (by rw [c]) ⟨rfl, i_mk (ot_Tb T0 (by omega) hq)⟩⟩⟩) (fun y => absurd ⟨q, hq, rfl⟩ y))) (fun y => absurd ⟨v, hv, rfl⟩ y)
  · have fin : (-1 : Int32) = -1 ∧ i_Rel (k + 5) (nI n, nI d, nI m, mt, lc, aC, aN, aE, aB, aG, od, sn, mv, rm, bd, ls, ah) (nI n, nI d, nI m, rz, aC, aN, aE, aB, aG, yl, yf, ym, yb, yd, yr) := ⟨rfl, i_mk T0⟩
    have fy : wpY_begin (fun r' v' => r' = -1 ∧ i_Rel (k + 5) (nI n, nI d, nI m, mt, lc, aC, aN, aE, aB, aG, od, sn, mv, rm, bd, ls, ah) v') (nI n, nI d, nI m, rz, aC, aN, aE, aB, aG, yl, yf, ym, yb, yd, yr) v1 v2 :=
      ot_rng (by omega) (fun v hv e2 => br_f ot_01' (ot_rng (by omega) (fun x hx e3 => absurd ⟨v, x, hv, hx, e2, e3⟩ hno) (fun _ => br_t rfl fin))) (fun _ => br_t rfl fin)
    exact ot_rng3 (by omega) (by omega) (fun v q hv hq e1 e2 => absurd ⟨v, q, hv, hq, e1, e2⟩ hno) (br_t rfl fy)
theorem i_vc_goal {k : Nat} {u : SX} {v : SY} (I : i_Rel k u v) (hk : k + 5 ≤ 2562) (v1 : Int32) (v2 : Int32) : wpX_goal (fun r u' => wpY_goal (fun r' v' => r' = r ∧ i_Rel (k + 5) u' v') v v1 v2) u v1 v2 := by
  obtain ⟨n, d, m, co, ne, ef, be, go, aC, aN, aE, aB, aG, mt, lc, rz, od, sn, mv, rm, bd, ls, ah, yl, yf, ym, yb, yd, yr, rfl, rfl, T⟩ := I
  have T0 := T
  obtain ⟨⟨⟨hn1, hn⟩, ⟨hd1, hd⟩, hm⟩, ⟨hC, hco⟩, ⟨hN, hne⟩, ⟨hE, hef⟩, ⟨hB, hbe⟩, ⟨hG, hgo⟩⟩ := T
  rcases Classical.em (∃ v q, v < n ∧ q ≤ d ∧ v1 = nI v ∧ v2 = ot_rv q) with ⟨v, q, hv, hq, rfl, rfl⟩ | hno
  · have iv : vp_in (nI v) 5 := vp_in_nI (by omega) (by omega)
    have c : (nI v).toNatClampNeg = v := nI_clamp (by omega)
    have fy : wY_goal_23 (fun r' v' => r' = aG v ∧ i_Rel (k + 5) (nI n, nI d, nI m, mt, lc, aC, aN, aE, aB, upd aG v (ot_rv q), od, sn, mv, rm, bd, ls, ah) v') (nI v) (ot_rv q) (nI n) (nI d) (nI m) rz aC aN aE aB aG yl yf ym yb yd yr := by
      unfold wY_goal_23
      rw [c]
      exact ⟨iv, nm_e ⟨iv, nm_e ⟨rfl, i_mk (ot_Tg T0 (by omega) hq)⟩⟩⟩
    refine ot_rng (by omega) (fun _ _ _ => br_f ot_01' (ot_von hd (fun _ _ _ => br_f ot_01' ⟨iv, nm_r (e' := aG v) (by rw [c]) ⟨iv, nm_r (e' := upd aG v (ot_rv q)) (by rw [c]) ?_⟩⟩) (fun y => absurd ⟨q, hq, rfl⟩ y))) (fun y => absurd ⟨v, hv, rfl⟩ y)
    exact ot_rng (by omega) (fun _ _ _ => br_f ot_01' (br_c (fun _ => fy) (fun w => ot_rng (by omega) (fun _ _ _ => br_f ot_01' fy) (fun y => (y (by
      rcases Classical.em (q = 0) with p | p
      · subst p; exact absurd ot_rv0 w
      · exact ⟨q - 1, by omega, ot_rvp p⟩)).elim)))) (fun y => absurd ⟨v, hv, rfl⟩ y)
  · have fin : (-1 : Int32) = -1 ∧ i_Rel (k + 5) (nI n, nI d, nI m, mt, lc, aC, aN, aE, aB, aG, od, sn, mv, rm, bd, ls, ah) (nI n, nI d, nI m, rz, aC, aN, aE, aB, aG, yl, yf, ym, yb, yd, yr) := ⟨rfl, i_mk T0⟩
    have fy : wpY_goal (fun r' v' => r' = -1 ∧ i_Rel (k + 5) (nI n, nI d, nI m, mt, lc, aC, aN, aE, aB, aG, od, sn, mv, rm, bd, ls, ah) v') (nI n, nI d, nI m, rz, aC, aN, aE, aB, aG, yl, yf, ym, yb, yd, yr) v1 v2 :=
      ot_rng (by omega) (fun v hv e2 => br_f ot_01' (br_c (fun e => absurd ⟨v, 0, hv, by omega, e2, e.trans ot_rv0.symm⟩ hno) (fun _ => ot_rng (by omega) (fun x hx e3 => absurd ⟨v, x + 1, hv, by omega, e2, e3.trans (ot_rvs x).symm⟩ hno) (fun _ => br_t rfl fin)))) (fun _ => br_t rfl fin)
    exact ot_rng (by omega) (fun v hv e2 => br_f ot_01' (ot_von hd (fun q hq e3 => absurd ⟨v, q, hv, hq, e2, e3⟩ hno) (fun _ => br_t rfl fy))) (fun _ => br_t rfl fy)
