/-! operator, need, effect, begin, goal -/
def ot_nz (a : Nat → Int32) (m : Nat) : Nat → Nat → Int32
  | 0 => a
  | i + 1 => upd (ot_nz a m i) (5 * m + i) (-1)
theorem ot_nzv (a : Nat → Int32) (m : Nat) : ∀ i j, (5 * m ≤ j ∧ j < 5 * m + i → ot_nz a m i j = -1) ∧ (¬ (5 * m ≤ j ∧ j < 5 * m + i) → ot_nz a m i j = a j)
  | 0, j => ⟨fun h => by omega, fun _ => rfl⟩
  | i + 1, j => by
    have ih := ot_nzv a m i j
    show (_ → upd (ot_nz a m i) (5 * m + i) (-1) j = -1) ∧ (_ → upd (ot_nz a m i) (5 * m + i) (-1) j = a j)
    rcases Classical.em (j = 5 * m + i) with e | e
    · rw [e, pk_us]; exact ⟨fun _ => rfl, fun h => by omega⟩
    · rw [pk_un e]; exact ⟨fun h => ih.1 (by omega), fun h => ih.2 (by omega)⟩
section
variable {n d m : Nat} {co ne ef be go : Nat → Nat} {aC aN aE aB aG od sn mv rm bd ls ah yl yf ym yb yd yr : Nat → Int32} {mt lc rz : Int32}
theorem ot_To5 (T : ot_T n d m co ne ef be go aC aN aE aB aG) {c : Nat} (hc : c ≤ 9) (hm' : m < 10) : ∃ co ne ef, ot_T n d (m + 1) co ne ef be go (upd aC m (nI c)) (ot_nz aN m 5) (ot_nz aE m 5) aB aG :=
  ot_To T hc hm' 5 (Nat.le_refl _) _ _ (fun j _ => ⟨fun h => ⟨(ot_nzv aN m 5 j).1 h, (ot_nzv aE m 5 j).1 h⟩, fun h => ⟨(ot_nzv aN m 5 j).2 h, (ot_nzv aE m 5 j).2 h⟩⟩)
theorem ox_oper (hm : m < 10) {c : Nat} (hc : c ≤ 9) {post : Int32 → SX → Prop} (h : post (nI m) (nI n, nI d, nI (m + 1), mt, lc, upd aC m (nI c), ot_nz aN m 5, ot_nz aE m 5, aB, aG, od, sn, mv, rm, bd, ls, ah)) : wpX_operator post (nI n, nI d, nI m, mt, lc, aC, aN, aE, aB, aG, od, sn, mv, rm, bd, ls, ah) (nI c) := by
  refine br_f (nI_pos (by omega)) (br_t (nI_le (b := 9) hc (by decide)) (br_t (nI_lt (b := 10) hm (by decide)) ⟨vp_in_nI hm (by omega), nm_r (e' := upd aC m (nI c)) (by rw [nI_clamp (by omega)]) ?_⟩))
  refine loop_0 (σ := Unit) (fun fu i _ => wX_operator_38 post (nI m) (nI n) (nI d) (nI m) mt lc fu (nI i) (upd aC m (nI c)) (ot_nz aN m i) (ot_nz aE m i) aB aG od sn mv rm bd ls ah) (fun _ _ => True) 5 () trivial ?_ ?_
  · intro fu _ _
    exact br_t (by decide) (nm_r (nI_1 m) h)
  · intro fu i _ hi _ ih
    have e5 : nI m * 5 + nI i = nI (5 * m + i) := by rw [show nI m * 5 = nI (m * 5) from pk_mul m 5, nI_add, Nat.mul_comm]
    have iv : vp_in (nI m * 5 + nI i) 50 := by rw [e5]; exact vp_in_nI (by omega) (by omega)
    exact br_f (nI_ge (b := 5) hi (by decide)) ⟨iv, nm_r (e' := ot_nz aN m (i + 1)) (by rw [e5, nI_clamp (by omega)]; rfl) ⟨iv, nm_r (e' := ot_nz aE m (i + 1)) (by rw [e5, nI_clamp (by omega)]; rfl) (nm_r (nI_1 i) (ih () trivial))⟩⟩
theorem oy_oper (hm : m < 10) {c : Nat} (hc : c ≤ 9) {post : Int32 → SY → Prop} (h : post (nI m) (nI n, nI d, nI (m + 1), rz, upd aC m (nI c), ot_nz aN m 5, ot_nz aE m 5, aB, aG, yl, yf, ym, yb, yd, yr)) : wpY_operator post (nI n, nI d, nI m, rz, aC, aN, aE, aB, aG, yl, yf, ym, yb, yd, yr) (nI c) := by
  refine br_f (nI_pos (by omega)) (br_t (nI_le (b := 9) hc (by decide)) (br_f (fun e => by have := (nI_eq (b := 10) (by omega) (by omega)).mp e; omega) ⟨vp_in_nI hm (by omega), nm_r (e' := upd aC m (nI c)) (by rw [nI_clamp (by omega)]) ?_⟩))
  refine loop_0 (σ := Unit) (fun fu i _ => wY_operator_36 post (nI n) (nI d) (nI m) rz fu (nI i) (upd aC m (nI c)) (ot_nz aN m i) (ot_nz aE m i) aB aG yl yf ym yb yd yr) (fun _ _ => True) 5 () trivial ?_ ?_
  · intro fu _ _
    refine br_t (by decide) (nm_r (nI_1 m) ?_)
    rw [nI_pred]
    exact h
  · intro fu i _ hi _ ih
    have e5 : 5 * nI m + nI i = nI (5 * m + i) := by rw [show 5 * nI m = nI (5 * m) from pk_mul 5 m, nI_add]
    have iv : vp_in (5 * nI m + nI i) 50 := by rw [e5]; exact vp_in_nI (by omega) (by omega)
    exact br_f (nI_ge (b := 5) hi (by decide)) ⟨iv, nm_r (e' := ot_nz aN m (i + 1)) (by rw [e5, nI_clamp (by omega)]; rfl) ⟨iv, nm_r (e' := ot_nz aE m (i + 1)) (by rw [e5, nI_clamp (by omega)]; rfl) (nm_r (nI_1 i) (ih () trivial))⟩⟩
end
theorem i_vc_operator {k : Nat} {u : SX} {v : SY} (I : i_Rel k u v) (hk : k + 5 ≤ 2562) (v1 : Int32) : wpX_operator (fun r u' => wpY_operator (fun r' v' => r' = r ∧ i_Rel (k + 5) u' v') v v1) u v1 := by
  obtain ⟨n, d, m, co, ne, ef, be, go, aC, aN, aE, aB, aG, mt, lc, rz, od, sn, mv, rm, bd, ls, ah, yl, yf, ym, yb, yd, yr, rfl, rfl, T⟩ := I
  have hm := T.1.2.2
  rcases Classical.em (v1 < 0) with a | a
  · exact br_t a (br_t a ⟨rfl, i_mk T⟩)
  · rcases Classical.em (v1 ≤ 9) with b | b
    · obtain ⟨c, hc, rfl⟩ := nI_of2 (M := 9) (n := 9) (by decide) a b
      rcases Nat.lt_or_ge m 10 with z | z
      · obtain ⟨co', ne', ef', T'⟩ := ot_To5 T hc z
        exact ox_oper z hc (oy_oper z hc ⟨rfl, i_mk T'⟩)
      · have e : m = 10 := by omega
        subst e
        exact br_f a (br_t b (br_f (by decide) (br_f a (br_t b (br_t rfl ⟨rfl, i_mk T⟩)))))
    · exact br_f a (br_f b (br_f a (br_f b ⟨rfl, i_mk T⟩)))
theorem i_vc_need {k : Nat} {u : SX} {v : SY} (I : i_Rel k u v) (hk : k + 5 ≤ 2562) (v1 : Int32) (v2 : Int32) (v3 : Int32) : wpX_need (fun r u' => wpY_need (fun r' v' => r' = r ∧ i_Rel (k + 5) u' v') v v1 v2 v3) u v1 v2 v3 := by
  obtain ⟨n, d, m, co, ne, ef, be, go, aC, aN, aE, aB, aG, mt, lc, rz, od, sn, mv, rm, bd, ls, ah, yl, yf, ym, yb, yd, yr, rfl, rfl, T⟩ := I
  have T0 := T
  obtain ⟨⟨⟨hn1, hn⟩, ⟨hd1, hd⟩, hm⟩, ⟨hC, hco⟩, ⟨hN, hne⟩, ⟨hE, hef⟩, ⟨hB, hbe⟩, ⟨hG, hgo⟩⟩ := T
  rcases Classical.em (∃ o v q, o < m ∧ v < n ∧ q ≤ d ∧ v1 = nI o ∧ v2 = nI v ∧ v3 = ot_rv q) with ⟨o, v, q, ho, hv, hq, rfl, rfl, rfl⟩ | hno
  · have e5 : 5 * nI o + nI v = nI (5 * o + v) := by rw [show 5 * nI o = nI (5 * o) from pk_mul 5 o, nI_add]
    have e6 : nI o * 5 + nI v = nI (5 * o + v) := by rw [show nI o * 5 = nI (o * 5) from pk_mul o 5, nI_add, Nat.mul_comm]
    have iv : vp_in (nI (5 * o + v)) 50 := vp_in_nI (by omega) (by omega)
    have fy : wY_need_31 (fun r' v' => r' = aN (5 * o + v) ∧ i_Rel (k + 5) (nI n, nI d, nI m, mt, lc, aC, upd aN (5 * o + v) (ot_rv q), aE, aB, aG, od, sn, mv, rm, bd, ls, ah) v') (nI o) (nI v) (ot_rv q) (nI n) (nI d) (nI m) rz aC aN aE aB aG yl yf ym yb yd yr := by
      unfold wY_need_31
      rw [e5, nI_clamp (by omega)]
      exact ⟨iv, nm_e ⟨iv, nm_e ⟨rfl, i_mk (ot_Tn T0 (by omega) hq)⟩⟩⟩
    refine ot_rng (by omega) (fun _ _ _ => br_f ot_01' (ot_rng (by omega) (fun _ _ _ => br_f ot_01' (ot_von hd (fun _ _ _ => br_f ot_01' ?_) (fun y => absurd ⟨q, hq, rfl⟩ y))) (fun y => absurd ⟨v, hv, rfl⟩ y))) (fun y => absurd ⟨o, ho, rfl⟩ y)
    rw [e6]
    refine ⟨iv, nm_r (e' := aN (5 * o + v)) (by rw [nI_clamp (by omega)]) ⟨iv, nm_r (e' := upd aN (5 * o + v) (ot_rv q)) (by rw [nI_clamp (by omega)]) ?_⟩⟩
    exact ot_rng (by omega) (fun _ _ _ => br_f ot_01' (ot_rng (by omega) (fun _ _ _ => br_f ot_01' (br_c (fun _ => fy) (fun w => ot_rng (by omega) (fun _ _ _ => br_f ot_01' fy) (fun y => (y (by
      rcases Classical.em (q = 0) with p | p
      · subst p; exact absurd ot_rv0 w
      · exact ⟨q - 1, by omega, ot_rvp p⟩)).elim)))) (fun y => absurd ⟨v, hv, rfl⟩ y))) (fun y => absurd ⟨o, ho, rfl⟩ y)
  · have fin : (-1 : Int32) = -1 ∧ i_Rel (k + 5) (nI n, nI d, nI m, mt, lc, aC, aN, aE, aB, aG, od, sn, mv, rm, bd, ls, ah) (nI n, nI d, nI m, rz, aC, aN, aE, aB, aG, yl, yf, ym, yb, yd, yr) := ⟨rfl, i_mk T0⟩
    have fy : wpY_need (fun r' v' => r' = -1 ∧ i_Rel (k + 5) (nI n, nI d, nI m, mt, lc, aC, aN, aE, aB, aG, od, sn, mv, rm, bd, ls, ah) v') (nI n, nI d, nI m, rz, aC, aN, aE, aB, aG, yl, yf, ym, yb, yd, yr) v1 v2 v3 :=
      ot_rng (by omega) (fun o ho e1 => br_f ot_01' (ot_rng (by omega) (fun v hv e2 => br_f ot_01' (br_c (fun e => absurd ⟨o, v, 0, ho, hv, by omega, e1, e2, e.trans ot_rv0.symm⟩ hno) (fun _ => ot_rng (by omega) (fun x hx e3 => absurd ⟨o, v, x + 1, ho, hv, by omega, e1, e2, e3.trans (ot_rvs x).symm⟩ hno) (fun _ => br_t rfl fin)))) (fun _ => br_t rfl fin))) (fun _ => br_t rfl fin)
    exact ot_rng (by omega) (fun o ho e1 => br_f ot_01' (ot_rng (by omega) (fun v hv e2 => br_f ot_01' (ot_von hd (fun q hq e3 => absurd ⟨o, v, q, ho, hv, hq, e1, e2, e3⟩ hno) (fun _ => br_t rfl fy))) (fun _ => br_t rfl fy))) (fun _ => br_t rfl fy)
