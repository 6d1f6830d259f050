/-! single, singleGoal, paired, pairedGoal -/
theorem ox_orN {x : Nat} (hx : x ≤ 1000000000) {post : Int32 → Prop} (h1 : x < 1000000000 → post (nI x)) (h0 : ¬ x < 1000000000 → post (-3)) : wpX_orNone post (nI x) := by
  rcases Nat.lt_or_ge x 1000000000 with z | z
  · exact br_t (nI_lt (b := 1000000000) z (by decide)) (h1 z)
  · exact br_f (nI_nlt (b := 1000000000) z (by omega)) (h0 (by omega))
theorem ot_m1 : ot_md 1 False := Or.inl ⟨rfl, fun z => z⟩
theorem ot_m2 : ot_md 2 True := Or.inr ⟨by decide, trivial⟩
theorem ot_y0 : ot_mdy 0 False := Or.inl ⟨rfl, fun z => z⟩
theorem ot_y1 : ot_mdy 1 True := Or.inr ⟨by decide, trivial⟩
theorem ot_GMx {S : Nat → Prop} {pr : Prop} {k M : Nat} {ls : Nat → Int32} {lf b : Nat → Nat} (H : ot_LS S k ls lf) (G : ot_GM pr k lf b M) : (∀ a c, S a → S c → (pr ∨ a = c) → b (20 * a + c) ≤ M ∨ b (20 * c + a) ≤ M) ∧ (M = 0 ∨ ∃ a c, S a ∧ S c ∧ (pr ∨ a = c) ∧ b (20 * a + c) = M) := by
  refine ⟨fun a c ha hc hac => ?_, ?_⟩
  · obtain ⟨i, hi, rfl⟩ := (H.2 _).mp ha
    obtain ⟨j, hj, rfl⟩ := (H.2 _).mp hc
    rcases hac with p | p
    · rcases Nat.lt_or_ge j i with z | z
      · exact Or.inr (G.1 j i (by omega) hi (Or.inl p))
      · exact Or.inl (G.1 i j z hj (Or.inl p))
    · rw [← p]
      exact Or.inl (G.1 i i (Nat.le_refl _) hi (Or.inr rfl))
  · rcases G.2 with z | ⟨i, j, h1, h2, h3, h4⟩
    · exact Or.inl z
    · exact Or.inr ⟨lf i, lf j, (H.2 _).mpr ⟨i, by omega, rfl⟩, (H.2 _).mpr ⟨j, h2, rfl⟩, h3.imp id (fun e => by rw [e]), h4⟩
theorem ot_goals {S : Nat → Prop} {pr : Prop} {k k' M M' : Nat} {ls yr : Nat → Int32} {lf lf' b b' : Nat → Nat} (H : ot_LS S k ls lf) (G : ot_GM pr k lf b M) (H' : ot_LS S k' yr lf') (G' : ot_GM pr k' lf' (ot_tr b') M') (sy : ot_Sy b)
    (e : ∀ p, ot_dm pr p → (b p < 1000000000 → b' p = b p ∧ b p ≤ 3600) ∧ (¬ b p < 1000000000 → ¬ b' p < 1000000)) : (M < 1000000000 → M' = M ∧ M ≤ 3600) ∧ (¬ M < 1000000000 → ¬ M' < 1000000) := by
  have x := ot_GMx H G
  have y := ot_GMx H' G'
  have s20 : ∀ a, S a → a < 20 := fun a ha => by
    obtain ⟨i, hi, q⟩ := (H.2 a).mp ha
    rw [← q]; exact (H.1 i hi).2
  have xle : ∀ a c, S a → S c → (pr ∨ a = c) → b (20 * a + c) ≤ M := fun a c ha hc hac => by
    rcases x.1 a c ha hc hac with q | q
    · exact q
    · rw [sy a c (s20 a ha) (s20 c hc)]; exact q
  have yge : ∀ a c, S a → S c → (pr ∨ a = c) → b' (20 * a + c) ≤ M' ∨ b' (20 * c + a) ≤ M' := fun a c ha hc hac => by
    have q := y.1 a c ha hc hac
    rw [ot_trv b' (s20 c hc), ot_trv b' (s20 a ha)] at q
    exact q.symm
  have dm : ∀ a c, S a → S c → (pr ∨ a = c) → ot_dm pr (20 * a + c) := fun a c ha hc hac => ⟨a, c, s20 a ha, s20 c hc, hac, rfl⟩
  constructor
  · intro hM
    have up : M' ≤ M := by
      rcases y.2 with q | ⟨a, c, ha, hc, hac, q⟩
      · omega
      · rw [ot_trv b' (s20 c hc)] at q
        have l := xle c a hc ha (ot_prs hac)
        have q2 := (e _ (dm c a hc ha (ot_prs hac))).1 (by omega)
        omega
    rcases x.2 with q | ⟨a, c, ha, hc, hac, q⟩
    · omega
    · have q2 := (e _ (dm a c ha hc hac)).1 (by omega)
      have s := sy a c (s20 a ha) (s20 c hc)
      have q3 := (e _ (dm c a hc ha (ot_prs hac))).1 (by omega)
      rcases yge a c ha hc hac with w | w
      · omega
      · omega
  · intro hM hM'
    rcases x.2 with q | ⟨a, c, ha, hc, hac, q⟩
    · omega
    · have q2 := (e _ (dm a c ha hc hac)).2 (by omega)
      have s := sy a c (s20 a ha) (s20 c hc)
      have q3 := (e _ (dm c a hc ha (ot_prs hac))).2 (by omega)
      rcases yge a c ha hc hac with w | w
      · omega
      · omega
section
variable {n d m : Nat} {co ne ef be go : Nat → Nat} {aC aN aE aB aG od sn mv rm bd ls ah yl yf ym yb yd yr : Nat → Int32} {mt lc rz : Int32} {pr : Prop}
theorem oy_told {x : Nat} (hx : x ≤ 1000000) {post : Int32 → Prop} (h1 : x < 1000000 → post (nI x)) (h0 : ¬ x < 1000000 → post (-3)) : wpY_told post (nI n, nI d, nI m, rz, aC, aN, aE, aB, aG, yl, yf, ym, yb, yd, yr) (nI x) := by
  rcases Nat.lt_or_ge x 1000000 with z | z
  · exact br_t (nI_lt (b := 1000000) z (by decide)) (h1 z)
  · exact br_f (nI_nlt (b := 1000000) z (by omega)) (h0 (by omega))
theorem oy_gg (T : ot_T n d m co ne ef be go aC aN aE aB aG) {x1 : Int32} (hx : ot_mdy x1 pr) {b : Nat → Nat} (hBb : ot_BD 1000000 b yd) {post : Int32 → SY → Prop} (h : ∀ M rz yr k yr' lf, M ≤ 1000000 → ot_LS (ot_fs go 0 n) k yr' lf → ot_GM pr k lf (ot_tr b) M → ∀ r, (M < 1000000 → r = nI M) → (¬ M < 1000000 → r = -3) → post r (nI n, nI d, nI m, rz, aC, aN, aE, aB, aG, yl, yf, ym, yb, yd, yr)) : ∃ n12 : Nat, wY_greatestGoal_12 post x1 n12 0 (nI n) (nI d) (nI m) 0 aC aN aE aB aG yl yf ym yb yd yr := by
  obtain ⟨⟨⟨hn1, hn⟩, ⟨hd1, hd⟩, hm⟩, ⟨hC, hco⟩, ⟨hN, hne⟩, ⟨hE, hef⟩, ⟨hB, hbe⟩, ⟨hG, hgo⟩⟩ := T
  have key : ∀ fu v k yr lf, v ≤ n → n - v < fu → k ≤ v → ot_LS (ot_fs go 0 v) k yr lf → ot_ij k lf → wY_greatestGoal_12 post x1 fu (nI v) (nI n) (nI d) (nI m) (nI k) aC aN aE aB aG yl yf ym yb yd yr := by
    intro fu
    induction fu with
    | zero => intro v k yr lf _ h; omega
    | succ fu ih =>
    intro v k yr lf hv hfu hk H hj
    rcases Nat.lt_or_ge v n with z | z
    · have b := hgo v
      have z0 : 0 + v = v := Nat.zero_add v
      have iv : vp_in (nI v) 5 := vp_in_nI (by omega) (by omega)
      refine br_f (nI_ge z (by omega)) ⟨iv, ?_⟩
      rw [nI_clamp (by omega), hG _ (by omega)]
      rcases Classical.em (go v = 0) with y | y
      · exact br_t ((ot_rvn _ (by omega)).mpr y) (nm_r (nI_1 v) (ih (v + 1) k yr lf (by omega) (by omega) (by omega) (ot_LSc H (ot_fs0 go 0 v (by rw [z0]; exact y))) hj))
      · refine br_f (fun q => y ((ot_rvn _ (by omega)).mp q)) ⟨iv, ?_⟩
        have e4 : 4 * nI v + nI (go v - 1) = nI (4 * v + (go v - 1)) := by rw [show 4 * nI v = nI (4 * v) from pk_mul 4 v, nI_add]
        have f1 := ot_fs1 go 0 v (by rw [z0]; exact y)
        rw [z0] at f1
        rw [ot_rvp y, e4]
        exact oy_add H hj (by omega) (by omega) (fun k' yr' lf' hk' H' hj' => nm_r (nI_1 v) (ih (v + 1) k' yr' lf' (by omega) (by omega) (by omega) (ot_LSc H' f1) hj'))
    · have e : v = n := by omega
      subst e
      refine br_t (nI_le (Nat.le_refl _) (by omega)) (oy_greatest (pr := pr) H (by omega) hBb hx (fun M hM G => oy_told hM (fun q => ?_) (fun q => ?_)))
      · exact h M (nI k) yr k yr lf hM H G _ (fun _ => rfl) (fun w => absurd q w)
      · exact h M (nI k) yr k yr lf hM H G _ (fun w => absurd w q) (fun _ => rfl)
  exact ⟨n + 1, key (n + 1) 0 0 yr _ (Nat.zero_le _) (by omega) (Nat.le_refl _) (ot_LSc ot_LS0 (fun q => ⟨fun ⟨u, hu, _⟩ => by omega, fun z => z.elim⟩)) (fun i j hi => by omega)⟩
theorem ox_gb (T : ot_T n d m co ne ef be go aC aN aE aB aG) {x1 : Int32} (hx : ot_md x1 pr) {b : Nat → Nat} (hBb : ot_BD 1000000000 b bd) {post : Int32 → SX → Prop} (h : ∀ M lc ls k ls' lf, M ≤ 1000000000 → ot_LS (ot_fs go 0 n) k ls' lf → ot_GM pr k lf b M → ∀ r, (M < 1000000000 → r = nI M) → (¬ M < 1000000000 → r = -3) → post r (nI n, nI d, nI m, mt, lc, aC, aN, aE, aB, aG, od, sn, mv, rm, bd, ls, ah)) : wpX_goalBound post (nI n, nI d, nI m, mt, lc, aC, aN, aE, aB, aG, od, sn, mv, rm, bd, ls, ah) x1 := by
  have n5 := T.1.1.2
  refine ox_listG T (fun k ls lf hk H => ?_)
  refine ox_greatest (pr := pr) H (by omega) hBb hx (fun M hM G => ox_orN hM (fun q => ?_) (fun q => ?_))
  · exact h M (nI k) ls k ls lf hM H G _ (fun _ => rfl) (fun w => absurd q w)
  · exact h M (nI k) ls k ls lf hM H G _ (fun w => absurd w q) (fun _ => rfl)
end
theorem i_vc_singleGoal {k : Nat} {u : SX} {v : SY} (I : i_Rel k u v) (hk : k + 5 ≤ 2562) : wpX_singleGoal (fun r u' => wpY_singleGoal (fun r' v' => r' = r ∧ i_Rel (k + 5) u' v') v) u := by
  obtain ⟨n, d, m, co, ne, ef, be, go, aC, aN, aE, aB, aG, mt, lc, rz, od, sn, mv, rm, bd, ls, ah, yl, yf, ym, yb, yd, yr, rfl, rfl, T⟩ := I
  unfold wpX_singleGoal
  refine ox_findB T ot_m1 (fun lc ls bd b hBb J L sy => ?_)
  refine ox_gb T ot_m1 hBb (fun M lc ls kx lx lf hM H G r r1 r2 => ?_)
  unfold wpY_singleGoal wpY_greatestGoal
  refine oy_findB T ot_y0 (fun rz yd yr b' hBb' A L' => ?_)
  refine oy_gg T ot_y0 hBb' (fun M' rz yr ky ly lf' hM' H' G' r' r1' r2' => ⟨?_, i_mk T⟩)
  have q := ot_goals H G H' G' sy (fun p hp => ot_beq J L A L' hp)
  rcases Classical.em (M < 1000000000) with z | z
  · have w := q.1 z
    rw [r1 z, r1' (by omega), w.1]
  · rw [r2 z, r2' (q.2 z)]
theorem i_vc_pairedGoal {k : Nat} {u : SX} {v : SY} (I : i_Rel k u v) (hk : k + 5 ≤ 2562) : wpX_pairedGoal (fun r u' => wpY_pairedGoal (fun r' v' => r' = r ∧ i_Rel (k + 5) u' v') v) u := by
  obtain ⟨n, d, m, co, ne, ef, be, go, aC, aN, aE, aB, aG, mt, lc, rz, od, sn, mv, rm, bd, ls, ah, yl, yf, ym, yb, yd, yr, rfl, rfl, T⟩ := I
  unfold wpX_pairedGoal
  refine ox_findB T ot_m2 (fun lc ls bd b hBb J L sy => ?_)
  refine ox_gb T ot_m2 hBb (fun M lc ls kx lx lf hM H G r r1 r2 => ?_)
  unfold wpY_pairedGoal wpY_greatestGoal
  refine oy_findB T ot_y1 (fun rz yd yr b' hBb' A L' => ?_)
  refine oy_gg T ot_y1 hBb' (fun M' rz yr ky ly lf' hM' H' G' r' r1' r2' => ⟨?_, i_mk T⟩)
  have q := ot_goals H G H' G' sy (fun p hp => ot_beq J L A L' hp)
  rcases Classical.em (M < 1000000000) with z | z
  · have w := q.1 z
    rw [r1 z, r1' (by omega), w.1]
  · rw [r2 z, r2' (q.2 z)]
theorem i_vc_single {k : Nat} {u : SX} {v : SY} (I : i_Rel k u v) (hk : k + 5 ≤ 2562) (v1 : Int32) (v2 : Int32) : wpX_single (fun r u' => wpY_single (fun r' v' => r' = r ∧ i_Rel (k + 5) u' v') v v1 v2) u v1 v2 := by
  obtain ⟨n, d, m, co, ne, ef, be, go, aC, aN, aE, aB, aG, mt, lc, rz, od, sn, mv, rm, bd, ls, ah, yl, yf, ym, yb, yd, yr, rfl, rfl, T⟩ := I
  have T0 := T
  obtain ⟨⟨⟨hn1, hn⟩, ⟨hd1, hd⟩, hm⟩, ⟨hC, hco⟩, ⟨hN, hne⟩, ⟨hE, hef⟩, ⟨hB, hbe⟩, ⟨hG, hgo⟩⟩ := T
  rcases Classical.em (∃ v x, v < n ∧ x < d ∧ v1 = nI v ∧ v2 = nI x) with ⟨v, x, hv, hx, rfl, rfl⟩ | hno
  · have e4 : nI v * 4 + nI x = nI (4 * v + x) := by rw [show nI v * 4 = nI (v * 4) from pk_mul v 4, nI_add, Nat.mul_comm]
    have e20 : nI (4 * v + x) * 20 + nI (4 * v + x) = nI (20 * (4 * v + x) + (4 * v + x)) := by rw [show nI (4 * v + x) * 20 = nI ((4 * v + x) * 20) from pk_mul _ 20, nI_add, Nat.mul_comm]
    have ey : 20 * (4 * nI v + nI x) + 4 * nI v + nI x = nI (20 * (4 * v + x) + (4 * v + x)) := by
      rw [show 4 * nI v = nI (4 * v) from pk_mul 4 v, nI_add, show 20 * nI (4 * v + x) = nI (20 * (4 * v + x)) from pk_mul 20 _, nI_add, nI_add, Nat.add_assoc]
    have iv : vp_in (nI (20 * (4 * v + x) + (4 * v + x))) 400 := vp_in_nI (by omega) (by omega)
    have dm : ot_dm False (20 * (4 * v + x) + (4 * v + x)) := ⟨4 * v + x, 4 * v + x, by omega, by omega, Or.inr rfl, rfl⟩
    refine ot_rng2 (by omega) (by omega) hv hx (br_f ot_01' (ox_findB T0 ot_m1 (fun lc ls bd b hBb J L sy => nm_r e4 ?_)))
    have fy : ∀ (r : Int32) (u' : SX), (∀ rz yd yr, i_Rel (k + 5) u' (nI n, nI d, nI m, rz, aC, aN, aE, aB, aG, yl, yf, ym, yb, yd, yr)) → (b (20 * (4 * v + x) + (4 * v + x)) < 1000000000 → r = nI (b (20 * (4 * v + x) + (4 * v + x)))) → (¬ b (20 * (4 * v + x) + (4 * v + x)) < 1000000000 → r = -3) → wpY_single (fun r' v' => r' = r ∧ i_Rel (k + 5) u' v') (nI n, nI d, nI m, rz, aC, aN, aE, aB, aG, yl, yf, ym, yb, yd, yr) (nI v) (nI x) := fun r u' hu' r1 r2 => by
      refine ot_rng (by omega) (fun _ _ _ => br_f ot_01' (ot_rng (by omega) (fun _ _ _ => br_f ot_01' (oy_findB T0 ot_y0 (fun rz yd yr b' hBb' A L' => ?_))) (fun w => absurd ⟨x, hx, rfl⟩ w))) (fun w => absurd ⟨v, hv, rfl⟩ w)
      have q := ot_beq J L A L' dm
      show vp_in _ 400 ∧ _
      rw [ey]
      refine ⟨iv, ?_⟩
      rw [nI_clamp (by omega), hBb'.2 _ (by omega)]
      refine oy_told (hBb'.1 _) (fun w => ⟨?_, hu' _ _ _⟩) (fun w => ⟨?_, hu' _ _ _⟩)
      · rcases Classical.em (b (20 * (4 * v + x) + (4 * v + x)) < 1000000000) with z | z
        · rw [r1 z, (q.1 z).1]
        · exact absurd w (q.2 z)
      · rcases Classical.em (b (20 * (4 * v + x) + (4 * v + x)) < 1000000000) with z | z
        · have := q.1 z; omega
        · rw [r2 z]
    rw [e20]
    refine ⟨iv, ?_⟩
    rw [nI_clamp (by omega), hBb.2 _ (by omega)]
    exact ox_orN (hBb.1 _) (fun w => fy _ _ (fun _ _ _ => i_mk T0) (fun _ => rfl) (fun y => absurd w y)) (fun w => fy _ _ (fun _ _ _ => i_mk T0) (fun y => absurd y w) (fun _ => rfl))
  · have fin : (-1 : Int32) = -1 ∧ i_Rel (k + 5) (nI n, nI d, nI m, mt, lc, aC, aN, aE, aB, aG, od, sn, mv, rm, bd, ls, ah) (nI n, nI d, nI m, rz, aC, aN, aE, aB, aG, yl, yf, ym, yb, yd, yr) := ⟨rfl, i_mk T0⟩
    have fy : wpY_single (fun r' v' => r' = -1 ∧ i_Rel (k + 5) (nI n, nI d, nI m, mt, lc, aC, aN, aE, aB, aG, od, sn, mv, rm, bd, ls, ah) v') (nI n, nI d, nI m, rz, aC, aN, aE, aB, aG, yl, yf, ym, yb, yd, yr) v1 v2 :=
      ot_rng (by omega) (fun v hv e1 => br_f ot_01' (ot_rng (by omega) (fun x hx e2 => absurd ⟨v, x, hv, hx, e1, e2⟩ hno) (fun _ => br_t rfl fin))) (fun _ => br_t rfl fin)
    exact ot_rng3 (by omega) (by omega) (fun v x hv hx e1 e2 => absurd ⟨v, x, hv, hx, e1, e2⟩ hno) (br_t rfl fy)
theorem i_vc_paired {k : Nat} {u : SX} {v : SY} (I : i_Rel k u v) (hk : k + 5 ≤ 2562) (v1 : Int32) (v2 : Int32) (v3 : Int32) (v4 : Int32) : wpX_paired (fun r u' => wpY_paired (fun r' v' => r' = r ∧ i_Rel (k + 5) u' v') v v1 v2 v3 v4) u v1 v2 v3 v4 := by
  obtain ⟨n, d, m, co, ne, ef, be, go, aC, aN, aE, aB, aG, mt, lc, rz, od, sn, mv, rm, bd, ls, ah, yl, yf, ym, yb, yd, yr, rfl, rfl, T⟩ := I
  have T0 := T
  obtain ⟨⟨⟨hn1, hn⟩, ⟨hd1, hd⟩, hm⟩, ⟨hC, hco⟩, ⟨hN, hne⟩, ⟨hE, hef⟩, ⟨hB, hbe⟩, ⟨hG, hgo⟩⟩ := T
  rcases Classical.em (∃ v x u y, v < n ∧ x < d ∧ u < n ∧ y < d ∧ v1 = nI v ∧ v2 = nI x ∧ v3 = nI u ∧ v4 = nI y) with ⟨v, x, u, y, hv, hx, hu, hy, rfl, rfl, rfl, rfl⟩ | hno
  · have e4 : nI v * 4 + nI x = nI (4 * v + x) := by rw [show nI v * 4 = nI (v * 4) from pk_mul v 4, nI_add, Nat.mul_comm]
    have e5 : nI u * 4 + nI y = nI (4 * u + y) := by rw [show nI u * 4 = nI (u * 4) from pk_mul u 4, nI_add, Nat.mul_comm]
    have e20 : nI (4 * v + x) * 20 + nI (4 * u + y) = nI (20 * (4 * v + x) + (4 * u + y)) := by rw [show nI (4 * v + x) * 20 = nI ((4 * v + x) * 20) from pk_mul _ 20, nI_add, Nat.mul_comm]
    have ey : 20 * (4 * nI v + nI x) + 4 * nI u + nI y = nI (20 * (4 * v + x) + (4 * u + y)) := by
      rw [show 4 * nI v = nI (4 * v) from pk_mul 4 v, show 4 * nI u = nI (4 * u) from pk_mul 4 u, nI_add, show 20 * nI (4 * v + x) = nI (20 * (4 * v + x)) from pk_mul 20 _, nI_add, nI_add, Nat.add_assoc]
    have iv : vp_in (nI (20 * (4 * v + x) + (4 * u + y))) 400 := vp_in_nI (by omega) (by omega)
    have dm : ot_dm True (20 * (4 * v + x) + (4 * u + y)) := ⟨4 * v + x, 4 * u + y, by omega, by omega, Or.inl trivial, rfl⟩
    refine ot_rng2 (by omega) (by omega) hv hx (br_f ot_01' (ot_rng2 (by omega) (by omega) hu hy (br_f ot_01' (ox_findB T0 ot_m2 (fun lc ls bd b hBb J L sy => nm_r e4 (nm_r e5 ?_))))))
    have fy : ∀ (r : Int32) (u' : SX), (∀ rz yd yr, i_Rel (k + 5) u' (nI n, nI d, nI m, rz, aC, aN, aE, aB, aG, yl, yf, ym, yb, yd, yr)) → (b (20 * (4 * v + x) + (4 * u + y)) < 1000000000 → r = nI (b (20 * (4 * v + x) + (4 * u + y)))) → (¬ b (20 * (4 * v + x) + (4 * u + y)) < 1000000000 → r = -3) → wpY_paired (fun r' v' => r' = r ∧ i_Rel (k + 5) u' v') (nI n, nI d, nI m, rz, aC, aN, aE, aB, aG, yl, yf, ym, yb, yd, yr) (nI v) (nI x) (nI u) (nI y) := fun r u' hu' r1 r2 => by
      refine ot_rng (by omega) (fun _ _ _ => br_f ot_01' (ot_rng (by omega) (fun _ _ _ => br_f ot_01' (ot_rng (by omega) (fun _ _ _ => br_f ot_01' (ot_rng (by omega) (fun _ _ _ => br_f ot_01' (oy_findB T0 ot_y1 (fun rz yd yr b' hBb' A L' => ?_))) (fun w => absurd ⟨y, hy, rfl⟩ w))) (fun w => absurd ⟨x, hx, rfl⟩ w))) (fun w => absurd ⟨u, hu, rfl⟩ w))) (fun w => absurd ⟨v, hv, rfl⟩ w)
      have q := ot_beq J L A L' dm
      show vp_in _ 400 ∧ _
      rw [ey]
      refine ⟨iv, ?_⟩
      rw [nI_clamp (by omega), hBb'.2 _ (by omega)]
      refine oy_told (hBb'.1 _) (fun w => ⟨?_, hu' _ _ _⟩) (fun w => ⟨?_, hu' _ _ _⟩)
      · rcases Classical.em (b (20 * (4 * v + x) + (4 * u + y)) < 1000000000) with z | z
        · rw [r1 z, (q.1 z).1]
        · exact absurd w (q.2 z)
      · rcases Classical.em (b (20 * (4 * v + x) + (4 * u + y)) < 1000000000) with z | z
        · have := q.1 z; omega
        · rw [r2 z]
    rw [e20]
    refine ⟨iv, ?_⟩
    rw [nI_clamp (by omega), hBb.2 _ (by omega)]
    exact ox_orN (hBb.1 _) (fun w => fy _ _ (fun _ _ _ => i_mk T0) (fun _ => rfl) (fun q => absurd w q)) (fun w => fy _ _ (fun _ _ _ => i_mk T0) (fun q => absurd q w) (fun _ => rfl))
  · have fin : (-1 : Int32) = -1 ∧ i_Rel (k + 5) (nI n, nI d, nI m, mt, lc, aC, aN, aE, aB, aG, od, sn, mv, rm, bd, ls, ah) (nI n, nI d, nI m, rz, aC, aN, aE, aB, aG, yl, yf, ym, yb, yd, yr) := ⟨rfl, i_mk T0⟩
    have fy : wpY_paired (fun r' v' => r' = -1 ∧ i_Rel (k + 5) (nI n, nI d, nI m, mt, lc, aC, aN, aE, aB, aG, od, sn, mv, rm, bd, ls, ah) v') (nI n, nI d, nI m, rz, aC, aN, aE, aB, aG, yl, yf, ym, yb, yd, yr) v1 v2 v3 v4 :=
      ot_rng (by omega) (fun v hv e1 => br_f ot_01' (ot_rng (by omega) (fun u hu e3 => br_f ot_01' (ot_rng (by omega) (fun x hx e2 => br_f ot_01' (ot_rng (by omega) (fun y hy e4 => absurd ⟨v, x, u, y, hv, hx, hu, hy, e1, e2, e3, e4⟩ hno) (fun _ => br_t rfl fin))) (fun _ => br_t rfl fin))) (fun _ => br_t rfl fin))) (fun _ => br_t rfl fin)
    exact ot_rng3 (by omega) (by omega) (fun v x hv hx e1 e2 => br_f ot_01' (ot_rng3 (by omega) (by omega) (fun u y hu hy e3 e4 => absurd ⟨v, x, u, y, hv, hx, hu, hy, e1, e2, e3, e4⟩ hno) (br_t rfl fy))) (br_t rfl fy)
