/-! reached, apart, passes, needed, cost, length, dead -/
theorem i_vc_reached {k : Nat} {u : SX} {v : SY} (I : i_Rel k u v) (hk : k + 5 ≤ 2562) : wpX_reached (fun r u' => wpY_reached (fun r' v' => r' = r ∧ i_Rel (k + 5) u' v') v) u := by
  obtain ⟨n, d, m, co, ne, ef, be, go, aC, aN, aE, aB, aG, mt, lc, rz, od, sn, mv, rm, bd, ls, ah, yl, yf, ym, yb, yd, yr, rfl, rfl, T⟩ := I
  have p4 := ot_4n T.1.1.2
  refine ox_explore T ot_bf0 ot_bop0 (fun k' od sn mv f hX => ?_)
  refine oy_findMet T ot_bfy0 ot_bop0 (fun ym hM => oy_rea T hM ⟨?_, i_mk T⟩)
  rw [hX.2.2.2.1, ot_cnup (fun s hs => ot_Rlt T hs) p4]
theorem i_vc_apart {k : Nat} {u : SX} {v : SY} (I : i_Rel k u v) (hk : k + 5 ≤ 2562) (v1 : Int32) (v2 : Int32) (v3 : Int32) (v4 : Int32) : wpX_apart (fun r u' => wpY_apart (fun r' v' => r' = r ∧ i_Rel (k + 5) u' v') v v1 v2 v3 v4) u v1 v2 v3 v4 := by
  obtain ⟨n, d, m, co, ne, ef, be, go, aC, aN, aE, aB, aG, mt, lc, rz, od, sn, mv, rm, bd, ls, ah, yl, yf, ym, yb, yd, yr, rfl, rfl, T⟩ := I
  have T0 := T
  obtain ⟨⟨⟨hn1, hn⟩, ⟨hd1, hd⟩, hm⟩, ⟨hC, hco⟩, ⟨hN, hne⟩, ⟨hE, hef⟩, ⟨hB, hbe⟩, ⟨hG, hgo⟩⟩ := T
  rcases Classical.em (∃ v x u y, v < n ∧ x < d ∧ u < n ∧ y < d ∧ v1 = nI v ∧ v2 = nI x ∧ v3 = nI u ∧ v4 = nI y) with ⟨v, x, u, y, hv, hx, hu, hy, rfl, rfl, rfl, rfl⟩ | hno
  · have fy : ∀ (r : Int32) (u' : SX), (∀ ym, i_Rel (k + 5) u' (nI n, nI d, nI m, rz, aC, aN, aE, aB, aG, yl, yf, ym, yb, yd, yr)) → ((∃ s, ot_RR n m ne ef be s ∧ ot_vl s v = x ∧ ot_vl s u = y) → r = 0) → ((¬ ∃ s, ot_RR n m ne ef be s ∧ ot_vl s v = x ∧ ot_vl s u = y) → r = 1) → wpY_apart (fun r' v' => r' = r ∧ i_Rel (k + 5) u' v') (nI n, nI d, nI m, rz, aC, aN, aE, aB, aG, yl, yf, ym, yb, yd, yr) (nI v) (nI x) (nI u) (nI y) := fun r u' hu' h0 h1 =>
      ot_rng (by omega) (fun _ _ _ => br_f ot_01' (ot_rng (by omega) (fun _ _ _ => br_f ot_01' (ot_rng (by omega) (fun _ _ _ => br_f ot_01' (ot_rng (by omega) (fun _ _ _ => br_f ot_01' (oy_findMet T0 ot_bfy0 ot_bop0 (fun ym hM => oy_apa T0 hM (fun s hs => ot_Rlt T0 hs) hv hx hu hy (fun q => ⟨(h0 q).symm, hu' _⟩) (fun q => ⟨(h1 q).symm, hu' _⟩)))) (fun w => absurd ⟨y, hy, rfl⟩ w))) (fun w => absurd ⟨x, hx, rfl⟩ w))) (fun w => absurd ⟨u, hu, rfl⟩ w))) (fun w => absurd ⟨v, hv, rfl⟩ w)
    refine ot_rng2 (by omega) (by omega) hv hx (br_f ot_01' (ot_rng2 (by omega) (by omega) hu hy (br_f ot_01' (ox_explore T0 ot_bf0 ot_bop0 (fun k' od sn mv f hX => ?_)))))
    exact ox_apa T0 hX hv hx hu hy (fun q => fy 0 _ (fun _ => i_mk T0) (fun _ => rfl) (fun w => absurd q w)) (fun q => fy 1 _ (fun _ => i_mk T0) (fun w => absurd w q) (fun _ => rfl))
  · have fin : (0 : Int32) = 0 ∧ i_Rel (k + 5) (nI n, nI d, nI m, mt, lc, aC, aN, aE, aB, aG, od, sn, mv, rm, bd, ls, ah) (nI n, nI d, nI m, rz, aC, aN, aE, aB, aG, yl, yf, ym, yb, yd, yr) := ⟨rfl, i_mk T0⟩
    have fy : wpY_apart (fun r' v' => r' = 0 ∧ i_Rel (k + 5) (nI n, nI d, nI m, mt, lc, aC, aN, aE, aB, aG, od, sn, mv, rm, bd, ls, ah) v') (nI n, nI d, nI m, rz, aC, aN, aE, aB, aG, yl, yf, ym, yb, yd, yr) v1 v2 v3 v4 :=
      ot_rng (by omega) (fun v hv e1 => br_f ot_01' (ot_rng (by omega) (fun u hu e3 => br_f ot_01' (ot_rng (by omega) (fun x hx e2 => br_f ot_01' (ot_rng (by omega) (fun y hy e4 => absurd ⟨v, x, u, y, hv, hx, hu, hy, e1, e2, e3, e4⟩ hno) (fun _ => br_t rfl fin))) (fun _ => br_t rfl fin))) (fun _ => br_t rfl fin))) (fun _ => br_t rfl fin)
    exact ot_rng3 (by omega) (by omega) (fun v x hv hx e1 e2 => br_f ot_01' (ot_rng3 (by omega) (by omega) (fun u y hu hy e3 e4 => absurd ⟨v, x, u, y, hv, hx, hu, hy, e1, e2, e3, e4⟩ hno) (br_t rfl fy))) (br_t rfl fy)
theorem i_vc_passes {k : Nat} {u : SX} {v : SY} (I : i_Rel k u v) (hk : k + 5 ≤ 2562) (v1 : Int32) (v2 : Int32) : wpX_passes (fun r u' => wpY_passes (fun r' v' => r' = r ∧ i_Rel (k + 5) u' v') v v1 v2) u v1 v2 := by
  obtain ⟨n, d, m, co, ne, ef, be, go, aC, aN, aE, aB, aG, mt, lc, rz, od, sn, mv, rm, bd, ls, ah, yl, yf, ym, yb, yd, yr, rfl, rfl, T⟩ := I
  have T0 := T
  obtain ⟨⟨⟨hn1, hn⟩, ⟨hd1, hd⟩, hm⟩, ⟨hC, hco⟩, ⟨hN, hne⟩, ⟨hE, hef⟩, ⟨hB, hbe⟩, ⟨hG, hgo⟩⟩ := T
  rcases Classical.em (∃ v x, v < n ∧ x < d ∧ v1 = nI v ∧ v2 = nI x) with ⟨v, x, hv, hx, rfl, rfl⟩ | hno
  · have hbx : ot_bf (nI v * 4 + nI x) (fun s => ot_vl s v = x) := Or.inr ⟨4 * v + x, by omega, by rw [show nI v * 4 = nI (v * 4) from pk_mul v 4, nI_add, Nat.mul_comm], fun s => by rw [show (4 * v + x) / 4 = v by omega, show (4 * v + x) % 4 = x by omega]⟩
    have hby : ot_bfy (nI v) (nI x) (fun s => ot_vl s v = x) := Or.inr ⟨v, x, by omega, by omega, rfl, rfl, fun s => Iff.rfl⟩
    have fy : ∀ (r : Int32) (u' : SX), (∀ ym, i_Rel (k + 5) u' (nI n, nI d, nI m, rz, aC, aN, aE, aB, aG, yl, yf, ym, yb, yd, yr)) → ((¬ ∃ s, ot_RR n m ne ef be s ∧ ot_gl n go s) → r = 0) → ((∃ s, ot_RR n m ne ef be s ∧ ot_gl n go s) → (∃ s, ot_R (ot_bs be n) (fun s => ot_vl s v = x) (ot_E n m ne ef (fun _ => False)) s ∧ ot_gl n go s) → r = 0) → ((∃ s, ot_RR n m ne ef be s ∧ ot_gl n go s) → (¬ ∃ s, ot_R (ot_bs be n) (fun s => ot_vl s v = x) (ot_E n m ne ef (fun _ => False)) s ∧ ot_gl n go s) → r = 1) → wpY_passes (fun r' v' => r' = r ∧ i_Rel (k + 5) u' v') (nI n, nI d, nI m, rz, aC, aN, aE, aB, aG, yl, yf, ym, yb, yd, yr) (nI v) (nI x) := fun r u' hu' h0 h1 h2 =>
      ot_rng (by omega) (fun _ _ _ => br_f ot_01' (ot_rng (by omega) (fun _ _ _ => br_f ot_01' (oy_findMet T0 ot_bfy0 ot_bop0 (fun ym hM => oy_meets T0 hM (fun s hs => ot_Rlt T0 hs) (fun q => br_f ot_01' (oy_findMet T0 hby ot_bop0 (fun ym hM => oy_meets T0 hM (fun s hs => ot_Rlt T0 hs) (fun q2 => br_f ot_01' ⟨(h1 q q2).symm, hu' _⟩) (fun q2 => br_t rfl ⟨(h2 q q2).symm, hu' _⟩)))) (fun q => br_t rfl ⟨(h0 q).symm, hu' _⟩)))) (fun w => absurd ⟨x, hx, rfl⟩ w))) (fun w => absurd ⟨v, hv, rfl⟩ w)
    refine ot_rng2 (by omega) (by omega) hv hx (br_f ot_01' (ox_plan T0 ot_bf0 ot_bop0 (fun hA k' od sn mv => br_f ot_01' (ox_plan T0 hbx ot_bop0 (fun hB k' od sn mv => br_f ot_01' ?_) (fun hB k' od sn mv => br_t rfl ?_))) (fun hA k' od sn mv => br_t rfl ?_)))
    · exact fy 0 _ (fun _ => i_mk T0) (fun _ => rfl) (fun _ _ => rfl) (fun _ w => absurd hB w)
    · exact fy 1 _ (fun _ => i_mk T0) (fun w => absurd hA w) (fun _ w => absurd w hB) (fun _ _ => rfl)
    · exact fy 0 _ (fun _ => i_mk T0) (fun _ => rfl) (fun _ _ => rfl) (fun w => absurd w hA)
  · have fin : (0 : Int32) = 0 ∧ i_Rel (k + 5) (nI n, nI d, nI m, mt, lc, aC, aN, aE, aB, aG, od, sn, mv, rm, bd, ls, ah) (nI n, nI d, nI m, rz, aC, aN, aE, aB, aG, yl, yf, ym, yb, yd, yr) := ⟨rfl, i_mk T0⟩
    have fy : wpY_passes (fun r' v' => r' = 0 ∧ i_Rel (k + 5) (nI n, nI d, nI m, mt, lc, aC, aN, aE, aB, aG, od, sn, mv, rm, bd, ls, ah) v') (nI n, nI d, nI m, rz, aC, aN, aE, aB, aG, yl, yf, ym, yb, yd, yr) v1 v2 :=
      ot_rng (by omega) (fun v hv e1 => br_f ot_01' (ot_rng (by omega) (fun x hx e2 => absurd ⟨v, x, hv, hx, e1, e2⟩ hno) (fun _ => br_t rfl fin))) (fun _ => br_t rfl fin)
    exact ot_rng3 (by omega) (by omega) (fun v x hv hx e1 e2 => absurd ⟨v, x, hv, hx, e1, e2⟩ hno) (br_t rfl fy)
theorem i_vc_needed {k : Nat} {u : SX} {v : SY} (I : i_Rel k u v) (hk : k + 5 ≤ 2562) (v1 : Int32) : wpX_needed (fun r u' => wpY_needed (fun r' v' => r' = r ∧ i_Rel (k + 5) u' v') v v1) u v1 := by
  obtain ⟨n, d, m, co, ne, ef, be, go, aC, aN, aE, aB, aG, mt, lc, rz, od, sn, mv, rm, bd, ls, ah, yl, yf, ym, yb, yd, yr, rfl, rfl, T⟩ := I
  have T0 := T
  obtain ⟨⟨⟨hn1, hn⟩, ⟨hd1, hd⟩, hm⟩, ⟨hC, hco⟩, ⟨hN, hne⟩, ⟨hE, hef⟩, ⟨hB, hbe⟩, ⟨hG, hgo⟩⟩ := T
  rcases Classical.em (∃ o, o < m ∧ v1 = nI o) with ⟨o, ho, rfl⟩ | hno
  · have hop : ot_bop (nI o) (fun q => q = o) := fun q hq => nI_eq (by omega) (by omega)
    have fy : ∀ (r : Int32) (u' : SX), (∀ ym, i_Rel (k + 5) u' (nI n, nI d, nI m, rz, aC, aN, aE, aB, aG, yl, yf, ym, yb, yd, yr)) → ((¬ ∃ s, ot_RR n m ne ef be s ∧ ot_gl n go s) → r = 0) → ((∃ s, ot_RR n m ne ef be s ∧ ot_gl n go s) → (∃ s, ot_R (ot_bs be n) (fun _ => False) (ot_E n m ne ef (fun q => q = o)) s ∧ ot_gl n go s) → r = 0) → ((∃ s, ot_RR n m ne ef be s ∧ ot_gl n go s) → (¬ ∃ s, ot_R (ot_bs be n) (fun _ => False) (ot_E n m ne ef (fun q => q = o)) s ∧ ot_gl n go s) → r = 1) → wpY_needed (fun r' v' => r' = r ∧ i_Rel (k + 5) u' v') (nI n, nI d, nI m, rz, aC, aN, aE, aB, aG, yl, yf, ym, yb, yd, yr) (nI o) := fun r u' hu' h0 h1 h2 =>
      ot_rng (by omega) (fun _ _ _ => br_f ot_01' (oy_findMet T0 ot_bfy0 ot_bop0 (fun ym hM => oy_meets T0 hM (fun s hs => ot_Rlt T0 hs) (fun q => br_f ot_01' (oy_findMet T0 ot_bfy0 hop (fun ym hM => oy_meets T0 hM (fun s hs => ot_Rlt T0 hs) (fun q2 => br_f ot_01' ⟨(h1 q q2).symm, hu' _⟩) (fun q2 => br_t rfl ⟨(h2 q q2).symm, hu' _⟩)))) (fun q => br_t rfl ⟨(h0 q).symm, hu' _⟩)))) (fun w => absurd ⟨o, ho, rfl⟩ w)
    refine ot_rng (by omega) (fun _ _ _ => br_f ot_01' (ox_plan T0 ot_bf0 ot_bop0 (fun hA k' od sn mv => br_f ot_01' (ox_plan T0 ot_bf0 hop (fun hB k' od sn mv => br_f ot_01' ?_) (fun hB k' od sn mv => br_t rfl ?_))) (fun hA k' od sn mv => br_t rfl ?_))) (fun w => absurd ⟨o, ho, rfl⟩ w)
    · exact fy 0 _ (fun _ => i_mk T0) (fun _ => rfl) (fun _ _ => rfl) (fun _ w => absurd hB w)
    · exact fy 1 _ (fun _ => i_mk T0) (fun w => absurd hA w) (fun _ w => absurd w hB) (fun _ _ => rfl)
    · exact fy 0 _ (fun _ => i_mk T0) (fun _ => rfl) (fun _ _ => rfl) (fun w => absurd w hA)
  · have fin : (0 : Int32) = 0 ∧ i_Rel (k + 5) (nI n, nI d, nI m, mt, lc, aC, aN, aE, aB, aG, od, sn, mv, rm, bd, ls, ah) (nI n, nI d, nI m, rz, aC, aN, aE, aB, aG, yl, yf, ym, yb, yd, yr) := ⟨rfl, i_mk T0⟩
    have fy : wpY_needed (fun r' v' => r' = 0 ∧ i_Rel (k + 5) (nI n, nI d, nI m, mt, lc, aC, aN, aE, aB, aG, od, sn, mv, rm, bd, ls, ah) v') (nI n, nI d, nI m, rz, aC, aN, aE, aB, aG, yl, yf, ym, yb, yd, yr) v1 := ot_rng (by omega) (fun v hv e1 => absurd ⟨v, hv, e1⟩ hno) (fun _ => br_t rfl fin)
    exact ot_rng (by omega) (fun v hv e1 => absurd ⟨v, hv, e1⟩ hno) (fun _ => br_t rfl fy)
theorem i_vc_cost {k : Nat} {u : SX} {v : SY} (I : i_Rel k u v) (hk : k + 5 ≤ 2562) : wpX_cost (fun r u' => wpY_cost (fun r' v' => r' = r ∧ i_Rel (k + 5) u' v') v) u := by
  obtain ⟨n, d, m, co, ne, ef, be, go, aC, aN, aE, aB, aG, mt, lc, rz, od, sn, mv, rm, bd, ls, ah, yl, yf, ym, yb, yd, yr, rfl, rfl, T⟩ := I
  have s0 := ot_s0 T
  have slt := ot_ok_lt T.1.1.2 s0
  have h0 : ot_RR n m ne ef be (ot_bs be n) := ot_R0 (fun z => z)
  simp only [wpX_cost]
  refine ox_best T (fun k' od sn mv f rm w hX hw hI hS => ?_)
  have l := hw.1 (ot_bs be n)
  have fy : ∀ (r : Int32) (u' : SX), (∀ yl yf, i_Rel (k + 5) u' (nI n, nI d, nI m, rz, aC, aN, aE, aB, aG, yl, yf, ym, yb, yd, yr)) → (w (ot_bs be n) = 1000000000 → r = -3) → (w (ot_bs be n) ≠ 1000000000 → r = nI (w (ot_bs be n) / 1024)) → wpY_cost (fun r' v' => r' = r ∧ i_Rel (k + 5) u' v') (nI n, nI d, nI m, rz, aC, aN, aE, aB, aG, yl, yf, ym, yb, yd, yr) := fun r u' hu' h1 h2 => by
    refine oy_findCosts T (fun yl yf w' hw' hI' hS' => oy_begin T ⟨vp_in_nI slt (by omega), ?_⟩)
    have e := ot_weq T hI hS hI' hS' h0
    have a := hw'.2.2 _ s0.1
    rw [e] at a
    rcases Classical.em (w (ot_bs be n) = 1000000000) with z | z
    · exact nm_r (e' := nI 1000000) (by rw [nI_clamp (by omega)]; exact a.1 z) (br_f (by decide) ⟨(h1 z).symm, hu' _ _⟩)
    · obtain ⟨C, L, e1, hC', hL, _, _⟩ := ot_Ib hI z
      exact nm_r (e' := nI (w (ot_bs be n) / 1024)) (by rw [nI_clamp (by omega)]; exact (a.2 z).1) (br_t (nI_lt (b := 1000000) (by omega) (by omega)) ⟨(h2 z).symm, hu' _ _⟩)
  rcases Classical.em (w (ot_bs be n) = 1000000000) with z | z
  · exact br_t (by rw [z]; rfl) (fy (-3) _ (fun _ _ => i_mk T) (fun _ => rfl) (fun y => absurd z y))
  · exact br_f (fun y => z ((nI_eq (by omega) (by omega)).mp (y.trans ot_big))) ⟨by decide, fy _ _ (fun _ _ => i_mk T) (fun y => absurd y z) (fun _ => pk_div (d := 1024) (by omega) (by omega) (by omega))⟩
theorem i_vc_length {k : Nat} {u : SX} {v : SY} (I : i_Rel k u v) (hk : k + 5 ≤ 2562) : wpX_length (fun r u' => wpY_length (fun r' v' => r' = r ∧ i_Rel (k + 5) u' v') v) u := by
  obtain ⟨n, d, m, co, ne, ef, be, go, aC, aN, aE, aB, aG, mt, lc, rz, od, sn, mv, rm, bd, ls, ah, yl, yf, ym, yb, yd, yr, rfl, rfl, T⟩ := I
  have s0 := ot_s0 T
  have slt := ot_ok_lt T.1.1.2 s0
  have h0 : ot_RR n m ne ef be (ot_bs be n) := ot_R0 (fun z => z)
  simp only [wpX_length]
  refine ox_best T (fun k' od sn mv f rm w hX hw hI hS => ?_)
  have l := hw.1 (ot_bs be n)
  have iv : vp_in (nI (ot_bs be n)) 1024 := vp_in_nI slt (by omega)
  have fy : ∀ (r : Int32) (u' : SX), (∀ yl yf, i_Rel (k + 5) u' (nI n, nI d, nI m, rz, aC, aN, aE, aB, aG, yl, yf, ym, yb, yd, yr)) → (w (ot_bs be n) = 1000000000 → r = -3) → (w (ot_bs be n) ≠ 1000000000 → r = nI (w (ot_bs be n) % 1024)) → wpY_length (fun r' v' => r' = r ∧ i_Rel (k + 5) u' v') (nI n, nI d, nI m, rz, aC, aN, aE, aB, aG, yl, yf, ym, yb, yd, yr) := fun r u' hu' h1 h2 => by
    refine oy_findCosts T (fun yl yf w' hw' hI' hS' => oy_begin T ⟨iv, ?_⟩)
    have e := ot_weq T hI hS hI' hS' h0
    have a := hw'.2.2 _ s0.1
    rw [e] at a
    rw [nI_clamp (by omega)]
    rcases Classical.em (w (ot_bs be n) = 1000000000) with z | z
    · exact br_f (by rw [a.1 z]; decide) ⟨(h1 z).symm, hu' _ _⟩
    · obtain ⟨C, L, e1, hC', hL, _, _⟩ := ot_Ib hI z
      exact br_t (by rw [(a.2 z).1]; exact nI_lt (b := 1000000) (by omega) (by omega)) ⟨iv, (a.2 z).2.trans (h2 z).symm, hu' _ _⟩
  rcases Classical.em (w (ot_bs be n) = 1000000000) with z | z
  · exact br_t (by rw [z]; rfl) (fy (-3) _ (fun _ _ => i_mk T) (fun _ => rfl) (fun y => absurd z y))
  · exact br_f (fun y => z ((nI_eq (by omega) (by omega)).mp (y.trans ot_big))) ⟨by decide, fy _ _ (fun _ _ => i_mk T) (fun y => absurd y z) (fun _ => pk_rem (d := 1024) (by omega) (by omega) (by omega))⟩
theorem i_vc_dead {k : Nat} {u : SX} {v : SY} (I : i_Rel k u v) (hk : k + 5 ≤ 2562) : wpX_dead (fun r u' => wpY_dead (fun r' v' => r' = r ∧ i_Rel (k + 5) u' v') v) u := by
  obtain ⟨n, d, m, co, ne, ef, be, go, aC, aN, aE, aB, aG, mt, lc, rz, od, sn, mv, rm, bd, ls, ah, yl, yf, ym, yb, yd, yr, rfl, rfl, T⟩ := I
  have p4 := ot_4n T.1.1.2
  refine ox_explore T ot_bf0 ot_bop0 (fun k' od sn mv f hX => ?_)
  refine ox_endG T hX (fun rm hw => ?_)
  refine ox_measure T hX (ot_XFle hX) ot_RRs hw (ot_w0I (fun s hs => (hX.2.1 s hs.1).1)) (fun s hs => ot_w0t hs) (fun rm w hw hI hS => ?_)
  refine ox_count hX hw ?_
  refine oy_findMet T ot_bfy0 ot_bop0 (fun ym hM => ?_)
  refine oy_findCosts T (fun yl yf w' hw' hI' hS' => ?_)
  refine oy_dea T hM hw' hI' ⟨?_, i_mk T⟩
  have sp := ot_split (ot_RR n m ne ef be) (fun s => w s ≠ 1000000000) 1024
  have e1 : cn (fun s => ot_RR n m ne ef be s ∧ ¬ w' s ≠ 1000000000) (4 ^ n) = cn (fun s => ot_RR n m ne ef be s ∧ ¬ w s ≠ 1000000000) 1024 := by
    rw [ot_cnup (M := 1024) (N := 4 ^ n) (fun s hs => ot_Rlt T hs.1) p4]
    refine cn_eq fun s _ => ⟨fun ⟨a, b⟩ => ⟨a, ?_⟩, fun ⟨a, b⟩ => ⟨a, ?_⟩⟩
    · rw [← ot_weq T hI hS hI' hS' a]; exact b
    · rw [ot_weq T hI hS hI' hS' a]; exact b
  have hk' : k' = cn (ot_RR n m ne ef be) 1024 := hX.2.2.2.1
  show nI (cn (fun s => ot_RR n m ne ef be s ∧ ¬ w' s ≠ 1000000000) (4 ^ n)) = nI k' - nI (cn (fun s => ot_RR n m ne ef be s ∧ w s ≠ 1000000000) 1024)
  rw [e1, pk_sub (by omega)]
  congr 1
  omega
