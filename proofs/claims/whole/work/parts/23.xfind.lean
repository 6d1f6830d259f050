/-! bounds: the component's table whole -/
section
variable {n d m : Nat} {co ne ef be go : Nat → Nat} {aC aN aE aB aG od sn mv rm ah : Nat → Int32} {mt : Int32} {pr : Prop} {b0 b : Nat → Nat}
theorem ox_fb58 (T : ot_T n d m co ne ef be go aC aN aE aB aG) {x1 x2 x4 : Int32} (hx1 : ot_md x1 pr) {post : SX → Prop} {J16 J : Int32 → Int32 → Int32 → Int32 → Int32 → Int32 → Int32 → (Nat → Int32) → (Nat → Int32) → (Nat → Int32) → (Nat → Int32) → (Nat → Int32) → (Nat → Int32) → (Nat → Int32) → (Nat → Int32) → (Nat → Int32) → (Nat → Int32) → (Nat → Int32) → (Nat → Int32) → Prop} {f L : Nat} (hf : f < 4 * n) (hfL : f ≤ L) (hL : L < 4 * n) (hpr : pr ∨ L = f) (hfull : pr → L + 1 = 4 * n)
    (hJ : ∀ c lc ls bd b, (c = 0 → b = b0) → ot_BD 1000000000 b bd → ot_Bx n m ne ef co be pr (fun _ f' g' => f' < f + 1 ∧ f' ≤ g') b0 b → J c (nI (f + 1)) (nI n) (nI d) (nI m) mt lc aC aN aE aB aG od sn mv rm bd ls ah) :
    ∀ fu g c lc ls bd b, f ≤ g → g ≤ L + 1 → L + 1 - g < fu → (c = 0 → b = b0) → ot_BD 1000000000 b bd → ot_Bx n m ne ef co be pr (fun _ f' g' => (f' < f ∧ f' ≤ g') ∨ (f' = f ∧ f' ≤ g' ∧ g' < g)) b0 b → wX_findBounds_58 post J16 J x1 x2 x4 (nI f) (nI L) fu c (nI g) (nI n) (nI d) (nI m) mt lc aC aN aE aB aG od sn mv rm bd ls ah := by
  have T0 := T
  obtain ⟨⟨⟨hn1, hn⟩, ⟨hd1, hd⟩, hm⟩, ⟨hC, hco⟩, ⟨hN, hne⟩, ⟨hE, hef⟩, ⟨hB, hbe⟩, ⟨hG, hgo⟩⟩ := T
  intro fu
  induction fu with
  | zero => intro g c lc ls bd b _ _ h; omega
  | succ fu ih =>
  intro g c lc ls bd b hfg hgL hfu hc hBb B
  rcases Nat.lt_or_ge L g with z | z
  · refine br_t (nI_lt z (by omega)) (nm_r (nI_1 f) (hJ c lc ls bd b hc hBb (ot_BxD B (fun o f' g' a1 a2 a3 _ a5 => ?_))))
    rcases Nat.lt_or_ge f' f with y | y
    · exact Or.inl ⟨y, a5.2⟩
    · refine Or.inr ⟨by omega, a5.2, ?_⟩
      rcases a3 with q | q
      · have := hfull q; omega
      · omega
  · refine br_f (nI_nlt z (by omega)) (ox_lower T0 hx1 hf (by omega) (hpr.imp id (fun q => by omega)) hBb B (fun r lc' ls' bd' b' hr hBb' B' => ?_))
    have B2 := ot_BxD (Dn' := fun _ f' g' => (f' < f ∧ f' ≤ g') ∨ (f' = f ∧ f' ≤ g' ∧ g' < g + 1)) B' (fun o f' g' _ _ _ _ y => by
      rcases y with y | ⟨y1, y2, y3⟩
      · exact Or.inl (Or.inl y)
      · rcases Classical.em (g' = g) with q | q
        · exact Or.inr ⟨y1, q⟩
        · exact Or.inl (Or.inr ⟨y1, y2, by omega⟩))
    rcases Classical.em (r = 0) with y | y
    · exact br_t y (nm_r (nI_1 g) (ih (g + 1) c lc' ls' bd' b' (by omega) (by omega) (by omega) (fun q => (hr y).trans (hc q)) hBb' B2))
    · exact br_f y (nm_r (nI_1 g) (ih (g + 1) 1 lc' ls' bd' b' (by omega) (by omega) (by omega) (fun q => absurd q ot_01') hBb' B2))
theorem ox_fb33 (T : ot_T n d m co ne ef be go aC aN aE aB aG) {x1 : Int32} (hx1 : ot_md x1 pr) {post : SX → Prop} {J : Int32 → Int32 → Int32 → Int32 → Int32 → Int32 → Int32 → (Nat → Int32) → (Nat → Int32) → (Nat → Int32) → (Nat → Int32) → (Nat → Int32) → (Nat → Int32) → (Nat → Int32) → (Nat → Int32) → (Nat → Int32) → (Nat → Int32) → (Nat → Int32) → (Nat → Int32) → Prop} {r : Nat}
    (hJ : ∀ c lc ls bd b, (c = 0 → b = b0) → ot_BD 1000000000 b bd → ot_Bx n m ne ef co be pr (fun _ f' g' => f' ≤ g') b0 b → J c (nI (r + 1)) (nI n) (nI d) (nI m) mt lc aC aN aE aB aG od sn mv rm bd ls ah) :
    ∀ fu f c lc ls bd b, f ≤ 4 * n → 4 * n - f < fu → (c = 0 → b = b0) → ot_BD 1000000000 b bd → ot_Bx n m ne ef co be pr (fun _ f' g' => f' < f ∧ f' ≤ g') b0 b → wX_findBounds_33 post J x1 (nI (4 * n)) (nI r) fu c (nI f) (nI n) (nI d) (nI m) mt lc aC aN aE aB aG od sn mv rm bd ls ah := by
  have T0 := T
  obtain ⟨⟨⟨hn1, hn⟩, ⟨hd1, hd⟩, hm⟩, ⟨hC, hco⟩, ⟨hN, hne⟩, ⟨hE, hef⟩, ⟨hB, hbe⟩, ⟨hG, hgo⟩⟩ := T
  intro fu
  induction fu with
  | zero => intro f c lc ls bd b _ h; omega
  | succ fu ih =>
  intro f c lc ls bd b hf hfu hc hBb B
  rcases Nat.lt_or_ge f (4 * n) with z | z
  · refine br_f (nI_ge z (by omega)) ?_
    have go1 : ∀ L, f ≤ L → L < 4 * n → (pr ∨ L = f) → (pr → L + 1 = 4 * n) → ∃ n58, wX_findBounds_58 post J (wX_findBounds_33 post J x1 (nI (4 * n)) (nI r) fu) x1 (nI (4 * n)) (nI r) (nI f) (nI L) n58 c (nI f) (nI n) (nI d) (nI m) mt lc aC aN aE aB aG od sn mv rm bd ls ah := fun L h1 h2 h3 h4 =>
      ⟨L + 2, ox_fb58 T0 hx1 z h1 h2 h3 h4 (fun c lc ls bd b a e g => ih (f + 1) c lc ls bd b (by omega) (by omega) a e g) (L + 2) f c lc ls bd b (Nat.le_refl _) (by omega) (by omega) hc hBb (ot_BxD B (fun o f' g' _ _ _ _ y => y.elim id (fun q => by omega)))⟩
    rcases hx1 with ⟨x, p⟩ | ⟨x, p⟩
    · exact br_t x (go1 f (Nat.le_refl _) z (Or.inr rfl) (fun q => absurd q p))
    · refine br_f x (nm_r (e' := nI (4 * n - 1)) ?_ (go1 (4 * n - 1) (by omega) (by omega) (Or.inl p) (fun _ => by omega)))
      exact ot_rvp (x := 4 * n) (by omega)
  · exact br_t (nI_le z (by omega)) (nm_r (nI_1 r) (hJ c lc ls bd b hc hBb (ot_BxD B (fun o f' g' a1 _ _ _ y => ⟨by omega, y⟩))))
theorem ot_round (T : ot_T n d m co ne ef be go aC aN aE aB aG) (B : ot_Bx n m ne ef co be pr (fun _ f' g' => f' ≤ g') b0 b) : ∀ p c Q k, ot_H n m ne ef co pr p c Q → (∀ q, Q q → b0 q ≤ k) → b p ≤ k + c := by
  obtain ⟨⟨⟨hn1, hn⟩, ⟨hd1, hd⟩, hm⟩, ⟨hC, hco⟩, ⟨hN, hne⟩, ⟨hE, hef⟩, ⟨hB, hbe⟩, ⟨hG, hgo⟩⟩ := T
  intro p c Q k hH hq
  obtain ⟨o, f, g, ho, hf, hg, e, hp, hx, hb, hc, hQ⟩ := hH
  subst e hc hQ
  rcases Nat.lt_or_ge g f with z | z
  · rw [B.2.2.2.1 f g (by omega) (by omega)]
    exact B.2.2.2.2.2 o g f ho hg hf (ot_prs hp) (hx.imp Eq.symm (fun y w => y w.symm)) (ot_bgs hb) (by omega) k (fun a c ha hc hac => hq _ ⟨a, c, ot_rss ha, ot_rss hc, hac, rfl⟩)
  · exact B.2.2.2.2.2 o f g ho hf hg hp hx hb z k (fun a c ha hc hac => hq _ ⟨a, c, ha, hc, hac, rfl⟩)
theorem ot_Zpr {p : Nat} (h : ot_Z n be pr p) : ot_Z n be True p := by
  obtain ⟨v, u, hv, hu, _, e⟩ := h
  exact ⟨v, u, hv, hu, Or.inl trivial, e⟩
theorem ox_first2 (T : ot_T n d m co ne ef be go aC aN aE aB aG) {lc : Int32} {ls bd : Nat → Int32} {post : SX → Prop} (h : ∀ bd, ot_BD 1000000000 (ot_w0 (ot_Z n be True)) bd → post (nI n, nI d, nI m, mt, lc, aC, aN, aE, aB, aG, od, sn, mv, rm, bd, ls, ah)) : wpX_setFirstBounds post (nI n, nI d, nI m, mt, lc, aC, aN, aE, aB, aG, od, sn, mv, rm, bd, ls, ah) := by
  have T0 := T
  obtain ⟨⟨⟨hn1, hn⟩, ⟨hd1, hd⟩, hm⟩, ⟨hC, hco⟩, ⟨hN, hne⟩, ⟨hE, hef⟩, ⟨hB, hbe⟩, ⟨hG, hgo⟩⟩ := T
  have k35 : ∀ (J : Int32 → (Nat → Int32) → (Nat → Int32) → (Nat → Int32) → (Nat → Int32) → (Nat → Int32) → (Nat → Int32) → (Nat → Int32) → (Nat → Int32) → (Nat → Int32) → (Nat → Int32) → (Nat → Int32) → (Nat → Int32) → Prop) v, v < n → (∀ bd, (∀ p, p < 400 → ((∃ v' u', v' < v + 1 ∧ u' < n ∧ p = 20 * (4 * v' + be v') + (4 * u' + be u')) → bd p = 0) ∧ ((¬ ∃ v' u', v' < v + 1 ∧ u' < n ∧ p = 20 * (4 * v' + be v') + (4 * u' + be u')) → bd p = 1000000000)) → J (nI (v + 1)) aC aN aE aB aG od sn mv rm bd ls ah) →
      ∀ bd, (∀ p, p < 400 → ((∃ v' u', v' < v ∧ u' < n ∧ p = 20 * (4 * v' + be v') + (4 * u' + be u')) → bd p = 0) ∧ ((¬ ∃ v' u', v' < v ∧ u' < n ∧ p = 20 * (4 * v' + be v') + (4 * u' + be u')) → bd p = 1000000000)) → ∃ fu, wX_setFirstBounds_35 post J (nI v) (nI n) (nI d) (nI m) mt lc fu 0 aC aN aE aB aG od sn mv rm bd ls ah := by
    intro J v hv hJ bd h0
    have b1 := hbe v
    refine loop_0 (fun fu u (bd : Nat → Int32) => wX_setFirstBounds_35 post J (nI v) (nI n) (nI d) (nI m) mt lc fu (nI u) aC aN aE aB aG od sn mv rm bd ls ah) (fun u bd => ∀ p, p < 400 → ((∃ v' u', ((v' < v ∧ u' < n) ∨ (v' = v ∧ u' < u)) ∧ p = 20 * (4 * v' + be v') + (4 * u' + be u')) → bd p = 0) ∧ ((¬ ∃ v' u', ((v' < v ∧ u' < n) ∨ (v' = v ∧ u' < u)) ∧ p = 20 * (4 * v' + be v') + (4 * u' + be u')) → bd p = 1000000000)) n bd (fun p hp => ?_) ?_ ?_
    · have a := h0 p hp
      refine ⟨fun ⟨v', u', hh, e⟩ => a.1 ⟨v', u', ?_, ?_, e⟩, fun hno => a.2 (fun ⟨v', u', q1, q2, e⟩ => hno ⟨v', u', Or.inl ⟨q1, q2⟩, e⟩)⟩
      · rcases hh with q | q
        · exact q.1
        · exact absurd q.2 (Nat.not_lt_zero _)
      · rcases hh with q | q
        · exact q.2
        · exact absurd q.2 (Nat.not_lt_zero _)
    · intro fu bd hI
      refine br_t (nI_le (Nat.le_refl _) (by omega)) (nm_r (nI_1 v) (hJ bd (fun p hp => ?_)))
      have a := hI p hp
      refine ⟨fun ⟨v', u', q1, q2, e⟩ => a.1 ⟨v', u', ?_, e⟩, fun hno => a.2 (fun ⟨v', u', hh, e⟩ => hno ⟨v', u', ?_, ?_, e⟩)⟩
      · rcases Nat.lt_or_ge v' v with y | y
        · exact Or.inl ⟨y, q2⟩
        · exact Or.inr ⟨by omega, q2⟩
      · rcases hh with q | q
        · have := q.1; omega
        · have := q.1; omega
      · rcases hh with q | q
        · exact q.2
        · exact q.2
    · intro fu u bd hu hI ih
      have b2 := hbe u
      have ev : nI v * 4 + nI (be v) = nI (4 * v + be v) := by rw [show nI v * 4 = nI (v * 4) from pk_mul v 4, nI_add, Nat.mul_comm]
      have eu : nI u * 4 + nI (be u) = nI (4 * u + be u) := by rw [show nI u * 4 = nI (u * 4) from pk_mul u 4, nI_add, Nat.mul_comm]
      have e20 : nI (4 * v + be v) * 20 + nI (4 * u + be u) = nI (20 * (4 * v + be v) + (4 * u + be u)) := by rw [show nI (4 * v + be v) * 20 = nI ((4 * v + be v) * 20) from pk_mul _ 20, nI_add, Nat.mul_comm]
      refine br_f (nI_ge hu (by omega)) ⟨vp_in_nI (by omega) (by omega), nm_r (e' := nI (4 * v + be v)) (by rw [nI_clamp (by omega), hB v (by omega), ev]) ⟨vp_in_nI (by omega) (by omega), nm_r (e' := nI (4 * u + be u)) (by rw [nI_clamp (by omega), hB u (by omega), eu]) ?_⟩⟩
      rw [e20]
      refine ⟨vp_in_nI (by omega) (by omega), nm_r (e' := upd bd (20 * (4 * v + be v) + (4 * u + be u)) 0) (by rw [nI_clamp (by omega)]) (nm_r (nI_1 u) (ih _ (fun p hp => ?_)))⟩
      rcases Classical.em (p = 20 * (4 * v + be v) + (4 * u + be u)) with y | y
      · rw [y, pk_us]
        exact ⟨fun _ => rfl, fun hno => absurd ⟨v, u, Or.inr ⟨rfl, by omega⟩, rfl⟩ hno⟩
      · rw [pk_un y]
        have a := hI p hp
        refine ⟨fun ⟨v', u', hh, e⟩ => a.1 ⟨v', u', ?_, e⟩, fun hno => a.2 (fun ⟨v', u', hh, e⟩ => hno ⟨v', u', hh.imp id (fun q => ⟨q.1, Nat.lt_succ_of_lt q.2⟩), e⟩)⟩
        rcases hh with q | q
        · exact Or.inl q
        · refine Or.inr ⟨q.1, ?_⟩
          rcases Nat.lt_or_ge u' u with w | w
          · exact w
          · exfalso
            have e1 : u' = u := Nat.le_antisymm (Nat.le_of_lt_succ q.2) w
            rw [e1, q.1] at e
            exact y e
  have k25 : ∀ fu v bd, v ≤ n → n - v < fu → (∀ p, p < 400 → ((∃ v' u', v' < v ∧ u' < n ∧ p = 20 * (4 * v' + be v') + (4 * u' + be u')) → bd p = 0) ∧ ((¬ ∃ v' u', v' < v ∧ u' < n ∧ p = 20 * (4 * v' + be v') + (4 * u' + be u')) → bd p = 1000000000)) → wX_setFirstBounds_25 post (nI n) (nI d) (nI m) mt lc fu (nI v) aC aN aE aB aG od sn mv rm bd ls ah := by
    intro fu
    induction fu with
    | zero => intro v bd _ h; omega
    | succ fu ih =>
    intro v bd hv hfu hI
    rcases Nat.lt_or_ge v n with z | z
    · exact br_f (nI_ge z (by omega)) (k35 _ v z (fun bd' hI' => ih (v + 1) bd' z (by omega) hI') bd hI)
    · refine br_t (nI_le z (by omega)) (h bd ⟨ot_w0le _, fun p hp => ?_⟩)
      have a := hI p hp
      have ev : v = n := Nat.le_antisymm hv z
      rcases Classical.em (ot_Z n be True p) with y | y
      · rw [ot_w0t y]
        obtain ⟨v', u', q1, q2, _, e⟩ := y
        exact a.1 ⟨v', u', by rw [ev]; exact q1, q2, e⟩
      · rw [ot_w0f y]
        exact a.2 (fun ⟨v', u', q1, q2, e⟩ => y ⟨v', u', by rw [← ev]; exact q1, q2, Or.inl trivial, e⟩)
  refine loop_0 (fun fu p (bd : Nat → Int32) => wX_setFirstBounds_2 post (nI n) (nI d) (nI m) mt lc fu (nI p) aC aN aE aB aG od sn mv rm bd ls ah) (fun p bd => ∀ q, q < p → bd q = 1000000000) 400 bd (fun q hq => by omega) ?_ ?_
  · intro fu bd hI
    exact br_t (by decide) ⟨n + 1, k25 (n + 1) 0 bd (Nat.zero_le _) (by omega) (fun p hp => ⟨fun ⟨v', u', q, _⟩ => absurd q (Nat.not_lt_zero _), fun _ => hI p hp⟩)⟩
  · intro fu p bd hp hI ih
    exact br_f (nI_ge (b := 400) hp (by decide)) ⟨vp_in_nI hp (by omega), nm_r (e' := upd bd p 1000000000) (by rw [nI_clamp (by omega)]) (nm_r (nI_1 p) (ih _ (lt_s (fun q hq => by rw [pk_un (by omega)]; exact hI q hq) pk_us)))⟩
theorem ox_findB (T : ot_T n d m co ne ef be go aC aN aE aB aG) {lc : Int32} {ls bd : Nat → Int32} {x1 : Int32} (hx1 : ot_md x1 pr) {post : SX → Prop} (h : ∀ lc ls bd b, ot_BD 1000000000 b bd → ot_J (ot_Z n be pr) (ot_H n m ne ef co pr) (ot_dm pr) 1000000000 b → ot_LB (ot_Z n be pr) (ot_H n m ne ef co pr) b → ot_Sy b → post (nI n, nI d, nI m, mt, lc, aC, aN, aE, aB, aG, od, sn, mv, rm, bd, ls, ah)) : wpX_findBounds post (nI n, nI d, nI m, mt, lc, aC, aN, aE, aB, aG, od, sn, mv, rm, bd, ls, ah) x1 := by
  have T0 := T
  obtain ⟨⟨⟨hn1, hn⟩, ⟨hd1, hd⟩, hm⟩, ⟨hC, hco⟩, ⟨hN, hne⟩, ⟨hE, hef⟩, ⟨hB, hbe⟩, ⟨hG, hgo⟩⟩ := T
  have dle : ∀ b, (∃ p, ot_U (ot_Z n be pr) (ot_H n m ne ef co pr) b p) → ∃ p, p < 400 ∧ ot_U (ot_Z n be pr) (ot_H n m ne ef co pr) b p := fun b ⟨p, k, hd', hk⟩ => ⟨p, ot_D400 hn hd (fun v _ => hbe v) hd', k, hd', hk⟩
  have key : ∀ fu r c lc ls bd b, r ≤ 400 → 400 - r < fu → (c = 0 → ot_LB (ot_Z n be pr) (ot_H n m ne ef co pr) b) → ot_BD 1000000000 b bd → ot_Bx n m ne ef co be pr (fun _ _ _ => False) b b → (ot_LB (ot_Z n be pr) (ot_H n m ne ef co pr) b ∨ cn (ot_U (ot_Z n be pr) (ot_H n m ne ef co pr) b) 400 + r ≤ 400) → wX_findBounds_16 post x1 (nI (4 * n)) fu c (nI r) (nI n) (nI d) (nI m) mt lc aC aN aE aB aG od sn mv rm bd ls ah := by
    intro fu
    induction fu with
    | zero => intro r c lc ls bd b _ h; omega
    | succ fu ih =>
    intro r c lc ls bd b hr hfu hc hBb B hU
    rcases Classical.em (c = 0) with z | z
    · exact br_t z (h lc ls bd b hBb B.1 (hc z) B.2.2.2.1)
    · refine br_f z ?_
      rcases Nat.lt_or_ge r 400 with y | y
      · refine br_f (nI_ge (b := 400) y (by decide)) ⟨4 * n + 1, ox_fb33 (b0 := b) T0 hx1 (fun c' lc' ls' bd' b' hc' hBb' B' => ?_) (4 * n + 1) 0 0 lc ls bd b (Nat.zero_le _) (by omega) (fun _ => rfl) hBb (ot_BxD B (fun o f' g' _ _ _ _ w => by omega))⟩
        have rd := ot_round T0 B'
        refine ih (r + 1) c' lc' ls' bd' b' (by omega) (by omega) (fun p => ?_) hBb' ⟨B'.1, fun _ => Nat.le_refl _, hBb'.1, B'.2.2.2.1, B'.2.2.2.2.1, fun _ _ _ _ _ _ _ _ _ w => w.elim⟩ ?_
        · have e := hc' p
          subst e
          exact ot_LBs (fun p hp => B'.2.2.2.2.1 p (ot_Zpr hp)) rd
        · rcases hU with u | u
          · exact Or.inl (fun p k hk => Nat.le_trans (B'.2.1 p) (u p k hk))
          · rcases Classical.em (∃ p, ot_U (ot_Z n be pr) (ot_H n m ne ef co pr) b p) with w | w
            · have := ot_rd (Z := ot_Z n be pr) B'.2.1 (fun p hp => B.2.2.2.2.1 p (ot_Zpr hp)) rd (M := 400) (fun p c Q hH => ot_H400 hn hH) w
              exact Or.inr (by omega)
            · exact Or.inl (fun p k hk => Nat.le_trans (B'.2.1 p) (ot_LB0 w p k hk))
      · refine br_t (nI_le (a := 400) y (by omega)) (h lc ls bd b hBb B.1 ?_ B.2.2.2.1)
        rcases hU with u | u
        · exact u
        · refine ot_LB0 (fun w => ?_)
          obtain ⟨p, hp, hu⟩ := dle b w
          exact ot_cn0 (by omega) hp hu
  refine ox_first2 T0 (fun bd hBb => ?_)
  have e4 : nI n * 4 = nI (4 * n) := by rw [show nI n * 4 = nI (n * 4) from pk_mul n 4, Nat.mul_comm]
  have zl : ∀ p, ot_Z n be True p → p < 400 := fun p ⟨v, u, hv, hu, _, e⟩ => by
    have b1 := hbe v
    have b2 := hbe u
    omega
  refine nm_r e4 ⟨401, key 401 0 1 lc ls bd _ (by omega) (by omega) (fun q => absurd q ot_01') hBb ⟨fun p hdm hp => ?_, fun _ => Nat.le_refl _, ot_w0le _, fun f g hf hg => ?_, fun p hp => ot_w0t hp, fun _ _ _ _ _ _ _ _ _ w => w.elim⟩ (Or.inr (by rw [Nat.add_zero]; exact cn_le _ 400))⟩
  · rcases Classical.em (ot_Z n be True p) with y | y
    · rw [ot_w0t y]
      refine ⟨ot_Dz 0 ?_, Nat.zero_le _⟩
      obtain ⟨v, u, hv, hu, _, e⟩ := y
      obtain ⟨f, g, hf, hg, hp', e'⟩ := hdm
      have b1 := hbe v
      have b2 := hbe u
      refine ⟨v, u, hv, hu, hp'.imp id (fun q => ?_), e⟩
      have e1 : 4 * v + be v = f := by omega
      have e2 : 4 * u + be u = g := by omega
      omega
    · rw [ot_w0f y] at hp
      omega
  · have sw : ∀ f g, f < 20 → g < 20 → ot_Z n be True (20 * f + g) → ot_Z n be True (20 * g + f) := fun f g hf hg ⟨v, u, hv, hu, _, e⟩ => by
      have b1 := hbe v
      have b2 := hbe u
      exact ⟨u, v, hu, hv, Or.inl trivial, by omega⟩
    rcases Classical.em (ot_Z n be True (20 * f + g)) with y | y
    · rw [ot_w0t y, ot_w0t (sw f g hf hg y)]
    · rw [ot_w0f y, ot_w0f (fun q => y (sw g f hg hf q))]
end
