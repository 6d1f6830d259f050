/-! bounds: the reference's table whole -/
def ot_AY (n m : Nat) (ne ef co be : Nat → Nat) (pr : Prop) (b : Nat → Nat) : Prop := ∀ p, ot_dm pr p → b p < 1000000 → ot_D (ot_Z n be pr) (ot_H n m ne ef co pr) p (b p)
def ot_NC (b : Nat → Nat) : Prop := ∀ a c, a < 20 → c < 20 → a ≠ c → a / 4 = c / 4 → b (20 * a + c) = 1000000
def ot_th (n d f : Nat) : Prop := f / 4 < n ∧ f % 4 < d
def ot_NV (n d : Nat) (pr : Prop) (b : Nat → Nat) : Prop := ∀ f g, f < 20 → g < 20 → ¬ (ot_th n d f ∧ ot_th n d g ∧ (pr ∨ f = g)) → b (20 * f + g) = 1000000
def ot_BO (n m : Nat) (ne ef co be : Nat → Nat) (pr : Prop) (b0 : Nat → Nat) (f g r : Nat) : Prop := (be (f / 4) = f % 4 → be (g / 4) = g % 4 → r = 0) ∧ ((f = g ∨ f / 4 ≠ g / 4) → ∀ o, o < m → ot_bg ef o f g → ∀ q, (∀ a c, ot_rs n ne ef o f g a → ot_rs n ne ef o f g c → (pr ∨ a = c) → b0 (20 * a + c) ≤ q) → r ≤ q + co o)
def ot_BY (n d m : Nat) (ne ef co be : Nat → Nat) (pr : Prop) (b0 b : Nat → Nat) (p : Nat) (c : Int32) : Prop := ot_AY n m ne ef co be pr b ∧ ot_NC b ∧ ot_NV n d pr b ∧ (∀ q, b q ≤ b0 q) ∧ (c = 0 → b = b0) ∧ (c = 1 → ot_sm b 400 < ot_sm b0 400) ∧ ∀ f g, 20 * f + g < p → f < 20 → g < 20 → ot_th n d f → ot_th n d g → (pr ∨ f = g) → ot_BO n m ne ef co be pr b0 f g (b (20 * f + g))
section
variable {n d m : Nat} {co ne ef be go : Nat → Nat} {aC aN aE aB aG yl yf ym yb yd yr : Nat → Int32} {rz : Int32} {pr : Prop} {b0 b : Nat → Nat}
theorem oy_isB (T : ot_T n d m co ne ef be go aC aN aE aB aG) {f : Nat} (hf : f < 20) {post : Int32 → Prop} (h1 : be (f / 4) = f % 4 → post 1) (h0 : be (f / 4) ≠ f % 4 → post 0) : wpY_isBegin post (nI n, nI d, nI m, rz, aC, aN, aE, aB, aG, yl, yf, ym, yb, yd, yr) (nI f) := by
  obtain ⟨⟨⟨hn1, hn⟩, ⟨hd1, hd⟩, hm⟩, ⟨hC, hco⟩, ⟨hN, hne⟩, ⟨hE, hef⟩, ⟨hB, hbe⟩, ⟨hG, hgo⟩⟩ := T
  have b := hbe (f / 4)
  have e4 : nI f / 4 = nI (f / 4) := pk_div (d := 4) (by omega) (by omega) (by omega)
  have er : nI f - nI f / 4 * 4 = nI (f % 4) := pk_rem (d := 4) (by omega) (by omega) (by omega)
  have ex : aB (nI f / 4).toNatClampNeg = nI (be (f / 4)) := by rw [e4, nI_clamp (by omega), hB _ (by omega)]
  refine ⟨by decide, by rw [e4]; exact vp_in_nI (by omega) (by omega), by decide, ?_⟩
  rw [ex, er]
  rcases Classical.em (be (f / 4) = f % 4) with z | z
  · exact br_t (by rw [z]) (h1 z)
  · exact br_f (fun y => z ((nI_eq (by omega) (by omega)).mp y)) (h0 z)
theorem oy_isT (T : ot_T n d m co ne ef be go aC aN aE aB aG) {f : Nat} (hf : f < 20) {post : Int32 → Prop} (h1 : ot_th n d f → post 1) (h0 : ¬ ot_th n d f → post 0) : wpY_isThere post (nI n, nI d, nI m, rz, aC, aN, aE, aB, aG, yl, yf, ym, yb, yd, yr) (nI f) := by
  obtain ⟨⟨⟨hn1, hn⟩, ⟨hd1, hd⟩, hm⟩, ⟨hC, hco⟩, ⟨hN, hne⟩, ⟨hE, hef⟩, ⟨hB, hbe⟩, ⟨hG, hgo⟩⟩ := T
  have e4 : nI f / 4 = nI (f / 4) := pk_div (d := 4) (by omega) (by omega) (by omega)
  have er : nI f - nI f / 4 * 4 = nI (f % 4) := pk_rem (d := 4) (by omega) (by omega) (by omega)
  refine ⟨by decide, ?_⟩
  rw [er, e4]
  rcases Nat.lt_or_ge (f / 4) n with z | z
  · refine br_f (nI_ge z (by omega)) ⟨by decide, ?_⟩
    rcases Nat.lt_or_ge (f % 4) d with y | y
    · exact br_f (nI_ge y (by omega)) (h1 ⟨z, y⟩)
    · exact br_t (nI_le y (by omega)) (h0 (fun q => by have := q.2; omega))
  · exact br_t (nI_le z (by omega)) (h0 (fun q => by have := q.1; omega))
theorem ot_trD (hn : n ≤ 5) (hd : d ≤ 4) (hne : ∀ j, ne j ≤ d) (hbe : ∀ j, be j < d) (A : ot_AY n m ne ef co be pr b) : ∀ p, ot_dm pr p → ot_tr b p < 1000000 → ot_D (ot_Z n be pr) (ot_H n m ne ef co pr) p (ot_tr b p) := by
  intro p ⟨x, y, hx, hy, hp, e⟩ hl
  subst e
  rw [ot_trv b hy] at hl ⊢
  exact ot_Dsym hn hd hne (fun v _ => hbe v) hy hx (A _ ⟨y, x, hy, hx, ot_prs hp, rfl⟩ hl)
theorem oy_bound (T : ot_T n d m co ne ef be go aC aN aE aB aG) (hBb : ot_BD 1000000 b yd) (A : ot_AY n m ne ef co be pr b) (hN' : ot_NC b) {x1 : Int32} (hx : ot_mdy x1 pr) {f g : Nat} (hf : f < 20) (hg : g < 20) (tf : ot_th n d f) (tg : ot_th n d g) (hp : pr ∨ f = g) {post : Int32 → SY → Prop} (hP : ∀ r rz yr, r ≤ 1000000 → (r < 1000000 → ot_D (ot_Z n be pr) (ot_H n m ne ef co pr) (20 * f + g) r) → (f ≠ g → f / 4 = g / 4 → r = 1000000) → ot_BO n m ne ef co be pr b f g r → post (nI r) (nI n, nI d, nI m, rz, aC, aN, aE, aB, aG, yl, yf, ym, yb, yd, yr)) : wpY_boundOf post (nI n, nI d, nI m, rz, aC, aN, aE, aB, aG, yl, yf, ym, yb, yd, yr) (nI f) (nI g) x1 := by
  have T0 := T
  obtain ⟨⟨⟨hn1, hn⟩, ⟨hd1, hd⟩, hm⟩, ⟨hC, hco⟩, ⟨hN, hne⟩, ⟨hE, hef⟩, ⟨hB, hbe⟩, ⟨hG, hgo⟩⟩ := T
  have f4 : f < 4 * n := by have := tf.1; omega
  have g4 : g < 4 * n := by have := tg.1; omega
  have e4f : nI f / 4 = nI (f / 4) := pk_div (d := 4) (by omega) (by omega) (by omega)
  have e4g : nI g / 4 = nI (g / 4) := pk_div (d := 4) (by omega) (by omega) (by omega)
  have key : (f = g ∨ f / 4 ≠ g / 4) → ¬ (be (f / 4) = f % 4 ∧ be (g / 4) = g % 4) → ∀ fu o r rz yr, o ≤ m → m - o < fu → r ≤ 1000000 → (r < 1000000 → ot_D (ot_Z n be pr) (ot_H n m ne ef co pr) (20 * f + g) r) → (∀ o', o' < o → ot_bg ef o' f g → ∀ q, (∀ a c, ot_rs n ne ef o' f g a → ot_rs n ne ef o' f g c → (pr ∨ a = c) → b (20 * a + c) ≤ q) → r ≤ q + co o') → wY_boundOf_42 post (nI f) (nI g) x1 fu (nI r) (nI o) (nI n) (nI d) (nI m) rz aC aN aE aB aG yl yf ym yb yd yr := by
    intro hxx hnb fu
    induction fu with
    | zero => intro o r rz yr _ h; omega
    | succ fu ih =>
    intro o r rz yr ho hfu hr hD hS
    rcases Nat.lt_or_ge o m with z | z
    · have c9 := hco o
      have hS' : ∀ r', r' ≤ r → (ot_bg ef o f g → ∀ q, (∀ a c, ot_rs n ne ef o f g a → ot_rs n ne ef o f g c → (pr ∨ a = c) → b (20 * a + c) ≤ q) → r' ≤ q + co o) → ∀ o', o' < o + 1 → ot_bg ef o' f g → ∀ q, (∀ a c, ot_rs n ne ef o' f g a → ot_rs n ne ef o' f g c → (pr ∨ a = c) → b (20 * a + c) ≤ q) → r' ≤ q + co o' := fun r' hr' h1 o' ho' hb q hq => by
        rcases Nat.lt_or_ge o' o with y | y
        · exact Nat.le_trans hr' (hS o' y hb q hq)
        · have e : o' = o := by omega
          subst e
          exact h1 hb q hq
      refine br_f (nI_ge z (by omega)) (oy_findRest T0 (by omega) hf hg (fun h0 rz yr => br_t rfl (nm_r (nI_1 o) (ih (o + 1) r rz yr (by omega) (by omega) hr hD (hS' r (Nat.le_refl _) (fun hb q hq => ?_))))) (fun hb k yr lf hk H _ => br_f ot_01' ⟨vp_in_nI (by omega) (by omega), ?_⟩))
      · rcases h0 with h0 | ⟨a, c, ha, hc, hac, e4⟩
        · exact absurd hb h0
        · have a4 := ot_rs20 hn hd hne f4 g4 ha
          have c4 := ot_rs20 hn hd hne f4 g4 hc
          rcases hp with p | p
          · have := hq a c ha hc (Or.inl p)
            rw [hN' a c (by omega) (by omega) hac e4] at this
            omega
          · subst p
            exfalso
            have hfe : ef (5 * o + f / 4) ≠ 0 := by
              have := hb.2.2
              omega
            rcases ha with ⟨v, hv, v0, ev⟩ | y | y
            · rcases hc with ⟨u, hu, u0, eu⟩ | y | y
              · have n1 := hne (5 * o + v)
                have n2 := hne (5 * o + u)
                have : v = u := by omega
                subst this
                omega
              · exact hfe y.2
              · exact hfe y.2
            · exact hfe y.2
            · exact hfe y.2
      · refine oy_greatest (pr := pr) H hk hBb hx (fun M hM G => ?_)
        have le : ∀ q, (∀ a c, ot_rs n ne ef o f g a → ot_rs n ne ef o f g c → (pr ∨ a = c) → b (20 * a + c) ≤ q) → M ≤ q := fun q hq => ot_GMle (b := ot_tr b) (b0 := ot_tr b) H G (fun _ => Nat.le_refl _) (fun a c ha hc hac => by
          have c4 := ot_rs20 hn hd hne f4 g4 hc
          rw [ot_trv b (by omega)]
          exact hq c a hc ha (ot_prs hac))
        refine nm_r (e' := nI (co o + M)) (by rw [nI_clamp (by omega), hC o (by omega), nI_add]) ?_
        rcases Nat.lt_or_ge (co o + M) r with y | y
        · refine br_f (nI_ge y (by omega)) (nm_r (nI_1 o) (ih (o + 1) (co o + M) (nI k) yr (by omega) (by omega) (by omega) (fun _ => ?_) (hS' _ (by omega) (fun _ q hq => by have := le q hq; omega))))
          rw [Nat.add_comm (co o) M]
          exact ot_Dh (Q := fun q => ∃ a c, ot_rs n ne ef o f g a ∧ ot_rs n ne ef o f g c ∧ (pr ∨ a = c) ∧ q = 20 * a + c) ⟨o, f, g, z, f4, g4, rfl, hp, hxx, hb, rfl, rfl⟩ (fun q ⟨a, c, ha, hc, hac, e⟩ => by
            rw [e]
            exact ot_GMD (b := ot_tr b) (I := 1000000) hn hd hne hbe H G (by omega) (ot_trD hn hd hne hbe A) ha hc hac)
        · exact br_t (nI_le y (by omega)) (nm_r (nI_1 o) (ih (o + 1) r (nI k) yr (by omega) (by omega) hr hD (hS' r (Nat.le_refl _) (fun _ q hq => by have := le q hq; omega))))
    · exact br_t (nI_le z (by omega)) (hP r rz yr hr hD (fun h1 h2 => absurd h2 (hxx.elim (fun e => absurd e h1) id)) ⟨fun h1 h2 => absurd ⟨h1, h2⟩ hnb, fun _ o' ho' hb q hq => hS o' (by omega) hb q hq⟩)
  have start : (f = g ∨ f / 4 ≠ g / 4) → ¬ (be (f / 4) = f % 4 ∧ be (g / 4) = g % 4) → ∃ n42 : Nat, wY_boundOf_42 post (nI f) (nI g) x1 n42 1000000 0 (nI n) (nI d) (nI m) rz aC aN aE aB aG yl yf ym yb yd yr := fun h1 h2 => ⟨m + 1, key h1 h2 (m + 1) 0 1000000 rz yr (Nat.zero_le _) (by omega) (Nat.le_refl _) (fun q => by omega) (fun o' ho' => by omega)⟩
  have s17 : (f = g ∨ f / 4 ≠ g / 4) → wY_boundOf_17 post (nI f) (nI g) x1 (nI n) (nI d) (nI m) rz aC aN aE aB aG yl yf ym yb yd yr := fun h1 => by
    refine oy_isB T0 hf (fun a => br_f ot_01' (oy_isB T0 hg (fun c => br_f ot_01' ?_) (fun c => br_t rfl (start h1 (fun q => c q.2))))) (fun a => br_t rfl (start h1 (fun q => a q.1)))
    refine hP 0 rz yr (Nat.zero_le _) (fun _ => ot_Dz 0 ⟨f / 4, g / 4, tf.1, tg.1, hp.imp id (fun e => by rw [e]), by rw [a, c]; omega⟩) (fun h2 h3 => ?_) ⟨fun _ _ => rfl, fun _ o' _ _ q _ => Nat.zero_le _⟩
    rw [h3] at a
    omega
  rcases Classical.em (f = g) with z | z
  · exact br_t (by rw [z]) (s17 (Or.inl z))
  · refine br_f (fun e => z ((nI_eq (by omega) (by omega)).mp e)) ⟨by decide, by decide, ?_⟩
    rw [e4f, e4g]
    rcases Classical.em (f / 4 = g / 4) with y | y
    · refine br_t (by rw [y]) (hP 1000000 rz yr (Nat.le_refl _) (fun q => by omega) (fun _ _ => rfl) ⟨fun h1 h2 => ?_, fun h1 => absurd y (h1.elim (fun e => absurd e z) id)⟩)
      rw [y] at h1
      omega
    · exact br_f (fun e => y ((nI_eq (by omega) (by omega)).mp e)) (s17 (Or.inr y))
theorem oy_fb33 (T : ot_T n d m co ne ef be go aC aN aE aB aG) {x1 : Int32} (hx : ot_mdy x1 pr) {post : SY → Prop} {J : Int32 → Int32 → Int32 → Int32 → Int32 → (Nat → Int32) → (Nat → Int32) → (Nat → Int32) → (Nat → Int32) → (Nat → Int32) → (Nat → Int32) → (Nat → Int32) → (Nat → Int32) → (Nat → Int32) → (Nat → Int32) → (Nat → Int32) → Prop}
    (hJ : ∀ c rz yd yr b, (c = 0 ∨ c = 1) → ot_BD 1000000 b yd → ot_BY n d m ne ef co be pr b0 b 400 c → J c (nI n) (nI d) (nI m) rz aC aN aE aB aG yl yf ym yb yd yr) :
    ∀ fu p c rz yd yr b, p ≤ 400 → 400 - p < fu → (c = 0 ∨ c = 1) → ot_BD 1000000 b yd → ot_BY n d m ne ef co be pr b0 b p c → wY_findBounds_33 post J x1 fu c (nI p) (nI n) (nI d) (nI m) rz aC aN aE aB aG yl yf ym yb yd yr := by
  have T0 := T
  obtain ⟨⟨⟨hn1, hn⟩, ⟨hd1, hd⟩, hm⟩, ⟨hC, hco⟩, ⟨hN, hne⟩, ⟨hE, hef⟩, ⟨hB, hbe⟩, ⟨hG, hgo⟩⟩ := T
  intro fu
  induction fu with
  | zero => intro p c rz yd yr b _ h; omega
  | succ fu ih =>
  intro p c rz yd yr b hp4 hfu hc hBb B
  rcases Nat.lt_or_ge p 400 with z | z
  · have ed : nI p / 20 = nI (p / 20) := pk_div (d := 20) (by omega) (by omega) (by omega)
    have er : nI p - nI p / 20 * 20 = nI (p % 20) := pk_rem (d := 20) (by omega) (by omega) (by omega)
    have iv : vp_in (nI p) 400 := vp_in_nI z (by omega)
    have cp : (nI p).toNatClampNeg = p := nI_clamp (by omega)
    have pe : 20 * (p / 20) + p % 20 = p := by omega
    have fin : ∀ r rz yr, r ≤ 1000000 → (r < 1000000 → ot_D (ot_Z n be pr) (ot_H n m ne ef co pr) p r ∧ ot_th n d (p / 20) ∧ ot_th n d (p % 20) ∧ (pr ∨ p / 20 = p % 20)) → (p / 20 ≠ p % 20 → p / 20 / 4 = p % 20 / 4 → r = 1000000) → (ot_th n d (p / 20) → ot_th n d (p % 20) → (pr ∨ p / 20 = p % 20) → ot_BO n m ne ef co be pr b (p / 20) (p % 20) r) → wY_findBounds_107 post J (wY_findBounds_33 post J x1 fu) x1 c (nI p) (nI r) (nI n) (nI d) (nI m) rz aC aN aE aB aG yl yf ym yb yd yr := fun r rz yr hr hD hsv hBO => by
      have bl := hBb.1 p
      have proc : ∀ b' : Nat → Nat, (∀ q, b' q ≤ b q) → b' p ≤ r → ∀ f g, 20 * f + g < p + 1 → f < 20 → g < 20 → ot_th n d f → ot_th n d g → (pr ∨ f = g) → ot_BO n m ne ef co be pr b0 f g (b' (20 * f + g)) := fun b' hle hpr' f g h1 h2 h3 h4 h5 h6 => by
        have down : ∀ r1 r2, r2 ≤ r1 → ot_BO n m ne ef co be pr b0 f g r1 → ot_BO n m ne ef co be pr b0 f g r2 := fun r1 r2 hr12 q => ⟨fun a1 a2 => by have := q.1 a1 a2; omega, fun a1 o ho hb k hk => Nat.le_trans hr12 (q.2 a1 o ho hb k hk)⟩
        rcases Classical.em (20 * f + g = p) with y | y
        · have ef' : p / 20 = f := by omega
          have eg' : p % 20 = g := by omega
          rw [ef', eg'] at hBO
          have q := hBO h4 h5 h6
          rw [y]
          exact down r _ hpr' ⟨q.1, fun a1 o ho hb k hk => q.2 a1 o ho hb k (fun a c ha hc hac => Nat.le_trans (B.2.2.2.1 _) (hk a c ha hc hac))⟩
        · exact down _ _ (hle _) (B.2.2.2.2.2.2 f g (by omega) h2 h3 h4 h5 h6)
      have keep : b p ≤ r → wY_findBounds_33 post J x1 fu c (nI (p + 1)) (nI n) (nI d) (nI m) rz aC aN aE aB aG yl yf ym yb (upd yd p (yd p)) yr := fun hle => by
        refine ih (p + 1) c rz _ yr b (by omega) (by omega) hc ⟨hBb.1, fun q hq => ?_⟩ ⟨B.1, B.2.1, B.2.2.1, B.2.2.2.1, B.2.2.2.2.1, B.2.2.2.2.2.1, proc b (fun _ => Nat.le_refl _) hle⟩
        rcases Classical.em (q = p) with e | e
        · rw [e, pk_us]; exact hBb.2 p z
        · rw [pk_un e]; exact hBb.2 q hq
      have lower : r < b p → wY_findBounds_33 post J x1 fu 1 (nI (p + 1)) (nI n) (nI d) (nI m) rz aC aN aE aB aG yl yf ym yb (upd yd p (nI r)) yr := fun hlt => by
        have q := hD (by omega)
        have hle := ot_ule (w := b) (s := p) (Nat.le_of_lt hlt)
        refine ih (p + 1) 1 rz _ yr (ot_up b p r) (by omega) (by omega) (Or.inr rfl) (ot_BDup hBb hr) ⟨fun p' hdm hp' => ?_, fun a c ha hc hac e4 => ?_, fun f g hf hg hno => ?_, fun q' => Nat.le_trans (hle q') (B.2.2.2.1 q'), fun q' => absurd q' ot_01', fun _ => ?_, proc _ hle (by rw [ot_us]; exact Nat.le_refl _)⟩
        · rcases Classical.em (p' = p) with e | e
          · rw [e, ot_us]; exact q.1
          · rw [ot_un e] at hp' ⊢; exact B.1 p' hdm hp'
        · rcases Classical.em (20 * a + c = p) with e | e
          · have e1 : p / 20 = a := by omega
            have e2 : p % 20 = c := by omega
            rw [e1, e2] at hsv
            have := hsv hac e4
            omega
          · rw [ot_un e]; exact B.2.1 a c ha hc hac e4
        · rcases Classical.em (20 * f + g = p) with e | e
          · have e1 : p / 20 = f := by omega
            have e2 : p % 20 = g := by omega
            rw [e1, e2] at q
            exact absurd ⟨q.2.1, q.2.2.1, q.2.2.2⟩ hno
          · rw [ot_un e]; exact B.2.2.1 f g hf hg hno
        · have l1 := ot_smlt (w := b) (w' := ot_up b p r) hle (a := p) (by rw [ot_us]; exact hlt) 400 z
          have l2 := ot_smle B.2.2.2.1 400
          omega
      have yp := hBb.2 p z
      have f129 : ∀ c', (b p ≤ r → c' = c) → (r < b p → c' = 1) → wY_findBounds_129 post J (wY_findBounds_33 post J x1 fu) x1 (nI p) (nI r) c' (nI n) (nI d) (nI m) rz aC aN aE aB aG yl yf ym yb yd yr := fun c' h1 h2 => by
        refine ⟨iv, ?_⟩
        rw [cp, yp]
        rcases Nat.lt_or_ge r (b p) with y | y
        · have e := h2 y
          subst e
          exact br_f (nI_ge y (by omega)) ⟨iv, nm_e (nm_r (nI_1 p) (lower y))⟩
        · have e := h1 y
          subst e
          have kk := keep y
          rw [yp] at kk
          exact br_t (nI_le y (by omega)) ⟨iv, iv, nm_e (nm_r (nI_1 p) kk)⟩
      rcases hc with q | q
      · subst q
        refine br_t rfl ⟨iv, ?_⟩
        rw [cp, yp]
        rcases Nat.lt_or_ge r (b p) with y | y
        · exact br_f (nI_ge y (by omega)) (f129 1 (fun w => by omega) (fun _ => rfl))
        · exact br_t (nI_le y (by omega)) (f129 0 (fun _ => rfl) (fun w => by omega))
      · subst q
        exact br_f ot_01' (f129 1 (fun _ => rfl) (fun _ => rfl))
    have notw : ¬ (ot_th n d (p / 20) ∧ ot_th n d (p % 20) ∧ (pr ∨ p / 20 = p % 20)) → wY_findBounds_85 post J (wY_findBounds_33 post J x1 fu) x1 c (nI p) (nI (p / 20)) (nI (p % 20)) (nI n) (nI d) (nI m) rz aC aN aE aB aG yl yf ym yb yd yr := fun hno => br_t rfl (fin 1000000 rz yr (Nat.le_refl _) (fun q => by omega) (fun _ _ => rfl) (fun a1 a2 a3 => absurd ⟨a1, a2, a3⟩ hno))
    have want : ot_th n d (p / 20) → ot_th n d (p % 20) → (pr ∨ p / 20 = p % 20) → wY_findBounds_81 post J (wY_findBounds_33 post J x1 fu) x1 c (nI p) (nI (p / 20)) (nI (p % 20)) (nI n) (nI d) (nI m) rz aC aN aE aB aG yl yf ym yb yd yr := fun a1 a2 a3 => br_f ot_01' (oy_bound T0 hBb B.1 B.2.1 hx (by omega) (by omega) a1 a2 a3 (fun r rz yr hr hD hsv hBO => by
      rw [pe] at hD
      exact fin r rz yr hr (fun q => ⟨hD q, a1, a2, a3⟩) hsv (fun _ _ _ => hBO)))
    refine br_f (nI_ge (b := 400) z (by decide)) ⟨by decide, nm_r ed ⟨by decide, nm_r er ?_⟩⟩
    refine oy_isT T0 (by omega) (fun a1 => br_f ot_01' (oy_isT T0 (by omega) (fun a2 => br_f ot_01' ?_) (fun a2 => br_t rfl (notw (fun q => a2 q.2.1))))) (fun a1 => br_t rfl (notw (fun q => a1 q.1)))
    rcases hx with ⟨x, pn⟩ | ⟨x, pp⟩
    · refine br_t x ?_
      rcases Classical.em (p / 20 = p % 20) with y | y
      · exact br_t (by rw [y]) (want a1 a2 (Or.inr y))
      · exact br_f (fun e => y ((nI_eq (by omega) (by omega)).mp e)) (notw (fun q => q.2.2.elim pn y))
    · exact br_f x (want a1 a2 (Or.inl pp))
  · have e : p = 400 := by omega
    subst e
    exact br_t (nI_le (a := 400) (Nat.le_refl _) (by omega)) (hJ c rz yd yr b hc hBb B)
theorem ot_LBy (T : ot_T n d m co ne ef be go aC aN aE aB aG) (hI : ∀ p, b p ≤ 1000000) (B : ot_BY n d m ne ef co be pr b b 400 0) : ot_LB (ot_Z n be pr) (ot_H n m ne ef co pr) b := by
  obtain ⟨⟨⟨hn1, hn⟩, ⟨hd1, hd⟩, hm⟩, ⟨hC, hco⟩, ⟨hN, hne⟩, ⟨hE, hef⟩, ⟨hB, hbe⟩, ⟨hG, hgo⟩⟩ := T
  refine ot_LBs (fun p hz => ?_) (fun p c Q k hH hq => ?_)
  · obtain ⟨v, u, hv, hu, hp, e⟩ := hz
    have b1 := hbe v
    have b2 := hbe u
    have v4 : (4 * v + be v) / 4 = v := by omega
    have v5 : (4 * v + be v) % 4 = be v := by omega
    have u4 : (4 * u + be u) / 4 = u := by omega
    have u5 : (4 * u + be u) % 4 = be u := by omega
    have q := B.2.2.2.2.2.2 (4 * v + be v) (4 * u + be u) (by omega) (by omega) (by omega) ⟨by omega, by omega⟩ ⟨by omega, by omega⟩ (hp.imp id (fun e => by rw [e]))
    rw [e]
    refine q.1 ?_ ?_
    · rw [v4, v5]
    · rw [u4, u5]
  · obtain ⟨o, f, g, ho, hf, hg, e, hp, hx, hb, hc, hQ⟩ := hH
    subst e hc hQ
    have i9 := hI (20 * f + g)
    have bad : ∀ x, x < 4 * n → ot_rs n ne ef o f g x → d ≤ x % 4 → b (20 * f + g) ≤ k + co o := fun x hx4 hr hd' => by
      have q := hq _ ⟨x, x, hr, hr, Or.inr rfl, rfl⟩
      rw [B.2.2.1 x x (by omega) (by omega) (fun w => by have := w.1.2; omega)] at q
      omega
    rcases Nat.lt_or_ge (f % 4) d with y | y
    · rcases Nat.lt_or_ge (g % 4) d with w | w
      · exact (B.2.2.2.2.2.2 f g (by omega) (by omega) (by omega) ⟨by omega, y⟩ ⟨by omega, w⟩ hp).2 hx o ho hb k (fun a c ha hc hac => hq _ ⟨a, c, ha, hc, hac, rfl⟩)
      · have ee := hef (5 * o + g / 4)
        exact bad g hg (Or.inr (Or.inr ⟨rfl, hb.2.1.elim id (fun q => by omega)⟩)) w
    · have ee := hef (5 * o + f / 4)
      exact bad f hf (Or.inr (Or.inl ⟨rfl, hb.1.elim id (fun q => by omega)⟩)) y
theorem oy_findB (T : ot_T n d m co ne ef be go aC aN aE aB aG) {x1 : Int32} (hx : ot_mdy x1 pr) {post : SY → Prop} (h : ∀ rz yd yr b, ot_BD 1000000 b yd → ot_AY n m ne ef co be pr b → ot_LB (ot_Z n be pr) (ot_H n m ne ef co pr) b → post (nI n, nI d, nI m, rz, aC, aN, aE, aB, aG, yl, yf, ym, yb, yd, yr)) : wpY_findBounds post (nI n, nI d, nI m, rz, aC, aN, aE, aB, aG, yl, yf, ym, yb, yd, yr) x1 := by
  have T0 := T
  obtain ⟨⟨⟨hn1, hn⟩, ⟨hd1, hd⟩, hm⟩, ⟨hC, hco⟩, ⟨hN, hne⟩, ⟨hE, hef⟩, ⟨hB, hbe⟩, ⟨hG, hgo⟩⟩ := T
  have key : ∀ fu c rz yd yr b, (c = 0 ∨ c = 1) → ot_sm b 400 + (if c = 0 then 0 else 1) < fu → (c = 0 → ot_LB (ot_Z n be pr) (ot_H n m ne ef co pr) b) → ot_BD 1000000 b yd → ot_AY n m ne ef co be pr b → ot_NC b → ot_NV n d pr b → wY_findBounds_25 post x1 fu c (nI n) (nI d) (nI m) rz aC aN aE aB aG yl yf ym yb yd yr := by
    intro fu
    induction fu with
    | zero => intro c rz yd yr b _ h; omega
    | succ fu ih =>
    intro c rz yd yr b hc hfu hL hBb A C V
    rcases hc with z | z
    · exact br_t z (h rz yd yr b hBb A (hL z))
    · subst z
      rw [if_neg ot_01'] at hfu
      refine br_f ot_01' ⟨401, oy_fb33 (b0 := b) T0 hx (fun c' rz' yd' yr' b' hc' hBb' B' => ?_) 401 0 0 rz yd yr b (by omega) (by omega) (Or.inl rfl) hBb ⟨A, C, V, fun _ => Nat.le_refl _, fun _ => rfl, fun q => absurd q ot_01, fun f g q => by omega⟩⟩
      rcases hc' with q | q
      · subst q
        have e := B'.2.2.2.2.1 rfl
        subst e
        exact ih 0 rz' yd' yr' b' (Or.inl rfl) (by rw [if_pos rfl]; omega) (fun _ => ot_LBy T0 hBb'.1 B') hBb' B'.1 B'.2.1 B'.2.2.1
      · subst q
        have := B'.2.2.2.2.2.1 rfl
        exact ih 1 rz' yd' yr' b' (Or.inr rfl) (by rw [if_neg ot_01']; omega) (fun q => absurd q ot_01') hBb' B'.1 B'.2.1 B'.2.2.1
  refine loop_0 (fun fu p (yd : Nat → Int32) => wY_findBounds_2 post x1 (nI n) (nI d) (nI m) rz fu (nI p) aC aN aE aB aG yl yf ym yb yd yr) (fun p yd => ∀ q, q < p → yd q = 1000000) 400 yd (fun q hq => by omega) ?_ ?_
  · intro fu yd hI
    refine br_t (by decide) ⟨_, key (ot_sm (fun _ => 1000000) 400 + 2) 1 rz yd yr (fun _ => 1000000) (Or.inr rfl) (by rw [if_neg ot_01']; omega) (fun q => absurd q ot_01') ⟨fun _ => Nat.le_refl _, fun p hp => hI p hp⟩ (fun p _ q => absurd q (Nat.lt_irrefl _)) (fun _ _ _ _ _ _ => rfl) (fun _ _ _ _ _ => rfl)⟩
  · intro fu p yd hp hI ih
    exact br_f (nI_ge (b := 400) hp (by decide)) ⟨vp_in_nI hp (by omega), nm_r (e' := upd yd p 1000000) (by rw [nI_clamp (by omega)]) (nm_r (nI_1 p) (ih _ (lt_s (fun q hq => by rw [pk_un (by omega)]; exact hI q hq) pk_us)))⟩
end
