/-! relaxed: the reference -/
def ot_BR (x : Int32) (h : Nat → Prop) : Prop := (∀ f, f < 20 → (bt x f = true ↔ h f)) ∧ ∀ f, h f → f < 20
theorem ot_bt1 : ∀ f, f < 20 → ∀ i, i < 20 → bt ((1 : Int32) <<< (nI f &&& 31)) i = decide (i = f) := by decide +kernel
theorem ot_bit (x : Int32) {f : Nat} (hf : f < 20) : ((x >>> (nI f &&& 31)) &&& 1) = 0 ↔ bt x f = false := by
  have a := b_sshr f (by omega) x (i := 0) (by omega)
  rw [if_pos (by omega), Nat.add_zero] at a
  rw [pk_and _ 1 (by decide)]
  have b : bt (x >>> (nI f &&& 31)) 0 = decide ((x >>> (nI f &&& 31)).toBitVec.toNat % 2 = 1) := Nat.testBit_zero _
  rw [← a, b]
  have l : (x >>> (nI f &&& 31)).toBitVec.toNat % 2 ^ 1 < 2 := Nat.mod_lt _ (by decide)
  rw [show (2 : Nat) ^ 1 = 2 from rfl] at *
  rw [show (0 : Int32) = nI 0 from rfl, nI_eq (by omega) (by omega), decide_eq_false_iff_not]
  omega
theorem ot_BRup {x : Int32} {h h' : Nat → Prop} {f : Nat} (H : ot_BR x h) (hf : f < 20) (e : ∀ q, h' q ↔ h q ∨ q = f) : ot_BR (x ||| ((1 : Int32) <<< (nI f &&& 31))) h' := by
  refine ⟨fun q hq => ?_, fun q hq => ?_⟩
  · rw [b_or, ot_bt1 f hf q hq, Bool.or_eq_true, decide_eq_true_eq, e, H.1 q hq]
  · rcases (e q).mp hq with z | z
    · exact H.2 q z
    · omega
theorem ot_BRor {x y : Int32} {h g h' : Nat → Prop} (H : ot_BR x h) (G : ot_BR y g) (e : ∀ q, h' q ↔ h q ∨ g q) : ot_BR (x ||| y) h' := by
  refine ⟨fun q hq => ?_, fun q hq => ?_⟩
  · rw [b_or, Bool.or_eq_true, e, H.1 q hq, G.1 q hq]
  · exact ((e q).mp hq).elim (H.2 q) (G.2 q)
theorem ot_BRc {x : Int32} {h h' : Nat → Prop} (H : ot_BR x h) (e : ∀ q, h' q ↔ h q) : ot_BR x h' := ⟨fun q hq => (H.1 q hq).trans (e q).symm, fun q hq => H.2 q ((e q).mp hq)⟩
theorem ot_BR0 : ot_BR 0 (fun _ => False) := ⟨fun f _ => by rw [b_0]; exact ⟨fun z => absurd z (by decide), fun z => z.elim⟩, fun _ z => z.elim⟩
section
variable {n d m : Nat} {co ne ef be go : Nat → Nat} {aC aN aE aB aG yl yf ym yb yd yr : Nat → Int32} {rz : Int32} {h : Nat → Prop} {x : Int32} {c : Nat}
theorem oy_hasN (T : ot_T n d m co ne ef be go aC aN aE aB aG) (H : ot_BR x h) {o : Nat} (ho : o < 10) {post : Int32 → Prop} (h1 : ot_nd n ne h o → post 1) (h0 : ¬ ot_nd n ne h o → post 0) : wpY_hasAll post (nI n, nI d, nI m, rz, aC, aN, aE, aB, aG, yl, yf, ym, yb, yd, yr) (nI o) x := by
  obtain ⟨⟨⟨hn1, hn⟩, ⟨hd1, hd⟩, hm⟩, ⟨hC, hco⟩, ⟨hN, hne⟩, ⟨hE, hef⟩, ⟨hB, hbe⟩, ⟨hG, hgo⟩⟩ := T
  refine loop_0 (σ := Unit) (fun fu v _ => wY_hasAll_2 post (nI o) x (nI n) (nI d) (nI m) rz aC aN aE aB aG yl yf ym yb yd yr fu (nI v)) (fun v _ => ∀ u, u < v → ne (5 * o + u) ≠ 0 → h (4 * u + (ne (5 * o + u) - 1))) n () (fun u hu => by omega) ?_ ?_
  · intro fu _ hI
    exact br_t (nI_le (Nat.le_refl _) (by omega)) (h1 hI)
  · intro fu v _ hv hI ih
    have b := hne (5 * o + v)
    have e5 : 5 * nI o + nI v = nI (5 * o + v) := by rw [show 5 * nI o = nI (5 * o) from pk_mul 5 o, nI_add]
    refine br_f (nI_ge hv (by omega)) (br_t (nI_pos' (by omega)) ?_)
    rw [e5]
    refine ⟨vp_in_nI (by omega) (by omega), ?_⟩
    rw [nI_clamp (by omega), hN _ (by omega)]
    rcases Classical.em (ne (5 * o + v) = 0) with z | z
    · exact br_t ((ot_rvn _ (by omega)).mpr z) (nm_r (nI_1 v) (ih () (lt_s hI (fun y => absurd z y))))
    · refine br_f (fun y => z ((ot_rvn _ (by omega)).mp y)) ?_
      have e4 : 4 * nI v + nI (ne (5 * o + v) - 1) = nI (4 * v + (ne (5 * o + v) - 1)) := by rw [show 4 * nI v = nI (4 * v) from pk_mul 4 v, nI_add]
      rw [ot_rvp z, e4]
      have bt' := ot_bit x (f := 4 * v + (ne (5 * o + v) - 1)) (by omega)
      have hh := H.1 (4 * v + (ne (5 * o + v) - 1)) (by omega)
      rcases Classical.em (h (4 * v + (ne (5 * o + v) - 1))) with y | y
      · exact br_f (fun w => by rw [bt'.mp w] at hh; exact absurd (hh.mpr y) (by decide)) (nm_r (nI_1 v) (ih () (lt_s hI (fun _ => y))))
      · refine br_t (bt'.mpr ?_) (h0 (fun q => y (q v hv z)))
        rcases e : bt x (4 * v + (ne (5 * o + v) - 1)) with _ | _
        · rfl
        · exact absurd (hh.mp e) y
theorem oy_hasG (T : ot_T n d m co ne ef be go aC aN aE aB aG) (H : ot_BR x h) {post : Int32 → Prop} (h1 : ot_gh n go h → post 1) (h0 : ¬ ot_gh n go h → post 0) : wpY_hasAll post (nI n, nI d, nI m, rz, aC, aN, aE, aB, aG, yl, yf, ym, yb, yd, yr) (-1) x := by
  obtain ⟨⟨⟨hn1, hn⟩, ⟨hd1, hd⟩, hm⟩, ⟨hC, hco⟩, ⟨hN, hne⟩, ⟨hE, hef⟩, ⟨hB, hbe⟩, ⟨hG, hgo⟩⟩ := T
  refine loop_0 (σ := Unit) (fun fu v _ => wY_hasAll_2 post (-1) x (nI n) (nI d) (nI m) rz aC aN aE aB aG yl yf ym yb yd yr fu (nI v)) (fun v _ => ∀ u, u < v → go u ≠ 0 → h (4 * u + (go u - 1))) n () (fun u hu => by omega) ?_ ?_
  · intro fu _ hI
    exact br_t (nI_le (Nat.le_refl _) (by omega)) (h1 hI)
  · intro fu v _ hv hI ih
    have b := hgo v
    refine br_f (nI_ge hv (by omega)) (br_f (by decide) ⟨vp_in_nI (by omega) (by omega), ?_⟩)
    rw [nI_clamp (by omega), hG _ (by omega)]
    rcases Classical.em (go v = 0) with z | z
    · exact br_t ((ot_rvn _ (by omega)).mpr z) (nm_r (nI_1 v) (ih () (lt_s hI (fun y => absurd z y))))
    · refine br_f (fun y => z ((ot_rvn _ (by omega)).mp y)) ?_
      have e4 : 4 * nI v + nI (go v - 1) = nI (4 * v + (go v - 1)) := by rw [show 4 * nI v = nI (4 * v) from pk_mul 4 v, nI_add]
      rw [ot_rvp z, e4]
      have bt' := ot_bit x (f := 4 * v + (go v - 1)) (by omega)
      have hh := H.1 (4 * v + (go v - 1)) (by omega)
      rcases Classical.em (h (4 * v + (go v - 1))) with y | y
      · exact br_f (fun w => by rw [bt'.mp w] at hh; exact absurd (hh.mpr y) (by decide)) (nm_r (nI_1 v) (ih () (lt_s hI (fun _ => y))))
      · refine br_t (bt'.mpr ?_) (h0 (fun q => y (q v hv z)))
        rcases e : bt x (4 * v + (go v - 1)) with _ | _
        · rfl
        · exact absurd (hh.mp e) y
theorem oy_factsOf (T : ot_T n d m co ne ef be go aC aN aE aB aG) {o : Nat} (ho : o < 10) {post : Int32 → Prop} (hP : ∀ y, ot_BR y (ot_ad n ef o (fun _ => False) n) → post y) : wpY_factsOf post (nI n, nI d, nI m, rz, aC, aN, aE, aB, aG, yl, yf, ym, yb, yd, yr) (nI o) := by
  obtain ⟨⟨⟨hn1, hn⟩, ⟨hd1, hd⟩, hm⟩, ⟨hC, hco⟩, ⟨hN, hne⟩, ⟨hE, hef⟩, ⟨hB, hbe⟩, ⟨hG, hgo⟩⟩ := T
  refine loop_0 (fun fu v (y : Int32) => wY_factsOf_4 post (nI o) (nI n) (nI d) (nI m) rz aC aN aE aB aG yl yf ym yb yd yr fu y (nI v)) (fun v y => ot_BR y (ot_ad n ef o (fun _ => False) v)) n 0 (ot_BRc ot_BR0 (fun q => ⟨fun z => z.elim id (fun ⟨u, hu, _⟩ => by omega), Or.inl⟩)) ?_ ?_
  · intro fu y hI
    exact br_t (nI_le (Nat.le_refl _) (by omega)) (hP y hI)
  · intro fu v y hv hI ih
    have b := hef (5 * o + v)
    have e5 : 5 * nI o + nI v = nI (5 * o + v) := by rw [show 5 * nI o = nI (5 * o) from pk_mul 5 o, nI_add]
    refine br_f (nI_ge hv (by omega)) ⟨by rw [e5]; exact vp_in_nI (by omega) (by omega), nm_r (e' := ot_rv (ef (5 * o + v))) (by rw [e5, nI_clamp (by omega), hE _ (by omega)]) ?_⟩
    rcases Classical.em (ef (5 * o + v) = 0) with z | z
    · refine br_t ((ot_rvn _ (by omega)).mpr z) (nm_r (nI_1 v) (ih _ (ot_BRc hI (fun q => ?_))))
      constructor
      · intro w
        rcases w with w | ⟨u, hu, w, e⟩
        · exact Or.inl w
        · rcases Classical.em (u = v) with g | g
          · subst g; exact absurd z w
          · exact Or.inr ⟨u, by omega, w, e⟩
      · intro w
        exact w.imp id (fun ⟨u, hu, w, e⟩ => ⟨u, by omega, w, e⟩)
    · refine br_f (fun w => z ((ot_rvn _ (by omega)).mp w)) ?_
      have e4 : 4 * nI v + nI (ef (5 * o + v) - 1) = nI (4 * v + (ef (5 * o + v) - 1)) := by rw [show 4 * nI v = nI (4 * v) from pk_mul 4 v, nI_add]
      rw [ot_rvp z, e4]
      refine nm_e (nm_r (nI_1 v) (ih _ (ot_BRup hI (by omega) (fun q => ?_))))
      constructor
      · intro w
        rcases w with w | ⟨u, hu, w, e⟩
        · exact Or.inl (Or.inl w)
        · rcases Classical.em (u = v) with g | g
          · subst g; exact Or.inr e
          · exact Or.inl (Or.inr ⟨u, by omega, w, e⟩)
      · intro w
        rcases w with w | e
        · exact w.imp id (fun ⟨u, hu, w, e⟩ => ⟨u, by omega, w, e⟩)
        · exact Or.inr ⟨v, by omega, z, e⟩
theorem oy_comes (T : ot_T n d m co ne ef be go aC aN aE aB aG) {post : Int32 → Prop} (h1 : ot_gh n go (ot_F n m ne ef be (ot_ch c)) → post 1) (h0 : ¬ ot_gh n go (ot_F n m ne ef be (ot_ch c)) → post 0) : wpY_comes post (nI n, nI d, nI m, rz, aC, aN, aE, aB, aG, yl, yf, ym, yb, yd, yr) (nI c) := by
  have T0 := T
  obtain ⟨⟨⟨hn1, hn⟩, ⟨hd1, hd⟩, hm⟩, ⟨hC, hco⟩, ⟨hN, hne⟩, ⟨hE, hef⟩, ⟨hB, hbe⟩, ⟨hG, hgo⟩⟩ := T
  have em10 : 10 * nI m = nI (10 * m) := pk_mul 10 m
  have fin : ∀ fu j x h i, i = 10 * m → m ≤ j → ot_BR x h → ot_rj n m ne ef be (ot_ch c) j h → wY_comes_35 post (nI c) (nI n) (nI d) (nI m) rz aC aN aE aB aG yl yf ym yb yd yr (fu + 1) x (nI i) := fun fu j x h i hi hj H hR => by
    have ef' := fun f => ot_rje hR hj f
    refine br_t (by rw [em10]; exact nI_le (by omega) (by omega)) (oy_hasG T0 H (fun g => ⟨rfl, h1 (fun v hv hz => (ef' _).mp (g v hv hz))⟩) (fun g => ⟨rfl, h0 (fun q => g (fun v hv hz => (ef' _).mpr (q v hv hz)))⟩))
  have key : ∀ fu j o x h hh, 0 < m → o < m → j < 10 → 10 * m - (m * j + o) < fu → ot_BR x h → ot_rj n m ne ef be (ot_ch c) j hh → ot_RI n m ne ef be (ot_ch c) o hh h → wY_comes_35 post (nI c) (nI n) (nI d) (nI m) rz aC aN aE aB aG yl yf ym yb yd yr fu x (nI (m * j + o)) := by
    intro fu
    induction fu with
    | zero => intro j o x h hh _ _ _ h; omega
    | succ fu ih =>
    intro j o x h hh m0 ho hj hfu H hR hI
    have mj : m * j + m ≤ 10 * m := by
      have : m * (j + 1) ≤ m * 10 := Nat.mul_le_mul_left m (by omega)
      rw [Nat.mul_succ] at this
      omega
    have er : nI (m * j + o) - nI (m * j + o) / nI m * nI m = nI o := by
      rw [pk_rem (by omega) m0 (by omega), Nat.mul_add_mod, Nat.mod_eq_of_lt ho]
    have go1 : ∀ x h, ot_BR x h → ot_RI n m ne ef be (ot_ch c) (o + 1) hh h → wY_comes_35 post (nI c) (nI n) (nI d) (nI m) rz aC aN aE aB aG yl yf ym yb yd yr fu x (nI (m * j + o + 1)) := fun x h H hI => by
      rcases Nat.lt_or_ge (o + 1) m with z | z
      · exact ih j (o + 1) x h hh m0 z hj (by omega) H hR hI
      · have eo : o + 1 = m := by omega
        rw [eo] at hI
        have hR' := ot_RIe hR hI
        rcases Nat.lt_or_ge (j + 1) 10 with y | y
        · have := ih (j + 1) 0 x h h m0 m0 y (by rw [Nat.mul_succ]; omega) H hR' (ot_RI0 hR')
          rw [show m * (j + 1) + 0 = m * j + o + 1 by rw [Nat.mul_succ]; omega] at this
          exact this
        · obtain ⟨fu', rfl⟩ : ∃ q, fu = q + 1 := ⟨fu - 1, by omega⟩
          have ej : j = 9 := by omega
          subst ej
          exact fin fu' 10 x h _ (by omega) hm H hR'
    refine br_f (by rw [em10]; exact nI_ge (by omega) (by omega)) ⟨nI_ne0 m0 (by omega), nm_r er (br_c (fun hc => ?_) (fun hc => nm_r (nI_1 _) (go1 x h H (ot_RIn hI (fun q => hc q.1)))))⟩
    refine oy_hasN T0 H (by omega) (fun hn' => br_f ot_01' (oy_factsOf T0 (by omega) (fun y Hy => nm_e (nm_r (nI_1 _) ?_)))) (fun hn' => br_t rfl (nm_r (nI_1 _) (go1 x h H (ot_RIn hI (fun q => hn' q.2)))))
    refine go1 _ _ (ot_BRor H Hy (fun q => ?_)) (ot_RIs hI ho hc hn')
    exact ⟨fun w => w.imp id (fun u => Or.inr u), fun w => w.imp id (fun u => u.elim (fun z => z.elim) id)⟩
  refine loop_0 (fun fu v (y : Int32) => wY_comes_4 post (nI c) (nI n) (nI d) (nI m) rz aC aN aE aB aG yl yf ym yb yd yr fu y (nI v)) (fun v y => ot_BR y (fun f => ∃ u, u < v ∧ f = 4 * u + be u)) n 0 (ot_BRc ot_BR0 (fun q => ⟨fun ⟨u, hu, _⟩ => by omega, fun z => z.elim⟩)) ?_ ?_
  · intro fu y hI
    have r0 : ot_rj n m ne ef be (ot_ch c) 0 (fun f => ∃ u, u < n ∧ f = 4 * u + be u) := ot_rj0 (fun v hv => ⟨v, hv, rfl⟩) (fun f ⟨u, hu, e⟩ => by rw [e]; exact ot_F0 hu)
    refine br_t (nI_le (Nat.le_refl _) (by omega)) ?_
    rcases Nat.eq_zero_or_pos m with z | z
    · exact ⟨1, fin 0 0 y _ 0 (by omega) (by omega) hI r0⟩
    · exact ⟨10 * m + 1, key (10 * m + 1) 0 0 y _ _ z z (by omega) (by omega) hI r0 (ot_RI0 r0)⟩
  · intro fu v y hv hI ih
    have b := hbe v
    have e4 : 4 * nI v + nI (be v) = nI (4 * v + be v) := by rw [show 4 * nI v = nI (4 * v) from pk_mul 4 v, nI_add]
    refine br_f (nI_ge hv (by omega)) ⟨vp_in_nI (by omega) (by omega), ?_⟩
    rw [nI_clamp (by omega), hB _ (by omega), e4]
    refine nm_e (nm_r (nI_1 v) (ih _ (ot_BRup hI (by omega) (fun q => ?_))))
    constructor
    · intro ⟨u, hu, e⟩
      rcases Classical.em (u = v) with z | z
      · subst z; exact Or.inr e
      · exact Or.inl ⟨u, by omega, e⟩
    · intro z
      rcases z with ⟨u, hu, e⟩ | e
      · exact ⟨u, by omega, e⟩
      · exact ⟨v, by omega, e⟩
theorem oy_relaxed (T : ot_T n d m co ne ef be go aC aN aE aB aG) {post : Int32 → Prop} (h1 : ot_rb (fun c => ot_sc co (ot_ch c) m) (fun c => ot_gh n go (ot_F n m ne ef be (ot_ch c))) 1000000 (2 ^ m) = 1000000 → post (-3)) (h0 : ot_rb (fun c => ot_sc co (ot_ch c) m) (fun c => ot_gh n go (ot_F n m ne ef be (ot_ch c))) 1000000 (2 ^ m) ≠ 1000000 → post (nI (ot_rb (fun c => ot_sc co (ot_ch c) m) (fun c => ot_gh n go (ot_F n m ne ef be (ot_ch c))) 1000000 (2 ^ m)))) : wpY_relaxed post (nI n, nI d, nI m, rz, aC, aN, aE, aB, aG, yl, yf, ym, yb, yd, yr) := by
  have T0 := T
  obtain ⟨⟨⟨hn1, hn⟩, ⟨hd1, hd⟩, hm⟩, ⟨hC, hco⟩, ⟨hN, hne⟩, ⟨hE, hef⟩, ⟨hB, hbe⟩, ⟨hG, hgo⟩⟩ := T
  have pm : 2 ^ m ≤ 1024 := Nat.pow_le_pow_right (n := 2) (by decide) hm
  have s90 : ∀ c, ot_sc co (ot_ch c) m ≤ 90 := fun c => by have := ot_scle hco (ot_ch c) m; omega
  have rb := ot_rbeq (S := fun c => ot_sc co (ot_ch c) m) (G := fun c => ot_gh n go (ot_F n m ne ef be (ot_ch c))) (I := 1000000) (J := 1000000) s90 (by omega) (by omega)
  refine loop_0 (σ := Unit) (fun fu c _ => wY_relaxed_5 post (nI n) (nI d) (nI m) rz aC aN aE aB aG yl yf ym yb yd yr fu (nI (ot_rb (fun c => ot_sc co (ot_ch c) m) (fun c => ot_gh n go (ot_F n m ne ef be (ot_ch c))) 1000000 c)) (nI c)) (fun _ _ => True) (2 ^ m) () trivial ?_ ?_
  · intro fu _ _
    refine br_t (by rw [ot_p2 m (by omega)]; exact nI_le (Nat.le_refl _) (by omega)) ?_
    rcases rb (2 ^ m) with ⟨e, _⟩ | ⟨_, e⟩
    · exact br_f (by rw [e]; decide) (h1 e)
    · exact br_t (by have := nI_lt (b := 1000000) (Nat.lt_of_le_of_lt e (by omega)) (by omega); exact this) (h0 (by omega))
  · intro fu c _ hc _ ih
    have ih := ih () trivial
    have sc := s90 c
    have q9 : ot_rb (fun c => ot_sc co (ot_ch c) m) (fun c => ot_gh n go (ot_F n m ne ef be (ot_ch c))) 1000000 c ≤ 1000000 := by
      rcases rb c with ⟨e, _⟩ | ⟨_, e⟩ <;> omega
    refine br_f (by rw [ot_p2 m (by omega)]; exact nI_ge hc (by omega)) ?_
    refine loop_0 (σ := Unit) (fun fu' o _ => wY_relaxed_20 post (wY_relaxed_5 post (nI n) (nI d) (nI m) rz aC aN aE aB aG yl yf ym yb yd yr fu) (nI (ot_rb (fun c => ot_sc co (ot_ch c) m) (fun c => ot_gh n go (ot_F n m ne ef be (ot_ch c))) 1000000 c)) (nI c) (nI n) (nI d) (nI m) rz aC aN aE aB aG yl yf ym yb yd yr fu' (nI (ot_sc co (ot_ch c) o)) (nI o)) (fun _ _ => True) m () trivial ?_ ?_
    · intro fu' _ _
      refine br_t (nI_le (Nat.le_refl _) (by omega)) ?_
      rcases Nat.lt_or_ge (ot_sc co (ot_ch c) m) (ot_rb (fun c => ot_sc co (ot_ch c) m) (fun c => ot_gh n go (ot_F n m ne ef be (ot_ch c))) 1000000 c) with z | z
      · refine br_f (nI_ge z (by omega)) (oy_comes T0 (fun g => br_f ot_01' (nm_r (nI_1 c) ?_)) (fun g => br_t rfl (nm_r (nI_1 c) ?_)))
        · rw [ot_rbt ⟨z, g⟩] at ih
          exact ih
        · rw [ot_rbf (fun y => g y.2)] at ih
          exact ih
      · refine br_t (nI_le z (by omega)) (nm_r (nI_1 c) ?_)
        rw [ot_rbf (fun y => by have := y.1; omega)] at ih
        exact ih
    · intro fu' o _ ho _ ih'
      have ih' : wY_relaxed_20 post (wY_relaxed_5 post (nI n) (nI d) (nI m) rz aC aN aE aB aG yl yf ym yb yd yr fu) (nI (ot_rb (fun c => ot_sc co (ot_ch c) m) (fun c => ot_gh n go (ot_F n m ne ef be (ot_ch c))) 1000000 c)) (nI c) (nI n) (nI d) (nI m) rz aC aN aE aB aG yl yf ym yb yd yr fu' (nI (ot_sc co (ot_ch c) o + b01 (ot_ch c o) * co o)) (nI (o + 1)) := ih' () trivial
      refine br_f (nI_ge ho (by omega)) ?_
      rcases Classical.em (ot_ch c o) with z | z
      · rw [b01_t z, Nat.one_mul] at ih'
        exact br_t z ⟨vp_in_nI (by omega) (by omega), nm_r (e' := nI (ot_sc co (ot_ch c) o + co o)) (by rw [nI_clamp (by omega), hC o (by omega), nI_add]) (nm_r (nI_1 o) ih')⟩
      · rw [b01_f z, Nat.zero_mul] at ih'
        exact br_f z (nm_r (nI_1 o) ih')
end
theorem i_vc_relaxed {k : Nat} {u : SX} {v : SY} (I : i_Rel k u v) (hk : k + 5 ≤ 2562) : wpX_relaxed (fun r u' => wpY_relaxed (fun r' => r' = r ∧ i_Rel (k + 5) u' v) v) u := by
  obtain ⟨n, d, m, co, ne, ef, be, go, aC, aN, aE, aB, aG, mt, lc, rz, od, sn, mv, rm, bd, ls, ah, yl, yf, ym, yb, yd, yr, rfl, rfl, T⟩ := I
  have s90 : ∀ c, ot_sc co (ot_ch c) m ≤ 90 := fun c => by have := ot_scle T.2.1.2 (ot_ch c) m; have := T.1.2.2; omega
  have rb := ot_rbeq (S := fun c => ot_sc co (ot_ch c) m) (G := fun c => ot_gh n go (ot_F n m ne ef be (ot_ch c))) (I := 1000000000) (J := 1000000) s90 (by omega) (by omega) (2 ^ m)
  refine ox_relaxed T (fun e ah => oy_relaxed T (fun e' => ⟨rfl, i_mk T⟩) (fun e' => ?_)) (fun e ah => oy_relaxed T (fun e' => ?_) (fun e' => ⟨?_, i_mk T⟩))
  · rcases rb with ⟨_, q⟩ | ⟨_, q⟩
    · exact absurd q e'
    · omega
  · rcases rb with ⟨q, _⟩ | ⟨q, q2⟩
    · exact absurd q e
    · omega
  · rcases rb with ⟨q, _⟩ | ⟨q, q2⟩
    · exact absurd q e
    · rw [q]
