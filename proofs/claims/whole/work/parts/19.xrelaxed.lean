/-! relaxed: the component -/
def ot_HR (ah : Nat → Int32) (h : Nat → Prop) : Prop := (∀ f, f < 20 → (ah f = 1 ∧ h f) ∨ (ah f = 0 ∧ ¬ h f)) ∧ ∀ f, h f → f < 20
theorem ot_HRup {ah : Nat → Int32} {h h' : Nat → Prop} {f : Nat} (H : ot_HR ah h) (hf : f < 20) (e : ∀ q, h' q ↔ h q ∨ q = f) : ot_HR (upd ah f 1) h' := by
  refine ⟨fun q hq => ?_, fun q hq => ?_⟩
  · rcases Classical.em (q = f) with z | z
    · rw [z, pk_us]; exact Or.inl ⟨rfl, (e f).mpr (Or.inr rfl)⟩
    · rw [pk_un z]
      exact (H.1 q hq).imp (fun y => ⟨y.1, (e q).mpr (Or.inl y.2)⟩) (fun y => ⟨y.1, fun w => ((e q).mp w).elim y.2 z⟩)
  · rcases (e q).mp hq with z | z
    · exact H.2 q z
    · omega
theorem ot_HRc {ah : Nat → Int32} {h h' : Nat → Prop} (H : ot_HR ah h) (e : ∀ q, h' q ↔ h q) : ot_HR ah h' := ⟨fun q hq => (H.1 q hq).imp (fun y => ⟨y.1, (e q).mpr y.2⟩) (fun y => ⟨y.1, fun w => y.2 ((e q).mp w)⟩), fun q hq => H.2 q ((e q).mp hq)⟩
def ot_gh (n : Nat) (go : Nat → Nat) (h : Nat → Prop) : Prop := ∀ v, v < n → go v ≠ 0 → h (4 * v + (go v - 1))
def ot_ch (c : Nat) (o : Nat) : Prop := ((nI c >>> (nI o &&& 31)) &&& 1) = 1
/-- a round so far: h0 at its beginning, h now, o operators looked at -/
def ot_RI (n m : Nat) (ne ef be : Nat → Nat) (ch : Nat → Prop) (o : Nat) (h0 h : Nat → Prop) : Prop := (∀ f, h0 f → h f) ∧ (∀ f, h f → ot_F n m ne ef be ch f) ∧ ∀ o', o' < o → ch o' → ot_nd n ne h0 o' → ∀ v, v < n → ef (5 * o' + v) ≠ 0 → h (4 * v + (ef (5 * o' + v) - 1))
def ot_ad (n : Nat) (ef : Nat → Nat) (o : Nat) (h : Nat → Prop) (v f : Nat) : Prop := h f ∨ ∃ u, u < v ∧ ef (5 * o + u) ≠ 0 ∧ f = 4 * u + (ef (5 * o + u) - 1)
theorem ot_RIs {n m : Nat} {ne ef be : Nat → Nat} {ch h0 h : Nat → Prop} {o : Nat} (H : ot_RI n m ne ef be ch o h0 h) (ho : o < m) (hc : ch o) (hn : ot_nd n ne h o) : ot_RI n m ne ef be ch (o + 1) h0 (ot_ad n ef o h n) := by
  refine ⟨fun f hf => Or.inl (H.1 f hf), fun f hf => ?_, fun o' ho' hc' hn' v hv he => ?_⟩
  · rcases hf with hf | ⟨u, hu, he, e⟩
    · exact H.2.1 f hf
    · rw [e]; exact ot_Fcl o ho hc (fun v hv hz => H.2.1 _ (hn v hv hz)) u hu he
  · rcases Nat.lt_or_ge o' o with z | z
    · exact Or.inl (H.2.2 o' z hc' hn' v hv he)
    · have e : o' = o := by omega
      subst e
      exact Or.inr ⟨v, hv, he, rfl⟩
theorem ot_RIn {n m : Nat} {ne ef be : Nat → Nat} {ch h0 h : Nat → Prop} {o : Nat} (H : ot_RI n m ne ef be ch o h0 h) (hno : ¬ (ch o ∧ ot_nd n ne h o)) : ot_RI n m ne ef be ch (o + 1) h0 h := by
  refine ⟨H.1, H.2.1, fun o' ho' hc' hn' v hv he => ?_⟩
  rcases Nat.lt_or_ge o' o with z | z
  · exact H.2.2 o' z hc' hn' v hv he
  · have e : o' = o := by omega
    subst e
    exact absurd ⟨hc', fun u hu hz => H.1 _ (hn' u hu hz)⟩ hno
theorem ot_RI0 {n m j : Nat} {ne ef be : Nat → Nat} {ch h : Nat → Prop} (H : ot_rj n m ne ef be ch j h) : ot_RI n m ne ef be ch 0 h h := ⟨fun _ z => z, H.2.1, fun o' ho' => by omega⟩
theorem ot_RIe {n m j : Nat} {ne ef be : Nat → Nat} {ch h0 h : Nat → Prop} (Hj : ot_rj n m ne ef be ch j h0) (H : ot_RI n m ne ef be ch m h0 h) : ot_rj n m ne ef be ch (j + 1) h := ot_rjs Hj H.1 H.2.1 (fun o ho hc hn v hv he => H.2.2 o ho hc hn v hv he)
noncomputable def ot_sc (co : Nat → Nat) (ch : Nat → Prop) : Nat → Nat
  | 0 => 0
  | o + 1 => ot_sc co ch o + b01 (ch o) * co o
theorem ot_scle {co : Nat → Nat} (hc : ∀ o, co o ≤ 9) (ch : Nat → Prop) : ∀ m, ot_sc co ch m ≤ 9 * m
  | 0 => Nat.le_refl _
  | m + 1 => by
    have a := ot_scle hc ch m
    have b := hc m
    show ot_sc co ch m + b01 (ch m) * co m ≤ 9 * (m + 1)
    rcases Classical.em (ch m) with z | z
    · rw [b01_t z]; omega
    · rw [b01_f z]; omega
noncomputable def ot_rb (S : Nat → Nat) (G : Nat → Prop) (I : Nat) : Nat → Nat
  | 0 => I
  | c + 1 => @ite Nat (S c < ot_rb S G I c ∧ G c) (Classical.propDecidable _) (S c) (ot_rb S G I c)
theorem ot_rbt {S : Nat → Nat} {G : Nat → Prop} {I c : Nat} (h : S c < ot_rb S G I c ∧ G c) : ot_rb S G I (c + 1) = S c := if_pos h
theorem ot_rbf {S : Nat → Nat} {G : Nat → Prop} {I c : Nat} (h : ¬ (S c < ot_rb S G I c ∧ G c)) : ot_rb S G I (c + 1) = ot_rb S G I c := if_neg h
theorem ot_rbeq {S : Nat → Nat} {G : Nat → Prop} {I J : Nat} (hS : ∀ c, S c ≤ 90) (hI : 90 < I) (hJ : 90 < J) : ∀ c, (ot_rb S G I c = I ∧ ot_rb S G J c = J) ∨ (ot_rb S G I c = ot_rb S G J c ∧ ot_rb S G I c ≤ 90)
  | 0 => Or.inl ⟨rfl, rfl⟩
  | c + 1 => by
    have a := hS c
    rcases ot_rbeq (G := G) hS hI hJ c with ⟨e1, e2⟩ | ⟨e1, e2⟩
    · rcases Classical.em (G c) with z | z
      · rw [ot_rbt ⟨by omega, z⟩, ot_rbt ⟨by omega, z⟩]; exact Or.inr ⟨rfl, a⟩
      · rw [ot_rbf (fun y => z y.2), ot_rbf (fun y => z y.2)]; exact Or.inl ⟨e1, e2⟩
    · rcases Classical.em (S c < ot_rb S G I c ∧ G c) with z | z
      · rw [ot_rbt z, ot_rbt (by rw [← e1]; exact z)]; exact Or.inr ⟨rfl, a⟩
      · rw [ot_rbf z, ot_rbf (by rw [← e1]; exact z)]; exact Or.inr ⟨e1, e2⟩
section
variable {n d m : Nat} {co ne ef be go : Nat → Nat} {aC aN aE aB aG od sn mv rm bd ls ah : Nat → Int32} {mt lc : Int32} {h : Nat → Prop} {ch : Nat → Prop} {c : Nat}
theorem ox_holdB (T : ot_T n d m co ne ef be go aC aN aE aB aG) (H : ot_HR ah (fun _ => False)) {post : SX → Prop} (hP : ∀ ah, ot_HR ah (fun f => ∃ u, u < n ∧ f = 4 * u + be u) → post (nI n, nI d, nI m, mt, lc, aC, aN, aE, aB, aG, od, sn, mv, rm, bd, ls, ah)) : wpX_holdAll__starts post (nI n, nI d, nI m, mt, lc, aC, aN, aE, aB, aG, od, sn, mv, rm, bd, ls, ah) 0 := by
  obtain ⟨⟨⟨hn1, hn⟩, ⟨hd1, hd⟩, hm⟩, ⟨hC, hco⟩, ⟨hN, hne⟩, ⟨hE, hef⟩, ⟨hB, hbe⟩, ⟨hG, hgo⟩⟩ := T
  refine loop_0 (fun fu v (ah : Nat → Int32) => wX_holdAll__starts_2 post 0 (nI n) (nI d) (nI m) mt lc fu (nI v) aC aN aE aB aG od sn mv rm bd ls ah) (fun v ah => ot_HR ah (fun f => ∃ u, u < v ∧ f = 4 * u + be u)) n ah (ot_HRc H (fun q => ⟨fun ⟨u, hu, _⟩ => by omega, fun z => z.elim⟩)) ?_ ?_
  · intro fu ah hI
    exact br_t (nI_le (Nat.le_refl _) (by omega)) (hP ah hI)
  · intro fu v ah hv hI ih
    have b := hbe v
    have e0 : (0 : Int32) + nI v = nI v := Int32.zero_add _
    have e4 : nI v * 4 + nI (be v) = nI (4 * v + be v) := by rw [show nI v * 4 = nI (v * 4) from pk_mul v 4, nI_add, Nat.mul_comm]
    refine br_f (nI_ge hv (by omega)) ⟨by rw [e0]; exact vp_in_nI (by omega) (by omega), nm_r (e' := nI (be v)) (by rw [e0, nI_clamp (by omega), hB _ (by omega)]) (br_f (ot_nn (by omega)).1 ⟨by rw [e4]; exact vp_in_nI (by omega) (by omega), nm_r (e' := upd ah (4 * v + be v) 1) (by rw [e4, nI_clamp (by omega)]; rfl) (nm_r (nI_1 v) (ih _ (ot_HRup hI (by omega) (fun q => ?_))))⟩)⟩
    constructor
    · intro ⟨u, hu, e⟩
      rcases Classical.em (u = v) with z | z
      · subst z; exact Or.inr e
      · exact Or.inl ⟨u, by omega, e⟩
    · intro z
      rcases z with ⟨u, hu, e⟩ | e
      · exact ⟨u, by omega, e⟩
      · exact ⟨v, by omega, e⟩
theorem ox_holdE (T : ot_T n d m co ne ef be go aC aN aE aB aG) (H : ot_HR ah h) {o : Nat} (ho : o < 10) {x2 : Int32} (e2 : x2 = nI (5 * o)) {post : SX → Prop} (hP : ∀ ah, ot_HR ah (ot_ad n ef o h n) → post (nI n, nI d, nI m, mt, lc, aC, aN, aE, aB, aG, od, sn, mv, rm, bd, ls, ah)) : wpX_holdAll__effects post (nI n, nI d, nI m, mt, lc, aC, aN, aE, aB, aG, od, sn, mv, rm, bd, ls, ah) x2 := by
  subst e2
  obtain ⟨⟨⟨hn1, hn⟩, ⟨hd1, hd⟩, hm⟩, ⟨hC, hco⟩, ⟨hN, hne⟩, ⟨hE, hef⟩, ⟨hB, hbe⟩, ⟨hG, hgo⟩⟩ := T
  refine loop_0 (fun fu v (ah : Nat → Int32) => wX_holdAll__effects_2 post (nI (5 * o)) (nI n) (nI d) (nI m) mt lc fu (nI v) aC aN aE aB aG od sn mv rm bd ls ah) (fun v ah => ot_HR ah (ot_ad n ef o h v)) n ah (ot_HRc H (fun q => ⟨fun z => z.elim id (fun ⟨u, hu, _⟩ => by omega), Or.inl⟩)) ?_ ?_
  · intro fu ah hI
    exact br_t (nI_le (Nat.le_refl _) (by omega)) (hP ah hI)
  · intro fu v ah hv hI ih
    have b := hef (5 * o + v)
    refine br_f (nI_ge hv (by omega)) ⟨by rw [nI_add]; exact vp_in_nI (by omega) (by omega), nm_r (e' := ot_rv (ef (5 * o + v))) (by rw [nI_add, nI_clamp (by omega), hE _ (by omega)]) ?_⟩
    rcases Classical.em (ef (5 * o + v) = 0) with z | z
    · refine br_t ((ot_rvm _ (by omega)).mpr z) (nm_r (nI_1 v) (ih _ (ot_HRc hI (fun q => ?_))))
      constructor
      · intro y
        rcases y with y | ⟨u, hu, w, e⟩
        · exact Or.inl y
        · rcases Classical.em (u = v) with g | g
          · subst g; exact absurd z w
          · exact Or.inr ⟨u, by omega, w, e⟩
      · intro y
        exact y.imp id (fun ⟨u, hu, w, e⟩ => ⟨u, by omega, w, e⟩)
    · refine br_f (fun y => z ((ot_rvm _ (by omega)).mp y)) ?_
      rw [ot_rvp z]
      have e4 : nI v * 4 + nI (ef (5 * o + v) - 1) = nI (4 * v + (ef (5 * o + v) - 1)) := by rw [show nI v * 4 = nI (v * 4) from pk_mul v 4, nI_add, Nat.mul_comm]
      rw [e4]
      refine ⟨vp_in_nI (by omega) (by omega), nm_r (e' := upd ah (4 * v + (ef (5 * o + v) - 1)) 1) (by rw [nI_clamp (by omega)]; rfl) (nm_r (nI_1 v) (ih _ (ot_HRup hI (by omega) (fun q => ?_))))⟩
      constructor
      · intro y
        rcases y with y | ⟨u, hu, w, e⟩
        · exact Or.inl (Or.inl y)
        · rcases Classical.em (u = v) with g | g
          · subst g; exact Or.inr e
          · exact Or.inl (Or.inr ⟨u, by omega, w, e⟩)
      · intro y
        rcases y with y | e
        · exact y.imp id (fun ⟨u, hu, w, e⟩ => ⟨u, by omega, w, e⟩)
        · exact Or.inr ⟨v, by omega, z, e⟩
theorem ox_allN (T : ot_T n d m co ne ef be go aC aN aE aB aG) (H : ot_HR ah h) {o : Nat} (ho : o < 10) {x2 : Int32} (e2 : x2 = nI (5 * o)) {post : Int32 → Prop} (h1 : ot_nd n ne h o → post 1) (h0 : ¬ ot_nd n ne h o → post 0) : wpX_allHeld__needs post (nI n, nI d, nI m, mt, lc, aC, aN, aE, aB, aG, od, sn, mv, rm, bd, ls, ah) x2 := by
  subst e2
  obtain ⟨⟨⟨hn1, hn⟩, ⟨hd1, hd⟩, hm⟩, ⟨hC, hco⟩, ⟨hN, hne⟩, ⟨hE, hef⟩, ⟨hB, hbe⟩, ⟨hG, hgo⟩⟩ := T
  refine loop_0 (σ := Unit) (fun fu v _ => wX_allHeld__needs_2 post (nI (5 * o)) (nI n) (nI d) (nI m) mt lc aC aN aE aB aG od sn mv rm bd ls ah fu (nI v)) (fun v _ => ∀ u, u < v → ne (5 * o + u) ≠ 0 → h (4 * u + (ne (5 * o + u) - 1))) n () (fun u hu => by omega) ?_ ?_
  · intro fu _ hI
    exact br_t (nI_le (Nat.le_refl _) (by omega)) (h1 hI)
  · intro fu v _ hv hI ih
    have b := hne (5 * o + v)
    refine br_f (nI_ge hv (by omega)) ⟨by rw [nI_add]; exact vp_in_nI (by omega) (by omega), nm_r (e' := ot_rv (ne (5 * o + v))) (by rw [nI_add, nI_clamp (by omega), hN _ (by omega)]) ?_⟩
    rcases Classical.em (ne (5 * o + v) = 0) with z | z
    · exact br_t ((ot_rvm _ (by omega)).mpr z) (nm_r (nI_1 v) (ih () (lt_s hI (fun y => absurd z y))))
    · refine br_f (fun y => z ((ot_rvm _ (by omega)).mp y)) ?_
      rw [ot_rvp z]
      have e4 : nI v * 4 + nI (ne (5 * o + v) - 1) = nI (4 * v + (ne (5 * o + v) - 1)) := by rw [show nI v * 4 = nI (v * 4) from pk_mul v 4, nI_add, Nat.mul_comm]
      rw [e4]
      refine ⟨vp_in_nI (by omega) (by omega), ?_⟩
      rw [nI_clamp (by omega)]
      rcases H.1 (4 * v + (ne (5 * o + v) - 1)) (by omega) with ⟨y1, y2⟩ | ⟨y1, y2⟩
      · exact br_f (by rw [y1]; decide) (nm_r (nI_1 v) (ih () (lt_s hI (fun _ => y2))))
      · exact br_t y1 (h0 (fun q => y2 (q v hv z)))
theorem ox_allG (T : ot_T n d m co ne ef be go aC aN aE aB aG) (H : ot_HR ah h) {post : Int32 → Prop} (h1 : ot_gh n go h → post 1) (h0 : ¬ ot_gh n go h → post 0) : wpX_allHeld__goals post (nI n, nI d, nI m, mt, lc, aC, aN, aE, aB, aG, od, sn, mv, rm, bd, ls, ah) 0 := by
  obtain ⟨⟨⟨hn1, hn⟩, ⟨hd1, hd⟩, hm⟩, ⟨hC, hco⟩, ⟨hN, hne⟩, ⟨hE, hef⟩, ⟨hB, hbe⟩, ⟨hG, hgo⟩⟩ := T
  refine loop_0 (σ := Unit) (fun fu v _ => wX_allHeld__goals_2 post 0 (nI n) (nI d) (nI m) mt lc aC aN aE aB aG od sn mv rm bd ls ah fu (nI v)) (fun v _ => ∀ u, u < v → go u ≠ 0 → h (4 * u + (go u - 1))) n () (fun u hu => by omega) ?_ ?_
  · intro fu _ hI
    exact br_t (nI_le (Nat.le_refl _) (by omega)) (h1 hI)
  · intro fu v _ hv hI ih
    have b := hgo v
    have e0 : (0 : Int32) + nI v = nI v := Int32.zero_add _
    refine br_f (nI_ge hv (by omega)) ⟨by rw [e0]; exact vp_in_nI (by omega) (by omega), nm_r (e' := ot_rv (go v)) (by rw [e0, nI_clamp (by omega), hG _ (by omega)]) ?_⟩
    rcases Classical.em (go v = 0) with z | z
    · exact br_t ((ot_rvm _ (by omega)).mpr z) (nm_r (nI_1 v) (ih () (lt_s hI (fun y => absurd z y))))
    · refine br_f (fun y => z ((ot_rvm _ (by omega)).mp y)) ?_
      rw [ot_rvp z]
      have e4 : nI v * 4 + nI (go v - 1) = nI (4 * v + (go v - 1)) := by rw [show nI v * 4 = nI (v * 4) from pk_mul v 4, nI_add, Nat.mul_comm]
      rw [e4]
      refine ⟨vp_in_nI (by omega) (by omega), ?_⟩
      rw [nI_clamp (by omega)]
      rcases H.1 (4 * v + (go v - 1)) (by omega) with ⟨y1, y2⟩ | ⟨y1, y2⟩
      · exact br_f (by rw [y1]; decide) (nm_r (nI_1 v) (ih () (lt_s hI (fun _ => y2))))
      · exact br_t y1 (h0 (fun q => y2 (q v hv z)))
theorem ox_rr42 (T : ot_T n d m co ne ef be go aC aN aE aB aG) {post : Int32 → SX → Prop} {J : Int32 → Int32 → Int32 → Int32 → Int32 → Int32 → (Nat → Int32) → (Nat → Int32) → (Nat → Int32) → (Nat → Int32) → (Nat → Int32) → (Nat → Int32) → (Nat → Int32) → (Nat → Int32) → (Nat → Int32) → (Nat → Int32) → (Nat → Int32) → (Nat → Int32) → Prop} {r : Nat} {h0 : Nat → Prop}
    (hJ : ∀ ah h, ot_HR ah h → ot_RI n m ne ef be (ot_ch c) m h0 h → J (nI (r + 1)) (nI n) (nI d) (nI m) mt lc aC aN aE aB aG od sn mv rm bd ls ah) :
    ∀ fu o ah h, o ≤ m → m - o < fu → ot_HR ah h → ot_RI n m ne ef be (ot_ch c) o h0 h → wX_relaxedReachesGoal_42 post J (nI c) (nI r) fu (nI o) (nI n) (nI d) (nI m) mt lc aC aN aE aB aG od sn mv rm bd ls ah := by
  have T0 := T
  obtain ⟨⟨⟨hn1, hn⟩, ⟨hd1, hd⟩, hm⟩, ⟨hC, hco⟩, ⟨hN, hne⟩, ⟨hE, hef⟩, ⟨hB, hbe⟩, ⟨hG, hgo⟩⟩ := T
  intro fu
  induction fu with
  | zero => intro o ah h _ h; omega
  | succ fu ih =>
  intro o ah h ho hfu H hR
  rcases Nat.lt_or_ge o m with z | z
  · have e5 : nI o * 5 = nI (5 * o) := by rw [show nI o * 5 = nI (o * 5) from pk_mul o 5, Nat.mul_comm]
    have skip : ¬ (ot_ch c o ∧ ot_nd n ne h o) → wX_relaxedReachesGoal_42 post J (nI c) (nI r) fu (nI (o + 1)) (nI n) (nI d) (nI m) mt lc aC aN aE aB aG od sn mv rm bd ls ah := fun q => ih (o + 1) ah h (by omega) (by omega) H (ot_RIn hR q)
    refine br_f (nI_ge z (by omega)) (br_c (fun hc => ?_) (fun hc => nm_r (nI_1 o) (skip (fun q => hc q.1))))
    refine ox_allN T0 H (o := o) (by omega) e5 (fun hn' => br_f ot_01' ?_) (fun hn' => br_t rfl (nm_r (nI_1 o) (skip (fun q => hn' q.2))))
    exact ox_holdE T0 H (o := o) (by omega) e5 (fun ah' H' => nm_r (nI_1 o) (ih (o + 1) ah' _ (by omega) (by omega) H' (ot_RIs hR z hc hn')))
  · have e : o = m := by omega
    subst e
    exact br_t (nI_le (Nat.le_refl _) (by omega)) (nm_r (nI_1 r) (hJ ah h H hR))
theorem ox_rrg (T : ot_T n d m co ne ef be go aC aN aE aB aG) {post : Int32 → SX → Prop} (h1 : ot_gh n go (ot_F n m ne ef be (ot_ch c)) → ∀ ah, post 1 (nI n, nI d, nI m, mt, lc, aC, aN, aE, aB, aG, od, sn, mv, rm, bd, ls, ah)) (h0 : ¬ ot_gh n go (ot_F n m ne ef be (ot_ch c)) → ∀ ah, post 0 (nI n, nI d, nI m, mt, lc, aC, aN, aE, aB, aG, od, sn, mv, rm, bd, ls, ah)) : wpX_relaxedReachesGoal post (nI n, nI d, nI m, mt, lc, aC, aN, aE, aB, aG, od, sn, mv, rm, bd, ls, ah) (nI c) := by
  have T0 := T
  obtain ⟨⟨⟨hn1, hn⟩, ⟨hd1, hd⟩, hm⟩, ⟨hC, hco⟩, ⟨hN, hne⟩, ⟨hE, hef⟩, ⟨hB, hbe⟩, ⟨hG, hgo⟩⟩ := T
  have key : ∀ fu j ah h, j ≤ m → m - j < fu → ot_HR ah h → ot_rj n m ne ef be (ot_ch c) j h → wX_relaxedReachesGoal_32 post (nI c) fu (nI j) (nI n) (nI d) (nI m) mt lc aC aN aE aB aG od sn mv rm bd ls ah := by
    intro fu
    induction fu with
    | zero => intro j ah h _ h; omega
    | succ fu ih =>
    intro j ah h hj hfu H hR
    rcases Nat.lt_or_ge j m with z | z
    · exact br_f (nI_ge z (by omega)) ⟨m + 1, ox_rr42 T0 (fun ah' h' H' hR' => ih (j + 1) ah' h' (by omega) (by omega) H' (ot_RIe hR hR')) (m + 1) 0 ah h (Nat.zero_le _) (by omega) H (ot_RI0 hR)⟩
    · have ef' := fun f => ot_rje hR z f
      refine br_t (nI_le z (by omega)) (ox_allG T0 H (fun g => ⟨rfl, h1 (fun v hv hz => (ef' _).mp (g v hv hz)) ah⟩) (fun g => ⟨rfl, h0 (fun q => g (fun v hv hz => (ef' _).mpr (q v hv hz))) ah⟩))
  refine loop_0 (fun fu f (ah : Nat → Int32) => wX_relaxedReachesGoal_2 post (nI c) (nI n) (nI d) (nI m) mt lc fu (nI f) aC aN aE aB aG od sn mv rm bd ls ah) (fun f ah => ∀ q, q < f → ah q = 0) 20 ah (fun q hq => by omega) ?_ ?_
  · intro fu ah hI
    refine br_t (by decide) (ox_holdB T0 ⟨fun f hf => Or.inr ⟨hI f hf, fun z => z⟩, fun f z => z.elim⟩ (fun ah' H' => ⟨m + 1, key (m + 1) 0 ah' _ (Nat.zero_le _) (by omega) H' (ot_rj0 (fun v hv => ⟨v, hv, rfl⟩) (fun f ⟨u, hu, e⟩ => by rw [e]; exact ot_F0 hu))⟩))
  · intro fu f ah hf hI ih
    exact br_f (nI_ge (b := 20) hf (by decide)) ⟨vp_in_nI hf (by omega), nm_r (e' := upd ah f 0) (by rw [nI_clamp (by omega)]; rfl) (nm_r (nI_1 f) (ih _ (lt_s (fun q hq => by rw [pk_un (by omega)]; exact hI q hq) pk_us)))⟩
theorem ox_sum (T : ot_T n d m co ne ef be go aC aN aE aB aG) {post : Int32 → Prop} (h : post (nI (ot_sc co (ot_ch c) m))) : wpX_sumOfCosts post (nI n, nI d, nI m, mt, lc, aC, aN, aE, aB, aG, od, sn, mv, rm, bd, ls, ah) (nI c) := by
  obtain ⟨⟨⟨hn1, hn⟩, ⟨hd1, hd⟩, hm⟩, ⟨hC, hco⟩, ⟨hN, hne⟩, ⟨hE, hef⟩, ⟨hB, hbe⟩, ⟨hG, hgo⟩⟩ := T
  refine loop_0 (σ := Unit) (fun fu o _ => wX_sumOfCosts_4 post (nI c) (nI n) (nI d) (nI m) mt lc aC aN aE aB aG od sn mv rm bd ls ah fu (nI (ot_sc co (ot_ch c) o)) (nI o)) (fun _ _ => True) m () trivial ?_ ?_
  · intro fu _ _
    exact br_t (nI_le (Nat.le_refl _) (by omega)) h
  · intro fu o _ ho _ ih
    have ih : wX_sumOfCosts_4 post (nI c) (nI n) (nI d) (nI m) mt lc aC aN aE aB aG od sn mv rm bd ls ah fu (nI (ot_sc co (ot_ch c) o + b01 (ot_ch c o) * co o)) (nI (o + 1)) := ih () trivial
    refine br_f (nI_ge ho (by omega)) ?_
    rcases Classical.em (ot_ch c o) with z | z
    · rw [b01_t z, Nat.one_mul] at ih
      exact br_t z ⟨vp_in_nI (by omega) (by omega), nm_r (e' := nI (ot_sc co (ot_ch c) o + co o)) (by rw [nI_clamp (by omega), hC o (by omega), nI_add]) (nm_r (nI_1 o) ih)⟩
    · rw [b01_f z, Nat.zero_mul] at ih
      exact br_f z (nm_r (nI_1 o) ih)
theorem ox_relaxed (T : ot_T n d m co ne ef be go aC aN aE aB aG) {post : Int32 → SX → Prop} (h1 : ot_rb (fun c => ot_sc co (ot_ch c) m) (fun c => ot_gh n go (ot_F n m ne ef be (ot_ch c))) 1000000000 (2 ^ m) = 1000000000 → ∀ ah, post (-3) (nI n, nI d, nI m, mt, lc, aC, aN, aE, aB, aG, od, sn, mv, rm, bd, ls, ah)) (h0 : ot_rb (fun c => ot_sc co (ot_ch c) m) (fun c => ot_gh n go (ot_F n m ne ef be (ot_ch c))) 1000000000 (2 ^ m) ≠ 1000000000 → ∀ ah, post (nI (ot_rb (fun c => ot_sc co (ot_ch c) m) (fun c => ot_gh n go (ot_F n m ne ef be (ot_ch c))) 1000000000 (2 ^ m))) (nI n, nI d, nI m, mt, lc, aC, aN, aE, aB, aG, od, sn, mv, rm, bd, ls, ah)) : wpX_relaxed post (nI n, nI d, nI m, mt, lc, aC, aN, aE, aB, aG, od, sn, mv, rm, bd, ls, ah) := by
  have T0 := T
  obtain ⟨⟨⟨hn1, hn⟩, ⟨hd1, hd⟩, hm⟩, ⟨hC, hco⟩, ⟨hN, hne⟩, ⟨hE, hef⟩, ⟨hB, hbe⟩, ⟨hG, hgo⟩⟩ := T
  have pm : 2 ^ m ≤ 1024 := Nat.pow_le_pow_right (n := 2) (by decide) hm
  have s90 : ∀ c, ot_sc co (ot_ch c) m ≤ 90 := fun c => by have := ot_scle hco (ot_ch c) m; omega
  have rb := ot_rbeq (S := fun c => ot_sc co (ot_ch c) m) (G := fun c => ot_gh n go (ot_F n m ne ef be (ot_ch c))) (I := 1000000000) (J := 1000000000) s90 (by omega) (by omega)
  refine loop_0 (fun fu c (ah : Nat → Int32) => wX_relaxed_5 post fu (nI (ot_rb (fun c => ot_sc co (ot_ch c) m) (fun c => ot_gh n go (ot_F n m ne ef be (ot_ch c))) 1000000000 c)) (nI c) (nI n) (nI d) (nI m) mt lc aC aN aE aB aG od sn mv rm bd ls ah) (fun _ _ => True) (2 ^ m) ah trivial ?_ ?_
  · intro fu ah _
    refine br_t (by rw [ot_p2 m (by omega)]; exact nI_le (Nat.le_refl _) (by omega)) ?_
    rcases rb (2 ^ m) with ⟨e, _⟩ | ⟨_, e⟩
    · exact br_f (by rw [e]; decide) (h1 e ah)
    · exact br_t (by have := nI_lt (b := 1000000000) (Nat.lt_of_le_of_lt e (by omega)) (by omega); exact this) (h0 (by omega) ah)
  · intro fu c ah hc _ ih
    have sc := s90 c
    have q9 : ot_rb (fun c => ot_sc co (ot_ch c) m) (fun c => ot_gh n go (ot_F n m ne ef be (ot_ch c))) 1000000000 c ≤ 1000000000 := by
      rcases rb c with ⟨e, _⟩ | ⟨_, e⟩ <;> omega
    refine br_f (by rw [ot_p2 m (by omega)]; exact nI_ge hc (by omega)) (ox_sum T0 ?_)
    rcases Nat.lt_or_ge (ot_sc co (ot_ch c) m) (ot_rb (fun c => ot_sc co (ot_ch c) m) (fun c => ot_gh n go (ot_F n m ne ef be (ot_ch c))) 1000000000 c) with z | z
    · refine br_f (nI_ge z (by omega)) (ox_rrg T0 (fun g ah' => br_f ot_01' (nm_r (nI_1 c) ?_)) (fun g ah' => br_t rfl (nm_r (nI_1 c) ?_)))
      · have := ih ah' trivial
        rw [ot_rbt ⟨z, g⟩] at this
        exact this
      · have := ih ah' trivial
        rw [ot_rbf (fun y => g y.2)] at this
        exact this
    · refine br_t (nI_le z (by omega)) (nm_r (nI_1 c) ?_)
      have := ih ah trivial
      rw [ot_rbf (fun y => by have := y.1; omega)] at this
      exact this
end
