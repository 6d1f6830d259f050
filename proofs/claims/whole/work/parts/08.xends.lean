/-! the component: ends of ways, the best way, counting, plans -/
noncomputable def ot_w0 (g : Nat → Prop) (s : Nat) : Nat := (1 - b01 (g s)) * 1000000000
theorem ot_w0t {g : Nat → Prop} {s : Nat} (h : g s) : ot_w0 g s = 0 := by unfold ot_w0; rw [b01_t h]
theorem ot_w0f {g : Nat → Prop} {s : Nat} (h : ¬ g s) : ot_w0 g s = 1000000000 := by unfold ot_w0; rw [b01_f h]
theorem ot_w0le (g : Nat → Prop) (s : Nat) : ot_w0 g s ≤ 1000000000 := by
  rcases Classical.em (g s) with z | z
  · rw [ot_w0t z]; omega
  · rw [ot_w0f z]; omega
theorem ot_w0I {E : Nat → Nat → Nat → Prop} {co : Nat → Nat} {g : Nat → Prop} (hg : ∀ s, g s → s < 1024) : ot_I E co g (ot_w0 g) := by
  intro s hs
  rcases Classical.em (g s) with z | z
  · exact ⟨0, 0, ot_w0t z, Nat.le_refl _, Nat.zero_le _, hg s z, z, rfl⟩
  · exact absurd (ot_w0f z) hs
abbrev ot_RR (n m : Nat) (ne ef be : Nat → Nat) : Nat → Prop := ot_R (ot_bs be n) (fun _ => False) (ot_E n m ne ef (fun _ => False))
theorem ot_RRs {n m : Nat} {ne ef be : Nat → Nat} (s o : Nat) (h : ot_RR n m ne ef be s) (ho : o < m) (ha : ot_ap n ne o s) : ot_RR n m ne ef be (ot_nx ef o s n) := ot_Rs h ⟨o, ho, fun z => z, ha, rfl⟩ (fun z => z)
theorem ot_bf0 : ot_bf (-1) (fun _ => False) := Or.inl ⟨rfl, fun _ z => z⟩
theorem ot_bop0 : ot_bop (-1) (fun _ => False) := fun _ ho => ⟨fun e => (ot_nn (by omega)).1 e, fun z => z.elim⟩
theorem ot_XFle {n m : Nat} {ne ef : Nat → Nat} {bo R : Nat → Prop} {k : Nat} {od mv : Nat → Int32} {f : Nat → Nat} (h : ot_XF n m ne ef bo R k od mv f) : k ≤ 1024 := by
  rw [h.2.2.2.1]; exact cn_le R 1024
section
variable {n d m : Nat} {co ne ef be go : Nat → Nat} {aC aN aE aB aG od sn mv rm bd ls ah : Nat → Int32} {lc : Int32} {bo br R g : Nat → Prop} {k : Nat} {f w : Nat → Nat}
theorem ot_rmput {rm : Nat → Int32} {i : Nat} {x : Int32} (hX : ot_XF n m ne ef bo R k od mv f) (hi : i < k) {v : Nat → Int32} (h : ∀ j, j < i → rm (f j) = v (f j)) (hx : x = v (f i)) : ∀ j, j < i + 1 → upd rm (f i) x (f j) = v (f j) := by
  intro j hj
  rcases Classical.em (j = i) with e | e
  · subst e; rw [pk_us]; exact hx
  · have : f j ≠ f i := fun y => e (hX.2.2.1 j i (by omega) hi y)
    rw [pk_un this]; exact h j (by omega)
theorem ox_endG (T : ot_T n d m co ne ef be go aC aN aE aB aG) (hX : ot_XF n m ne ef bo R k od mv f) {post : SX → Prop} (h : ∀ rm, ot_RM R (ot_w0 (fun s => R s ∧ ot_gl n go s)) rm → post (nI n, nI d, nI m, nI k, lc, aC, aN, aE, aB, aG, od, sn, mv, rm, bd, ls, ah)) : wpX_endAtGoal post (nI n, nI d, nI m, nI k, lc, aC, aN, aE, aB, aG, od, sn, mv, rm, bd, ls, ah) := by
  have hk := ot_XFle hX
  refine loop_0 (fun fu i (rm : Nat → Int32) => wX_endAtGoal_2 post (nI n) (nI d) (nI m) (nI k) lc fu (nI i) aC aN aE aB aG od sn mv rm bd ls ah) (fun i rm => ∀ j, j < i → rm (f j) = nI (ot_w0 (fun s => R s ∧ ot_gl n go s) (f j))) k rm (fun j hj => by omega) ?_ ?_
  · intro fu rm hI
    refine br_t (nI_le (Nat.le_refl _) (by omega)) (h rm ⟨ot_w0le _, fun s hs => ?_, fun s hs => ot_w0f (fun z => hs z.1)⟩)
    obtain ⟨i, hi, e⟩ := (hX.2.1 s hs).2
    rw [← e]; exact hI i hi
  · intro fu i rm hi hI ih
    have e := hX.1 i hi
    refine br_f (nI_ge hi (by omega)) ⟨vp_in_nI (by omega) (by omega), nm_r (e' := nI (f i)) (by rw [nI_clamp (by omega)]; exact e.1) (ox_hasG T e.2.1 (fun hg => ?_) (fun hg => ?_))⟩
    · refine br_f (by decide) ⟨vp_in_nI e.2.1 (by omega), nm_r (e' := upd rm (f i) 0) (by rw [nI_clamp (by omega)]) (nm_r (nI_1 i) (ih _ (ot_rmput hX hi (v := fun s => nI (ot_w0 (fun s => R s ∧ ot_gl n go s) s)) hI ?_)))⟩
      show (0 : Int32) = nI (ot_w0 _ (f i))
      rw [ot_w0t ⟨e.2.2, hg⟩]; rfl
    · refine br_t rfl ⟨vp_in_nI e.2.1 (by omega), nm_r (e' := upd rm (f i) 1000000000) (by rw [nI_clamp (by omega)]) (nm_r (nI_1 i) (ih _ (ot_rmput hX hi (v := fun s => nI (ot_w0 (fun s => R s ∧ ot_gl n go s) s)) hI ?_)))⟩
      show (1000000000 : Int32) = nI (ot_w0 _ (f i))
      rw [ot_w0f (fun z => hg z.2)]; rfl
theorem ox_endB (T : ot_T n d m co ne ef be go aC aN aE aB aG) (hX : ot_XF n m ne ef bo R k od mv f) (h0 : R (ot_bs be n)) {post : SX → Prop} (h : ∀ rm, ot_RM R (ot_w0 (fun s => s = ot_bs be n)) rm → post (nI n, nI d, nI m, nI k, lc, aC, aN, aE, aB, aG, od, sn, mv, rm, bd, ls, ah)) : wpX_endAtBegin post (nI n, nI d, nI m, nI k, lc, aC, aN, aE, aB, aG, od, sn, mv, rm, bd, ls, ah) := by
  have hk := ot_XFle hX
  refine loop_0 (fun fu i (rm : Nat → Int32) => wX_endAtBegin_2 post (nI n) (nI d) (nI m) (nI k) lc fu (nI i) aC aN aE aB aG od sn mv rm bd ls ah) (fun i rm => ∀ j, j < i → rm (f j) = 1000000000) k rm (fun j hj => by omega) ?_ ?_
  · intro fu rm hI
    have slt := (hX.2.1 _ h0).1
    refine br_t (nI_le (Nat.le_refl _) (by omega)) (ox_begin T ⟨vp_in_nI slt (by omega), nm_r (e' := upd rm (ot_bs be n) 0) (by rw [nI_clamp (by omega)]) (h _ ⟨ot_w0le _, fun s hs => ?_, fun s hs => ot_w0f (fun z => hs (by rw [z]; exact h0))⟩)⟩)
    rcases Classical.em (s = ot_bs be n) with e | e
    · rw [ot_w0t (g := fun s => s = ot_bs be n) e, e, pk_us]; rfl
    · obtain ⟨i, hi, y⟩ := (hX.2.1 s hs).2
      rw [pk_un e, ot_w0f (g := fun s => s = ot_bs be n) e, ← y, hI i hi]; rfl
  · intro fu i rm hi hI ih
    have e := hX.1 i hi
    have ce : od (nI i).toNatClampNeg = nI (f i) := by rw [nI_clamp (by omega)]; exact e.1
    refine br_f (nI_ge hi (by omega)) ⟨vp_in_nI (by omega) (by omega), ?_⟩
    rw [ce]
    exact ⟨vp_in_nI e.2.1 (by omega), nm_r (e' := upd rm (f i) 1000000000) (by rw [nI_clamp (by omega)]) (nm_r (nI_1 i) (ih _ (ot_rmput hX hi (v := fun _ => 1000000000) hI rfl)))⟩
theorem ox_best (T : ot_T n d m co ne ef be go aC aN aE aB aG) {mt : Int32} {post : Int32 → SX → Prop} (h : ∀ k od sn mv f rm w, ot_XF n m ne ef (fun _ => False) (ot_RR n m ne ef be) k od mv f → ot_RM (ot_RR n m ne ef be) w rm → ot_I (ot_EX n m ne ef (ot_RR n m ne ef be)) co (fun s => ot_RR n m ne ef be s ∧ ot_gl n go s) w → ot_S (ot_EX n m ne ef (ot_RR n m ne ef be)) co (fun s => ot_RR n m ne ef be s ∧ ot_gl n go s) w → post (nI (w (ot_bs be n))) (nI n, nI d, nI m, nI k, lc, aC, aN, aE, aB, aG, od, sn, mv, rm, bd, ls, ah)) : wpX_bestWay post (nI n, nI d, nI m, mt, lc, aC, aN, aE, aB, aG, od, sn, mv, rm, bd, ls, ah) := by
  refine ox_explore T ot_bf0 ot_bop0 (fun k od sn mv f hX => ?_)
  refine ox_endG T hX (fun rm hw => ?_)
  refine ox_measure T hX (ot_XFle hX) ot_RRs hw (ot_w0I (fun s hs => (hX.2.1 s hs.1).1)) (fun s hs => ot_w0t hs) (fun rm w hw hI hS => ?_)
  refine ox_begin T ?_
  have h0 : ot_RR n m ne ef be (ot_bs be n) := ot_R0 (fun z => z)
  have slt := (hX.2.1 _ h0).1
  refine ⟨vp_in_nI slt (by omega), ?_⟩
  rw [nI_clamp (by omega), hw.2.1 _ h0]
  exact h k od sn mv f rm w hX hw hI hS
theorem ox_count (hX : ot_XF n m ne ef bo R k od mv f) (hw : ot_RM R w rm) {post : Int32 → Prop} (h : post (nI (cn (fun s => R s ∧ w s ≠ 1000000000) 1024))) : wpX_countMeasured post (nI n, nI d, nI m, nI k, lc, aC, aN, aE, aB, aG, od, sn, mv, rm, bd, ls, ah) := by
  have hk := ot_XFle hX
  have := loop_0 (σ := Unit) (fun fu i _ => wX_countMeasured_4 post (nI n) (nI d) (nI m) (nI k) lc aC aN aE aB aG od sn mv rm bd ls ah fu (nI (cn (fun s => ∃ j, j < i ∧ f j = s ∧ w s ≠ 1000000000) 1024)) (nI i)) (fun _ _ => True) k () trivial ?_ ?_
  · rw [ot_cnt0, nI_0] at this
    exact this
  · intro fu _ _
    refine br_t (nI_le (Nat.le_refl _) (by omega)) ?_
    rw [ot_cnte (fun i hi => (hX.1 i hi).2.2) (fun s hs => (hX.2.1 s hs).2) (fun s => w s ≠ 1000000000)]
    exact h
  · intro fu i _ hi _ ih
    have e := hX.1 i hi
    have c := ot_cnt (fun i hi => (hX.1 i hi).2.1) hX.2.2.1 (fun s => w s ≠ 1000000000) i hi
    have ce : od (nI i).toNatClampNeg = nI (f i) := by rw [nI_clamp (by omega)]; exact e.1
    have ih := ih () trivial
    have l := hw.1 (f i)
    refine br_f (nI_ge hi (by omega)) ⟨vp_in_nI (by omega) (by omega), ?_⟩
    rw [ce]
    refine ⟨vp_in_nI e.2.1 (by omega), ?_⟩
    rw [nI_clamp (by omega), hw.2.1 _ e.2.2]
    rcases Classical.em (w (f i) = 1000000000) with z | z
    · rw [b01_f (fun y => y z)] at c
      rw [c] at ih
      exact br_t (by rw [z]; rfl) (nm_r (nI_1 i) ih)
    · rw [b01_t z] at c
      rw [c] at ih
      exact br_f (fun y => z ((nI_eq (by omega) (by omega)).mp (y.trans ot_big))) (nm_r (nI_1 _) (nm_r (nI_1 i) ih))
theorem ox_plan (T : ot_T n d m co ne ef be go aC aN aE aB aG) {x1 x2 mt : Int32} (hb : ot_bf x1 br) (hp : ot_bop x2 bo) {post : Int32 → SX → Prop}
    (h1 : (∃ s, ot_R (ot_bs be n) br (ot_E n m ne ef bo) s ∧ ot_gl n go s) → ∀ k od sn mv, post 1 (nI n, nI d, nI m, nI k, lc, aC, aN, aE, aB, aG, od, sn, mv, rm, bd, ls, ah))
    (h0 : (¬ ∃ s, ot_R (ot_bs be n) br (ot_E n m ne ef bo) s ∧ ot_gl n go s) → ∀ k od sn mv, post 0 (nI n, nI d, nI m, nI k, lc, aC, aN, aE, aB, aG, od, sn, mv, rm, bd, ls, ah)) : wpX_planExists post (nI n, nI d, nI m, mt, lc, aC, aN, aE, aB, aG, od, sn, mv, rm, bd, ls, ah) x1 x2 := by
  refine ox_explore T hb hp (fun k od sn mv f hX => ?_)
  have hk := ot_XFle hX
  refine loop_0 (σ := Unit) (fun fu i _ => wX_planExists_8 post (nI n) (nI d) (nI m) (nI k) lc aC aN aE aB aG od sn mv rm bd ls ah fu (nI i)) (fun i _ => ∀ j, j < i → ¬ ot_gl n go (f j)) k () (fun j hj => by omega) ?_ ?_
  · intro fu _ hI
    refine br_t (nI_le (Nat.le_refl _) (by omega)) (h0 (fun ⟨s, hs, hg⟩ => ?_) k od sn mv)
    obtain ⟨i, hi, e⟩ := (hX.2.1 s hs).2
    rw [← e] at hg
    exact hI i hi hg
  · intro fu i _ hi hI ih
    have e := hX.1 i hi
    have ce : od (nI i).toNatClampNeg = nI (f i) := by rw [nI_clamp (by omega)]; exact e.1
    refine br_f (nI_ge hi (by omega)) ⟨vp_in_nI (by omega) (by omega), ?_⟩
    rw [ce]
    exact ox_hasG T e.2.1 (fun hg => br_f (by decide) (h1 ⟨f i, e.2.2, hg⟩ k od sn mv)) (fun hg => br_t rfl (nm_r (nI_1 i) (ih () (lt_s hI hg))))
end
