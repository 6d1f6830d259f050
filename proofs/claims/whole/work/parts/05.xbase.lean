/-! the component: the task that both keep, values, begin, needs and goal, next state -/
def ot_T (n d m : Nat) (co ne ef be go : Nat → Nat) (aC aN aE aB aG : Nat → Int32) : Prop :=
  ((1 ≤ n ∧ n ≤ 5) ∧ (2 ≤ d ∧ d ≤ 4) ∧ m ≤ 10) ∧ ((∀ j, j < 10 → aC j = nI (co j)) ∧ ∀ j, co j ≤ 9) ∧ ((∀ j, j < 50 → aN j = ot_rv (ne j)) ∧ ∀ j, ne j ≤ d) ∧ ((∀ j, j < 50 → aE j = ot_rv (ef j)) ∧ ∀ j, ef j ≤ d) ∧ ((∀ j, j < 5 → aB j = nI (be j)) ∧ ∀ j, be j < d) ∧ ((∀ j, j < 5 → aG j = ot_rv (go j)) ∧ ∀ j, go j ≤ d)
section
variable {n d m : Nat} {co ne ef be go : Nat → Nat} {aC aN aE aB aG od sn mv rm bd ls ah : Nat → Int32} {mt lc : Int32}
theorem ot_s0 (T : ot_T n d m co ne ef be go aC aN aE aB aG) : ot_ok n d (ot_bs be n) := by
  obtain ⟨⟨⟨hn1, hn⟩, ⟨hd1, hd⟩, hm⟩, ⟨hC, hco⟩, ⟨hN, hne⟩, ⟨hE, hef⟩, ⟨hB, hbe⟩, ⟨hG, hgo⟩⟩ := T
  exact ot_bs_ok hd (fun v _ => hbe v) n hn
theorem ot_s0k (T : ot_T n d m co ne ef be go aC aN aE aB aG) {k : Nat} (hk : k ≤ n) : ot_bs be k < 4 ^ k := by
  obtain ⟨⟨⟨hn1, hn⟩, ⟨hd1, hd⟩, hm⟩, ⟨hC, hco⟩, ⟨hN, hne⟩, ⟨hE, hef⟩, ⟨hB, hbe⟩, ⟨hG, hgo⟩⟩ := T
  exact (ot_bs_ok hd (fun v _ => hbe v) k (by omega)).1
theorem ox_val {s v : Nat} {post : Int32 → Prop} (hs : s < 1024) (hv : v < 5) (h : post (nI (ot_vl s v))) : wpX_valueIn post (nI s) (nI v) := by
  unfold wpX_valueIn
  rw [ot_val hs hv]
  exact h
theorem ox_begin (T : ot_T n d m co ne ef be go aC aN aE aB aG) {post : Int32 → Prop} (h : post (nI (ot_bs be n))) : wpX_beginState post (nI n, nI d, nI m, mt, lc, aC, aN, aE, aB, aG, od, sn, mv, rm, bd, ls, ah) := by
  have hs := fun k (hk : k ≤ n) => ot_s0k T hk
  obtain ⟨⟨⟨hn1, hn⟩, ⟨hd1, hd⟩, hm⟩, ⟨hC, hco⟩, ⟨hN, hne⟩, ⟨hE, hef⟩, ⟨hB, hbe⟩, ⟨hG, hgo⟩⟩ := T
  refine loop_0 (σ := Unit) (fun k v _ => wX_beginState_4 post (nI n) (nI d) (nI m) mt lc aC aN aE aB aG od sn mv rm bd ls ah k (nI (ot_bs be v)) (nI v)) (fun _ _ => True) n () trivial ?_ ?_
  · intro k _ _
    exact br_t (nI_le (Nat.le_refl _) (by omega)) h
  · intro k v _ hv _ ih
    refine br_f (nI_ge hv (by omega)) ⟨vp_in_nI (by omega) (by omega), nm_r (e' := nI (ot_bs be (v + 1))) ?_ (nm_r (nI_1 v) (ih () trivial))⟩
    have b := hbe v
    rw [nI_clamp (by omega), hB v (by omega)]
    exact ot_or (hs v (by omega)) (by omega) (by omega)
theorem ox_hasN (T : ot_T n d m co ne ef be go aC aN aE aB aG) {s o : Nat} (hs : s < 1024) (ho : o < 10) {x3 : Int32} (e3 : x3 = nI (5 * o)) {post : Int32 → Prop} (h1 : ot_ap n ne o s → post 1) (h0 : ¬ ot_ap n ne o s → post 0) : wpX_hasAll__needs post (nI n, nI d, nI m, mt, lc, aC, aN, aE, aB, aG, od, sn, mv, rm, bd, ls, ah) (nI s) x3 := by
  subst e3
  obtain ⟨⟨⟨hn1, hn⟩, ⟨hd1, hd⟩, hm⟩, ⟨hC, hco⟩, ⟨hN, hne⟩, ⟨hE, hef⟩, ⟨hB, hbe⟩, ⟨hG, hgo⟩⟩ := T
  refine loop_0 (σ := Unit) (fun k v _ => wX_hasAll__needs_3 post (nI s) (nI (5 * o)) (nI n) (nI d) (nI m) mt lc aC aN aE aB aG od sn mv rm bd ls ah k (nI v)) (fun v _ => ∀ u, u < v → ne (5 * o + u) = 0 ∨ ne (5 * o + u) = ot_vl s u + 1) n () (fun u hu => by omega) ?_ ?_
  · intro k _ hI
    exact br_t (nI_le (Nat.le_refl _) (by omega)) (h1 hI)
  · intro k v _ hv hI ih
    have b := hne (5 * o + v)
    have v4 := ot_vl4 s v
    refine br_f (nI_ge hv (by omega)) ⟨by rw [nI_add]; exact vp_in_nI (by omega) (by omega), nm_r (e' := ot_rv (ne (5 * o + v))) (by rw [nI_add, nI_clamp (by omega), hN _ (by omega)]) ?_⟩
    rcases Classical.em (ne (5 * o + v) = 0) with z | z
    · exact br_t ((ot_rvm _ (by omega)).mpr z) (nm_r (nI_1 v) (ih () (lt_s hI (Or.inl z))))
    · refine br_f (fun y => z ((ot_rvm _ (by omega)).mp y)) (ox_val hs (by omega) ?_)
      rcases Classical.em (ne (5 * o + v) = ot_vl s v + 1) with y | y
      · exact br_t ((ot_rve _ (by omega) _ (by omega)).mpr y) (nm_r (nI_1 v) (ih () (lt_s hI (Or.inr y))))
      · exact br_f (fun q => y ((ot_rve _ (by omega) _ (by omega)).mp q)) (h0 fun q => (q v hv).elim z y)
theorem ox_hasG (T : ot_T n d m co ne ef be go aC aN aE aB aG) {s : Nat} (hs : s < 1024) {post : Int32 → Prop} (h1 : ot_gl n go s → post 1) (h0 : ¬ ot_gl n go s → post 0) : wpX_hasAll__goals post (nI n, nI d, nI m, mt, lc, aC, aN, aE, aB, aG, od, sn, mv, rm, bd, ls, ah) (nI s) 0 := by
  obtain ⟨⟨⟨hn1, hn⟩, ⟨hd1, hd⟩, hm⟩, ⟨hC, hco⟩, ⟨hN, hne⟩, ⟨hE, hef⟩, ⟨hB, hbe⟩, ⟨hG, hgo⟩⟩ := T
  refine loop_0 (σ := Unit) (fun k v _ => wX_hasAll__goals_3 post (nI s) 0 (nI n) (nI d) (nI m) mt lc aC aN aE aB aG od sn mv rm bd ls ah k (nI v)) (fun v _ => ∀ u, u < v → go u = 0 ∨ go u = ot_vl s u + 1) n () (fun u hu => by omega) ?_ ?_
  · intro k _ hI
    exact br_t (nI_le (Nat.le_refl _) (by omega)) (h1 hI)
  · intro k v _ hv hI ih
    have b := hgo v
    have v4 := ot_vl4 s v
    have e0 : (0 : Int32) + nI v = nI v := Int32.zero_add _
    refine br_f (nI_ge hv (by omega)) ⟨by rw [e0]; exact vp_in_nI (by omega) (by omega), nm_r (e' := ot_rv (go v)) (by rw [e0, nI_clamp (by omega), hG _ (by omega)]) ?_⟩
    rcases Classical.em (go v = 0) with z | z
    · exact br_t ((ot_rvm _ (by omega)).mpr z) (nm_r (nI_1 v) (ih () (lt_s hI (Or.inl z))))
    · refine br_f (fun y => z ((ot_rvm _ (by omega)).mp y)) (ox_val hs (by omega) ?_)
      rcases Classical.em (go v = ot_vl s v + 1) with y | y
      · exact br_t ((ot_rve _ (by omega) _ (by omega)).mpr y) (nm_r (nI_1 v) (ih () (lt_s hI (Or.inr y))))
      · exact br_f (fun q => y ((ot_rve _ (by omega) _ (by omega)).mp q)) (h0 fun q => (q v hv).elim z y)
theorem ox_after (T : ot_T n d m co ne ef be go aC aN aE aB aG) {s o : Nat} (hs : ot_ok n d s) (ho : o < 10) {post : Int32 → Prop} (h : post (nI (ot_nx ef o s n))) : wpX_stateAfter post (nI n, nI d, nI m, mt, lc, aC, aN, aE, aB, aG, od, sn, mv, rm, bd, ls, ah) (nI s) (nI o) := by
  obtain ⟨⟨⟨hn1, hn⟩, ⟨hd1, hd⟩, hm⟩, ⟨hC, hco⟩, ⟨hN, hne⟩, ⟨hE, hef⟩, ⟨hB, hbe⟩, ⟨hG, hgo⟩⟩ := T
  refine loop_0 (σ := Unit) (fun k v _ => wX_stateAfter_5 post (nI o) (nI n) (nI d) (nI m) mt lc aC aN aE aB aG od sn mv rm bd ls ah k (nI (ot_nx ef o s v)) (nI v)) (fun _ _ => True) n () trivial ?_ ?_
  · intro k _ _
    exact br_t (nI_le (Nat.le_refl _) (by omega)) h
  · intro k v _ hv _ ih
    have b := hef (5 * o + v)
    have e5 : nI o * 5 + nI v = nI (5 * o + v) := by rw [show nI o * 5 = nI (o * 5) from pk_mul o 5, nI_add, Nat.mul_comm]
    have hx := ot_ok_lt hn (ot_nx_ok (o := o) hn hd hef hs v (by omega))
    refine br_f (nI_ge hv (by omega)) ⟨by rw [e5]; exact vp_in_nI (by omega) (by omega), nm_r (e' := ot_rv (ef (5 * o + v))) (by rw [e5, nI_clamp (by omega), hE _ (by omega)]) ?_⟩
    rcases Classical.em (ef (5 * o + v) = 0) with z | z
    · refine br_t ((ot_rvm _ (by omega)).mpr z) (nm_r (nI_1 v) ?_)
      have := ih () trivial
      rw [ot_nx_0 z] at this
      exact this
    · refine br_f (fun y => z ((ot_rvm _ (by omega)).mp y)) (nm_r (e' := nI (ot_nx ef o s (v + 1))) ?_ (nm_r (nI_1 v) (ih () trivial)))
      rw [ot_rvp z, ot_nx_1 z]
      exact ot_set hx (by omega) (by omega)
/-- a barred fact, or none -/
def ot_bf (p : Int32) (br : Nat → Prop) : Prop := (p = -1 ∧ ∀ s, ¬ br s) ∨ ∃ f, f < 20 ∧ p = nI f ∧ ∀ s, br s ↔ ot_vl s (f / 4) = f % 4
theorem ox_meet {s k : Nat} {p1 : Int32} {br : Nat → Prop} (hs : s < 1024) (hb : ot_bf p1 br) (hsn : sn s = 0 ∨ sn s = 1) (hk : sn s = 0 → k < 1024) {post : SX → Prop} (h1 : sn s = 1 ∨ br s → post (nI n, nI d, nI m, nI k, lc, aC, aN, aE, aB, aG, od, sn, mv, rm, bd, ls, ah)) (h2 : sn s = 0 → ¬ br s → post (nI n, nI d, nI m, nI (k + 1), lc, aC, aN, aE, aB, aG, upd od k (nI s), upd sn s 1, mv, rm, bd, ls, ah)) : wpX_meet post (nI n, nI d, nI m, nI k, lc, aC, aN, aE, aB, aG, od, sn, mv, rm, bd, ls, ah) (nI s) p1 := by
  have c : (nI s).toNatClampNeg = s := nI_clamp (by omega)
  have i : vp_in (nI s) 1024 := vp_in_nI hs (by omega)
  rcases hsn with z | z
  · have ck : (nI k).toNatClampNeg = k := nI_clamp (by have := hk z; omega)
    have ik : vp_in (nI k) 1024 := vp_in_nI (hk z) (by omega)
    have fin : ¬ br s → wX_meet_29 post (nI s) (nI n) (nI d) (nI m) (nI k) lc aC aN aE aB aG od sn mv rm bd ls ah := fun y => by
      unfold wX_meet_29
      refine ⟨i, nm_r (e' := upd sn s 1) (by rw [c]; rfl) ⟨ik, nm_r (e' := upd od k (nI s)) (by rw [ck]) (nm_r (nI_1 k) (h2 z y))⟩⟩
    refine ⟨i, br_t (by rw [c]; exact z) ?_⟩
    rcases hb with ⟨e, hn⟩ | ⟨f, hf, e, hb⟩
    · exact br_t e (fin (hn s))
    · subst e
      have e4 : nI f / 4 = nI (f / 4) := pk_div (d := 4) (by omega) (by omega) (by omega)
      have e5 : nI f - nI f / 4 * 4 = nI (f % 4) := pk_rem (d := 4) (by omega) (by omega) (by omega)
      refine br_f (ot_nn (by omega)).1 ⟨by decide, ?_⟩
      rw [e4] 
      refine ox_val hs (by omega) ⟨by decide, ?_⟩
      rw [← e4, e5]
      have v4 := ot_vl4 s (f / 4)
      rcases Classical.em (br s) with y | y
      · exact br_t ((nI_eq (by omega) (by omega)).mpr ((hb s).mp y)) (h1 (Or.inr y))
      · exact br_f (fun q => y ((hb s).mpr ((nI_eq (by omega) (by omega)).mp q))) (fin y)
  · exact ⟨i, br_f (by rw [c, z]; decide) (h1 (Or.inl z))⟩
end
