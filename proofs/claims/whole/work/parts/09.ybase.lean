/-! the reference: values, begin, states, goal, use -/
section
variable {n d m : Nat} {co ne ef be go : Nat → Nat} {aC aN aE aB aG yl yf ym yb yd yr : Nat → Int32} {rz : Int32}
theorem oy_val {s v : Nat} {post : Int32 → Prop} (hs : s < 1024) (hv : v < 5) (h : post (nI (ot_vl s v))) : wpY_valueIn post (nI n, nI d, nI m, rz, aC, aN, aE, aB, aG, yl, yf, ym, yb, yd, yr) (nI s) (nI v) := by
  show post ((nI s >>> ((2 * nI v) &&& 31)) &&& 3)
  rw [ot_val hs hv]
  exact h
theorem oy_states (T : ot_T n d m co ne ef be go aC aN aE aB aG) {post : Int32 → Prop} (h : post (nI (4 ^ n))) : wpY_states post (nI n, nI d, nI m, rz, aC, aN, aE, aB, aG, yl, yf, ym, yb, yd, yr) := by
  obtain ⟨⟨⟨hn1, hn⟩, ⟨hd1, hd⟩, hm⟩, ⟨hC, hco⟩, ⟨hN, hne⟩, ⟨hE, hef⟩, ⟨hB, hbe⟩, ⟨hG, hgo⟩⟩ := T
  show post ((1 : Int32) <<< ((2 * nI n) &&& 31))
  rw [ot_pw n (by omega)]
  exact h
theorem oy_st (T : ot_T n d m co ne ef be go aC aN aE aB aG) {post : Int32 → Prop} : wpY_states post (nI n, nI d, nI m, rz, aC, aN, aE, aB, aG, yl, yf, ym, yb, yd, yr) = post (nI (4 ^ n)) := by
  obtain ⟨⟨⟨hn1, hn⟩, ⟨hd1, hd⟩, hm⟩, ⟨hC, hco⟩, ⟨hN, hne⟩, ⟨hE, hef⟩, ⟨hB, hbe⟩, ⟨hG, hgo⟩⟩ := T
  show post ((1 : Int32) <<< ((2 * nI n) &&& 31)) = _
  rw [ot_pw n (by omega)]
theorem oy_begin (T : ot_T n d m co ne ef be go aC aN aE aB aG) {post : Int32 → Prop} (h : post (nI (ot_bs be n))) : wpY_beginState post (nI n, nI d, nI m, rz, aC, aN, aE, aB, aG, yl, yf, ym, yb, yd, yr) := by
  have hs := fun k (hk : k ≤ n) => ot_s0k T hk
  obtain ⟨⟨⟨hn1, hn⟩, ⟨hd1, hd⟩, hm⟩, ⟨hC, hco⟩, ⟨hN, hne⟩, ⟨hE, hef⟩, ⟨hB, hbe⟩, ⟨hG, hgo⟩⟩ := T
  refine loop_0 (σ := Unit) (fun k v _ => wY_beginState_4 post (nI n) (nI d) (nI m) rz aC aN aE aB aG yl yf ym yb yd yr k (nI (ot_bs be v)) (nI v)) (fun _ _ => True) n () trivial ?_ ?_
  · intro k _ _
    exact br_t (nI_le (Nat.le_refl _) (by omega)) h
  · intro k v _ hv _ ih
    refine br_f (nI_ge hv (by omega)) ⟨vp_in_nI (by omega) (by omega), nm_r (e' := nI (ot_bs be (v + 1))) ?_ (nm_r (nI_1 v) (ih () trivial))⟩
    have b := hbe v
    rw [nI_clamp (by omega), hB v (by omega)]
    exact ot_or (hs v (by omega)) (by omega) (by omega)
theorem oy_isState (T : ot_T n d m co ne ef be go aC aN aE aB aG) {s : Nat} (hs : s < 1024) {post : Int32 → Prop} (h1 : (∀ v, v < n → ot_vl s v < d) → post 1) (h0 : ¬ (∀ v, v < n → ot_vl s v < d) → post 0) : wpY_isState post (nI n, nI d, nI m, rz, aC, aN, aE, aB, aG, yl, yf, ym, yb, yd, yr) (nI s) := by
  obtain ⟨⟨⟨hn1, hn⟩, ⟨hd1, hd⟩, hm⟩, ⟨hC, hco⟩, ⟨hN, hne⟩, ⟨hE, hef⟩, ⟨hB, hbe⟩, ⟨hG, hgo⟩⟩ := T
  refine loop_0 (σ := Unit) (fun k v _ => wY_isState_2 post (nI s) (nI n) (nI d) (nI m) rz aC aN aE aB aG yl yf ym yb yd yr k (nI v)) (fun v _ => ∀ u, u < v → ot_vl s u < d) n () (fun u hu => by omega) ?_ ?_
  · intro k _ hI
    exact br_t (nI_le (Nat.le_refl _) (by omega)) (h1 hI)
  · intro k v _ hv hI ih
    have v4 := ot_vl4 s v
    refine br_f (nI_ge hv (by omega)) (oy_val hs (by omega) ?_)
    rcases Nat.lt_or_ge (ot_vl s v) d with z | z
    · exact br_t (nI_lt z (by omega)) (nm_r (nI_1 v) (ih () (lt_s hI z)))
    · exact br_f (nI_nlt z (by omega)) (h0 fun q => by have := q v hv; omega)
theorem oy_isGoal (T : ot_T n d m co ne ef be go aC aN aE aB aG) {s : Nat} (hs : s < 1024) {post : Int32 → Prop} (h1 : ot_gl n go s → post 1) (h0 : ¬ ot_gl n go s → post 0) : wpY_isGoal post (nI n, nI d, nI m, rz, aC, aN, aE, aB, aG, yl, yf, ym, yb, yd, yr) (nI s) := by
  obtain ⟨⟨⟨hn1, hn⟩, ⟨hd1, hd⟩, hm⟩, ⟨hC, hco⟩, ⟨hN, hne⟩, ⟨hE, hef⟩, ⟨hB, hbe⟩, ⟨hG, hgo⟩⟩ := T
  refine loop_0 (σ := Unit) (fun k v _ => wY_isGoal_2 post (nI s) (nI n) (nI d) (nI m) rz aC aN aE aB aG yl yf ym yb yd yr k (nI v)) (fun v _ => ∀ u, u < v → go u = 0 ∨ go u = ot_vl s u + 1) n () (fun u hu => by omega) ?_ ?_
  · intro k _ hI
    exact br_t (nI_le (Nat.le_refl _) (by omega)) (h1 hI)
  · intro k v _ hv hI ih
    have b := hgo v
    have v4 := ot_vl4 s v
    refine br_f (nI_ge hv (by omega)) ⟨vp_in_nI (by omega) (by omega), ?_⟩
    rw [nI_clamp (by omega), hG v (by omega)]
    rcases Classical.em (go v = 0) with z | z
    · exact br_t ((ot_rvn _ (by omega)).mpr z) (nm_r (nI_1 v) (ih () (lt_s hI (Or.inl z))))
    · refine br_f (fun y => z ((ot_rvn _ (by omega)).mp y)) ⟨vp_in_nI (by omega) (by omega), oy_val hs (by omega) ?_⟩
      rcases Classical.em (go v = ot_vl s v + 1) with y | y
      · exact br_t ((ot_rve _ (by omega) _ (by omega)).mpr y) (nm_r (nI_1 v) (ih () (lt_s hI (Or.inr y))))
      · exact br_f (fun q => y ((ot_rve _ (by omega) _ (by omega)).mp q)) (h0 fun q => (q v hv).elim z y)
theorem oy_use (T : ot_T n d m co ne ef be go aC aN aE aB aG) {s o : Nat} (hs : ot_ok n d s) (ho : o < 10) {post : Int32 → Prop} (h1 : ot_ap n ne o s → post (nI (ot_nx ef o s n))) (h0 : ¬ ot_ap n ne o s → post (-1)) : wpY_use post (nI n, nI d, nI m, rz, aC, aN, aE, aB, aG, yl, yf, ym, yb, yd, yr) (nI o) (nI s) := by
  obtain ⟨⟨⟨hn1, hn⟩, ⟨hd1, hd⟩, hm⟩, ⟨hC, hco⟩, ⟨hN, hne⟩, ⟨hE, hef⟩, ⟨hB, hbe⟩, ⟨hG, hgo⟩⟩ := T
  have slt := ot_ok_lt hn hs
  refine loop_0 (σ := Unit) (fun k v _ => wY_use_5 post (nI o) (nI s) (nI n) (nI d) (nI m) rz aC aN aE aB aG yl yf ym yb yd yr k (nI (ot_nx ef o s v)) (nI v)) (fun v _ => ∀ u, u < v → ne (5 * o + u) = 0 ∨ ne (5 * o + u) = ot_vl s u + 1) n () (fun u hu => by omega) ?_ ?_
  · intro k _ hI
    exact br_t (nI_le (Nat.le_refl _) (by omega)) (h1 hI)
  · intro k v _ hv hI ih
    have b := hne (5 * o + v)
    have b2 := hef (5 * o + v)
    have v4 := ot_vl4 s v
    have e5 : 5 * nI o + nI v = nI (5 * o + v) := by rw [show 5 * nI o = nI (5 * o) from pk_mul 5 o, nI_add]
    have hx := ot_ok_lt hn (ot_nx_ok (o := o) hn hd hef hs v (by omega))
    have iv : vp_in (5 * nI o + nI v) 50 := by rw [e5]; exact vp_in_nI (by omega) (by omega)
    have fin : (ne (5 * o + v) = 0 ∨ ne (5 * o + v) = ot_vl s v + 1) → wY_use_59 post (wY_use_5 post (nI o) (nI s) (nI n) (nI d) (nI m) rz aC aN aE aB aG yl yf ym yb yd yr k) (nI o) (nI s) (nI (ot_nx ef o s v)) (nI v) (ot_rv (ef (5 * o + v))) (nI n) (nI d) (nI m) rz aC aN aE aB aG yl yf ym yb yd yr := fun q => by
      rcases Classical.em (ef (5 * o + v) = 0) with z | z
      · refine br_t ((ot_rvn _ (by omega)).mpr z) (nm_r (nI_1 v) ?_)
        have := ih () (lt_s hI q)
        rw [ot_nx_0 z] at this
        exact this
      · refine br_f (fun y => z ((ot_rvn _ (by omega)).mp y)) (nm_r (e' := nI (ot_nx ef o s (v + 1))) ?_ (nm_r (nI_1 v) (ih () (lt_s hI q))))
        rw [ot_rvp z, ot_nx_1 z]
        exact ot_set hx (by omega) (by omega)
    refine br_f (nI_ge hv (by omega)) ⟨iv, nm_r (e' := ot_rv (ne (5 * o + v))) (by rw [e5, nI_clamp (by omega), hN _ (by omega)]) ⟨iv, nm_r (e' := ot_rv (ef (5 * o + v))) (by rw [e5, nI_clamp (by omega), hE _ (by omega)]) ?_⟩⟩
    rcases Classical.em (ne (5 * o + v) = 0) with z | z
    · exact br_t ((ot_rvn _ (by omega)).mpr z) (fin (Or.inl z))
    · refine br_f (fun y => z ((ot_rvn _ (by omega)).mp y)) (oy_val slt (by omega) ?_)
      rcases Classical.em (ne (5 * o + v) = ot_vl s v + 1) with y | y
      · exact br_t ((ot_rve _ (by omega) _ (by omega)).mpr y) (fin (Or.inr y))
      · exact br_f (fun q => y ((ot_rve _ (by omega) _ (by omega)).mp q)) (h0 fun q => (q v hv).elim z y)
end
