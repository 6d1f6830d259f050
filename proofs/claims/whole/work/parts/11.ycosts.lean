/-! the reference's ways -/
def ot_EY (n d m : Nat) (ne ef : Nat → Nat) (o s t : Nat) : Prop := ot_ok n d s ∧ o < m ∧ ot_ap n ne o s ∧ t = ot_nx ef o s n
def ot_LF (n : Nat) (w : Nat → Nat) (yl yf : Nat → Int32) : Prop := (∀ s, w s ≤ 1000000000) ∧ (∀ s, ¬ s < 4 ^ n → w s = 1000000000) ∧ ∀ s, s < 4 ^ n → (w s = 1000000000 → yl s = nI 1000000) ∧ (w s ≠ 1000000000 → yl s = nI (w s / 1024) ∧ yf s = nI (w s % 1024))
theorem ot_LFup {n : Nat} {w : Nat → Nat} {yl yf : Nat → Int32} (h : ot_LF n w yl yf) {s C L : Nat} (hs : s < 4 ^ n) (hL : L ≤ 1023) (hx : 1024 * C + L < 1000000000) : ot_LF n (ot_up w s (1024 * C + L)) (upd yl s (nI C)) (upd yf s (nI L)) := by
  refine ⟨fun s' => ?_, fun s' hs' => ?_, fun s' hs' => ?_⟩
  · rcases Classical.em (s' = s) with e | e
    · rw [e, ot_us]; omega
    · rw [ot_un e]; exact h.1 s'
  · rw [ot_un (fun e => hs' (by rw [e]; exact hs))]; exact h.2.1 s' hs'
  · rcases Classical.em (s' = s) with e | e
    · rw [e, ot_us, pk_us, pk_us, show (1024 * C + L) / 1024 = C by omega, show (1024 * C + L) % 1024 = L by omega]
      exact ⟨fun z => by omega, fun _ => ⟨rfl, rfl⟩⟩
    · rw [ot_un e, pk_un e, pk_un e]; exact h.2.2 s' hs'
section
variable {n d m : Nat} {co ne ef be go : Nat → Nat} {aC aN aE aB aG ym yb yd yr : Nat → Int32} {rz : Int32} {g : Nat → Prop} {w : Nat → Nat}
theorem oy_improve (T : ot_T n d m co ne ef be go aC aN aE aB aG) {yl yf : Nat → Int32} (hw : ot_LF n w yl yf) (hI : ot_I (ot_EY n d m ne ef) co g w) {s o : Nat} (hs : ot_ok n d s) (ho : o < m) {post : Int32 → SY → Prop}
    (h1 : ot_ap n ne o s → w (ot_nx ef o s n) ≠ 1000000000 → w (ot_nx ef o s n) + (1024 * co o + 1) < w s → ∀ yl yf, ot_LF n (ot_up w s (w (ot_nx ef o s n) + (1024 * co o + 1))) yl yf → post 1 (nI n, nI d, nI m, rz, aC, aN, aE, aB, aG, yl, yf, ym, yb, yd, yr))
    (h0 : (ot_ap n ne o s → w (ot_nx ef o s n) ≠ 1000000000 → w s ≤ w (ot_nx ef o s n) + (1024 * co o + 1)) → post 0 (nI n, nI d, nI m, rz, aC, aN, aE, aB, aG, yl, yf, ym, yb, yd, yr)) : wpY_improve post (nI n, nI d, nI m, rz, aC, aN, aE, aB, aG, yl, yf, ym, yb, yd, yr) (nI s) (nI o) := by
  have T0 := T
  obtain ⟨⟨⟨hn1, hn⟩, ⟨hd1, hd⟩, hm⟩, ⟨hC, hco⟩, ⟨hN, hne⟩, ⟨hE, hef⟩, ⟨hB, hbe⟩, ⟨hG, hgo⟩⟩ := T
  have slt := ot_ok_lt hn hs
  refine oy_use T0 hs (by omega) (fun ha => ?_) (fun ha => br_t (by decide) (h0 (fun y => absurd y ha)))
  have tok := ot_nx_ok (o := o) hn hd hef hs n (Nat.le_refl _)
  have tlt := ot_ok_lt hn tok
  have it : vp_in (nI (ot_nx ef o s n)) 1024 := vp_in_nI tlt (by omega)
  have is : vp_in (nI s) 1024 := vp_in_nI slt (by omega)
  have io : vp_in (nI o) 10 := vp_in_nI (by omega) (by omega)
  have ct : (nI (ot_nx ef o s n)).toNatClampNeg = ot_nx ef o s n := nI_clamp (by omega)
  have cs : (nI s).toNatClampNeg = s := nI_clamp (by omega)
  have cO : (nI o).toNatClampNeg = o := nI_clamp (by omega)
  have c9 := hco o
  have hCo := hC o (by omega)
  have wt := hw.2.2 _ tok.1
  have ws := hw.2.2 s hs.1
  refine br_f (nI_pos (by omega)) ⟨it, ?_⟩
  rw [ct, cO, cs]
  rcases Classical.em (w (ot_nx ef o s n) = 1000000000) with z | z
  · exact br_f (by rw [wt.1 z]; exact nI_nlt (b := 1000000) (by omega) (by omega)) (h0 (fun _ y => absurd z y))
  · obtain ⟨C, L, e1, hC, hL, _, _⟩ := ot_Ib hI z
    have d1 : w (ot_nx ef o s n) / 1024 = C := by omega
    have d2 : w (ot_nx ef o s n) % 1024 = L := by omega
    have wt2 := wt.2 z
    rw [d1, d2] at wt2
    have acc : w (ot_nx ef o s n) + (1024 * co o + 1) < w s → wY_improve_84 post (nI s) (nI (co o + C)) (nI (L + 1)) (nI n) (nI d) (nI m) rz aC aN aE aB aG yl yf ym yb yd yr := fun hlt => by
      have ws9 := hw.1 s
      have hr := ot_relax hI (hco o) slt ⟨hs, ho, ha, rfl⟩ z hlt
      have n0 : ot_up w s (w (ot_nx ef o s n) + (1024 * co o + 1)) s ≠ 1000000000 := by rw [ot_us]; omega
      obtain ⟨C2, L2, e2, hC2, hL2, _, _⟩ := ot_Ib hr n0
      rw [ot_us] at e2
      have lf := ot_LFup hw (s := s) (C := co o + C) (L := L + 1) hs.1 (by omega) (by omega)
      rw [show 1024 * (co o + C) + (L + 1) = w (ot_nx ef o s n) + (1024 * co o + 1) by omega] at lf
      exact ⟨is, nm_r (by rw [cs]) ⟨is, nm_r (by rw [cs]) (h1 ha z hlt _ _ lf)⟩⟩
    refine br_t (by rw [wt2.1]; exact nI_lt (b := 1000000) (by omega) (by omega)) ⟨io, it, nm_r (e' := nI (co o + C)) (by rw [hCo, wt2.1, nI_add]) ⟨it, nm_r (e' := nI (L + 1)) (by rw [wt2.2, nI_1]) ⟨is, ?_⟩⟩⟩
    rcases Classical.em (w s = 1000000000) with y | y
    · rw [ws.1 y]
      exact br_f (nI_nlt (by omega) (by omega)) ⟨is, br_f (fun q => by have := (nI_eq (by omega) (by omega)).mp q; omega) (acc (by omega))⟩
    · obtain ⟨C', L', e1', hC', hL', _, _⟩ := ot_Ib hI y
      have ws2 := ws.2 y
      rw [show w s / 1024 = C' by omega, show w s % 1024 = L' by omega] at ws2
      rw [ws2.1, ws2.2]
      rcases Nat.lt_or_ge C' (co o + C) with q | q
      · exact br_t (nI_lt q (by omega)) (h0 (fun _ _ => by omega))
      · refine br_f (nI_nlt q (by omega)) ⟨is, ?_⟩
        rcases Classical.em (co o + C = C') with p | p
        · refine br_t (by rw [p]) ⟨is, ?_⟩
          rcases Nat.lt_or_ge (L + 1) L' with u | u
          · exact br_t (nI_lt u (by omega)) (acc (by omega))
          · exact br_f (nI_nlt u (by omega)) (h0 (fun _ _ => by omega))
        · exact br_f (fun u => p ((nI_eq (by omega) (by omega)).mp u)) (acc (by omega))
theorem oy_fc81 (T : ot_T n d m co ne ef be go aC aN aE aB aG) {w0 : Nat → Nat} {post : SY → Prop} {J63 : Int32 → Int32 → Int32 → Int32 → Int32 → (Nat → Int32) → (Nat → Int32) → (Nat → Int32) → (Nat → Int32) → (Nat → Int32) → (Nat → Int32) → (Nat → Int32) → (Nat → Int32) → (Nat → Int32) → (Nat → Int32) → (Nat → Int32) → Prop} {J : Int32 → Int32 → Int32 → Int32 → Int32 → Int32 → (Nat → Int32) → (Nat → Int32) → (Nat → Int32) → (Nat → Int32) → (Nat → Int32) → (Nat → Int32) → (Nat → Int32) → (Nat → Int32) → (Nat → Int32) → (Nat → Int32) → (Nat → Int32) → Prop} {s : Nat} (hs : s < 4 ^ n)
    (hJ : ∀ c yl yf w, (c = 0 ∨ c = 1) → (c = 0 → w = w0) → (c = 1 → ot_sm w (4 ^ n) < ot_sm w0 (4 ^ n)) → ot_LF n w yl yf → ot_Rx (ot_EY n d m ne ef) co g (fun _ s' => s' < s + 1) w0 w → J c (nI (s + 1)) (nI n) (nI d) (nI m) rz aC aN aE aB aG yl yf ym yb yd yr) :
    ∀ fu o c yl yf w, o ≤ m → m - o < fu → (c = 0 ∨ c = 1) → (c = 0 → w = w0) → (c = 1 → ot_sm w (4 ^ n) < ot_sm w0 (4 ^ n)) → ot_LF n w yl yf → ot_Rx (ot_EY n d m ne ef) co g (fun o' s' => s' < s ∨ (s' = s ∧ o' < o)) w0 w → wY_findCosts_81 post J63 J (nI s) fu c (nI o) (nI n) (nI d) (nI m) rz aC aN aE aB aG yl yf ym yb yd yr := by
  have T0 := T
  obtain ⟨⟨⟨hn1, hn⟩, ⟨hd1, hd⟩, hm⟩, ⟨hC, hco⟩, ⟨hN, hne⟩, ⟨hE, hef⟩, ⟨hB, hbe⟩, ⟨hG, hgo⟩⟩ := T
  have p4 := ot_4n hn
  intro fu
  induction fu with
  | zero => intro o c yl yf w _ h; omega
  | succ fu ih =>
  intro o c yl yf w ho hfu hc hc0 hc1 hw hI
  rcases Nat.lt_or_ge o m with z | z
  · refine br_f (nI_ge z (by omega)) (oy_isState T0 (by omega) (fun hv => ?_) (fun hv => ?_))
    · have sok : ot_ok n d s := ⟨hs, hv⟩
      have hD : ∀ o' s', (s' < s ∨ (s' = s ∧ o' < o + 1)) → (s' < s ∨ (s' = s ∧ o' < o)) ∨ (o' = o ∧ s' = s) := fun o' s' y => by omega
      refine br_f ot_01' (oy_improve T0 hw hI.1 sok z (fun a1 a2 a3 yl' yf' hw' => ?_) (fun a1 => ?_))
      · have hr := ot_Rxle hI (hco o) (by omega) (fun t' he => he.2.2.2) ⟨sok, z, a1, rfl⟩ a2 rfl a3
        refine br_f ot_01' (nm_r (nI_1 o) (ih (o + 1) 1 yl' yf' _ (by omega) (by omega) (Or.inr rfl) (fun q => absurd q ot_01') (fun _ => ?_) hw' (ot_RxD hr (fun o' s' _ _ => hD o' s'))))
        have l1 := ot_smlt (w := w) (w' := ot_up w s (w (ot_nx ef o s n) + (1024 * co o + 1))) (fun s' => ot_ule (Nat.le_of_lt a3) s') (a := s) (by rw [ot_us]; exact a3) (4 ^ n) hs
        have l2 := ot_smle hI.2.1 (4 ^ n)
        omega
      · have hr := ot_Rxge hI (s := s) (o := o) (fun t he ht => by
          obtain ⟨-, -, q1, rfl⟩ := he
          exact a1 q1 ht)
        have nx1 : wY_findCosts_81 post J63 J (nI s) fu c (nI (o + 1)) (nI n) (nI d) (nI m) rz aC aN aE aB aG yl yf ym yb yd yr := ih (o + 1) c yl yf w (by omega) (by omega) hc hc0 hc1 hw (ot_RxD hr (fun o' s' _ _ => hD o' s'))
        refine br_t rfl ?_
        rcases hc with q | q
        · subst q; exact br_t rfl (nm_r (nI_1 o) nx1)
        · subst q; exact br_f ot_01' (nm_r (nI_1 o) nx1)
    · exact br_t rfl (nm_r (nI_1 s) (hJ c yl yf w hc hc0 hc1 hw (ot_RxD hI (fun o' s' t he y => by
        rcases Classical.em (s' = s) with q | q
        · subst q; exact absurd he.1.2 hv
        · exact Or.inl (by omega)))))
  · exact br_t (nI_le z (by omega)) (nm_r (nI_1 s) (hJ c yl yf w hc hc0 hc1 hw (ot_RxD hI (fun o' s' t he y => by have := he.2.1; omega))))
theorem oy_findCosts (T : ot_T n d m co ne ef be go aC aN aE aB aG) {yl yf : Nat → Int32} {post : SY → Prop}
    (h : ∀ yl yf w, ot_LF n w yl yf → ot_I (ot_EY n d m ne ef) co (fun s => ot_ok n d s ∧ ot_gl n go s) w → ot_S (ot_EY n d m ne ef) co (fun s => ot_ok n d s ∧ ot_gl n go s) w → post (nI n, nI d, nI m, rz, aC, aN, aE, aB, aG, yl, yf, ym, yb, yd, yr)) : wpY_findCosts post (nI n, nI d, nI m, rz, aC, aN, aE, aB, aG, yl, yf, ym, yb, yd, yr) := by
  have T0 := T
  obtain ⟨⟨⟨hn1, hn⟩, ⟨hd1, hd⟩, hm⟩, ⟨hC, hco⟩, ⟨hN, hne⟩, ⟨hE, hef⟩, ⟨hB, hbe⟩, ⟨hG, hgo⟩⟩ := T
  have p4 := ot_4n hn
  have p1 := ot_4p n
  have k71 : ∀ (J63 : Int32 → Int32 → Int32 → Int32 → Int32 → (Nat → Int32) → (Nat → Int32) → (Nat → Int32) → (Nat → Int32) → (Nat → Int32) → (Nat → Int32) → (Nat → Int32) → (Nat → Int32) → (Nat → Int32) → (Nat → Int32) → (Nat → Int32) → Prop) (w0 : Nat → Nat), (∀ c yl yf w, (c = 0 ∨ c = 1) → (c = 0 → w = w0) → (c = 1 → ot_sm w (4 ^ n) < ot_sm w0 (4 ^ n)) → ot_LF n w yl yf → ot_Rx (ot_EY n d m ne ef) co (fun s => ot_ok n d s ∧ ot_gl n go s) (fun _ _ => True) w0 w → J63 c (nI n) (nI d) (nI m) rz aC aN aE aB aG yl yf ym yb yd yr) →
      ∀ fu s c yl yf w, s ≤ 4 ^ n → 4 ^ n - s < fu → (c = 0 ∨ c = 1) → (c = 0 → w = w0) → (c = 1 → ot_sm w (4 ^ n) < ot_sm w0 (4 ^ n)) → ot_LF n w yl yf → ot_Rx (ot_EY n d m ne ef) co (fun s => ot_ok n d s ∧ ot_gl n go s) (fun _ s' => s' < s) w0 w → wY_findCosts_71 post J63 fu c (nI s) (nI n) (nI d) (nI m) rz aC aN aE aB aG yl yf ym yb yd yr := by
    intro J63 w0 hJ fu
    induction fu with
    | zero => intro s c yl yf w _ h; omega
    | succ fu ih =>
    intro s c yl yf w hs hfu hc hc0 hc1 hw hI
    simp only [wY_findCosts_71, oy_st T0]
    rcases Nat.lt_or_ge s (4 ^ n) with z | z
    · exact br_f (nI_ge z (by omega)) ⟨m + 1, oy_fc81 T0 z (fun c yl yf w a b c' e f' => ih (s + 1) c yl yf w (by omega) (by omega) a b c' e f') (m + 1) 0 c yl yf w (Nat.zero_le _) (by omega) hc hc0 hc1 hw (ot_RxD hI (fun o' s' t _ y => by omega))⟩
    · exact br_t (nI_le z (by omega)) (hJ c yl yf w hc hc0 hc1 hw (ot_RxD hI (fun o' s' t he _ => by have := he.1.1; omega)))
  have k63 : ∀ fu c yl yf w, (c = 0 ∨ c = 1) → (c = 0 → ot_S (ot_EY n d m ne ef) co (fun s => ot_ok n d s ∧ ot_gl n go s) w) → ot_sm w (4 ^ n) + (if c = 0 then 0 else 1) < fu → ot_LF n w yl yf → ot_I (ot_EY n d m ne ef) co (fun s => ot_ok n d s ∧ ot_gl n go s) w → (∀ s, ot_ok n d s ∧ ot_gl n go s → w s = 0) → wY_findCosts_63 post fu c (nI n) (nI d) (nI m) rz aC aN aE aB aG yl yf ym yb yd yr := by
    intro fu
    induction fu with
    | zero => intro c yl yf w _ _ h; omega
    | succ fu ih =>
    intro c yl yf w hc hS hfu hw hI hg
    rcases hc with z | z
    · exact br_t z (h yl yf w hw hI (hS z))
    · subst z
      rw [if_neg ot_01'] at hfu
      refine br_f ot_01' ⟨4 ^ n + 1, k71 _ w (fun c' yl' yf' w' a b c2 e f' => ?_) (4 ^ n + 1) 0 0 yl yf w (Nat.zero_le _) (by omega) (Or.inl rfl) (fun _ => rfl) (fun q => absurd q ot_01) hw (ot_RxD (ot_Rx0 hI hw.1) (fun o' s' t _ y => by omega))⟩
      have hg' : ∀ s, ot_ok n d s ∧ ot_gl n go s → w' s = 0 := fun s hs => by have := hg s hs; have := f'.2.1 s; omega
      rcases a with q | q
      · subst q
        have e2 := b rfl
        subst e2
        exact ih 0 yl' yf' w' (Or.inl rfl) (fun _ => ⟨hw.1, hg', fun o s t he ht => f'.2.2.2 o s t he trivial ht⟩) (by rw [if_pos rfl]; omega) e f'.1 hg'
      · subst q
        have := c2 rfl
        exact ih 1 yl' yf' w' (Or.inr rfl) (fun q => absurd q ot_01') (by rw [if_neg ot_01']; omega) e f'.1 hg'
  refine loop_0 (fun fu i (q : (Nat → Int32) × (Nat → Int32)) => wY_findCosts_2 post (nI n) (nI d) (nI m) rz fu (nI i) aC aN aE aB aG q.1 q.2 ym yb yd yr) (fun i q => ∀ j, j < i → (ot_ok n d j ∧ ot_gl n go j → q.1 j = 0) ∧ (¬ (ot_ok n d j ∧ ot_gl n go j) → q.1 j = 1000000) ∧ q.2 j = 0) (4 ^ n) (yl, yf) (fun j hj => by omega) ?_ ?_
  · intro fu q hI
    simp only [wY_findCosts_2, oy_st T0]
    refine br_t (nI_le (Nat.le_refl _) (by omega)) ⟨_, k63 (ot_sm (ot_w0 (fun s => ot_ok n d s ∧ ot_gl n go s)) (4 ^ n) + 2) 1 q.1 q.2 (ot_w0 (fun s => ot_ok n d s ∧ ot_gl n go s)) (Or.inr rfl) (fun p => absurd p ot_01') (by rw [if_neg ot_01']; omega) ⟨ot_w0le _, fun s hs => ot_w0f (fun p => hs p.1.1), fun s hs => ?_⟩ (ot_w0I (fun s hs => ot_ok_lt hn hs.1)) (fun s hs => ot_w0t hs)⟩
    have a := hI s hs
    rcases Classical.em (ot_ok n d s ∧ ot_gl n go s) with p | p
    · rw [ot_w0t (g := fun s => ot_ok n d s ∧ ot_gl n go s) p]
      exact ⟨fun u => by omega, fun _ => ⟨a.1 p, a.2.2⟩⟩
    · rw [ot_w0f (g := fun s => ot_ok n d s ∧ ot_gl n go s) p]
      exact ⟨fun _ => a.2.1 p, fun u => absurd rfl u⟩
  · intro fu i q hi hI ih
    simp only [wY_findCosts_2, oy_st T0]
    have iv : vp_in (nI i) 1024 := vp_in_nI (by omega) (by omega)
    have ci : (nI i).toNatClampNeg = i := nI_clamp (by omega)
    have fin : ∀ x : Int32, ((ot_ok n d i ∧ ot_gl n go i → x = 0) ∧ (¬ (ot_ok n d i ∧ ot_gl n go i) → x = 1000000)) → wY_findCosts_47 post (wY_findCosts_2 post (nI n) (nI d) (nI m) rz fu) (nI i) x (nI i) (nI n) (nI d) (nI m) rz aC aN aE aB aG q.1 q.2 ym yb yd yr := fun x hx =>
      ⟨iv, nm_r (e' := upd q.1 i x) (by rw [ci]) ⟨iv, nm_r (e' := upd q.2 i 0) (by rw [ci]) (nm_r (nI_1 i) (ih (upd q.1 i x, upd q.2 i 0) (lt_s (fun j hj => by
        show (_ → upd q.1 i x j = 0) ∧ (_ → upd q.1 i x j = 1000000) ∧ upd q.2 i 0 j = 0
        rw [pk_un (by omega), pk_un (by omega)]; exact hI j hj) (by
        show (_ → upd q.1 i x i = 0) ∧ (_ → upd q.1 i x i = 1000000) ∧ upd q.2 i 0 i = 0
        rw [pk_us, pk_us]; exact ⟨hx.1, hx.2, rfl⟩))))⟩⟩
    refine br_f (nI_ge hi (by omega)) (oy_isState T0 (by omega) (fun hv => ?_) (fun hv => ?_))
    · refine br_f ot_01' (oy_isGoal T0 (by omega) (fun hg => ?_) (fun hg => ?_))
      · exact br_f ot_01' (br_f ot_01' (fin 0 ⟨fun _ => rfl, fun p => absurd ⟨⟨hi, hv⟩, hg⟩ p⟩))
      · exact br_t rfl (br_t rfl (fin 1000000 ⟨fun p => absurd p.2 hg, fun _ => rfl⟩))
    · exact br_t rfl (br_t rfl (fin 1000000 ⟨fun p => absurd p.1.2 hv, fun _ => rfl⟩))
end
