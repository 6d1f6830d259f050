/-! the relation, the constructors, the calls that write the task -/
def i_Rel (_ : Nat) (u : SX) (v : SY) : Prop := ∃ (n d m : Nat) (co ne ef be go : Nat → Nat) (aC aN aE aB aG : Nat → Int32) (mt lc rz : Int32) (od sn mv rm bd ls ah yl yf ym yb yd yr : Nat → Int32), u = (nI n, nI d, nI m, mt, lc, aC, aN, aE, aB, aG, od, sn, mv, rm, bd, ls, ah) ∧ v = (nI n, nI d, nI m, rz, aC, aN, aE, aB, aG, yl, yf, ym, yb, yd, yr) ∧ ot_T n d m co ne ef be go aC aN aE aB aG
theorem i_mk {k n d m : Nat} {co ne ef be go : Nat → Nat} {aC aN aE aB aG : Nat → Int32} {mt lc rz : Int32} {od sn mv rm bd ls ah yl yf ym yb yd yr : Nat → Int32} (T : ot_T n d m co ne ef be go aC aN aE aB aG) : i_Rel k (nI n, nI d, nI m, mt, lc, aC, aN, aE, aB, aG, od, sn, mv, rm, bd, ls, ah) (nI n, nI d, nI m, rz, aC, aN, aE, aB, aG, yl, yf, ym, yb, yd, yr) := ⟨n, d, m, co, ne, ef, be, go, aC, aN, aE, aB, aG, mt, lc, rz, od, sn, mv, rm, bd, ls, ah, yl, yf, ym, yb, yd, yr, rfl, rfl, T⟩
theorem i_up {k : Nat} {u : SX} {v : SY} (h : i_Rel k u v) : i_Rel (k + 5) u v := h
theorem ot_clamp (x : Int32) {lo hi : Nat} (hl : lo ≤ hi) (hh : hi < 2 ^ 31) : ∃ q, lo ≤ q ∧ q ≤ hi ∧ ∀ A : Int32 → Prop, A (nI q) → ((nI lo ≤ x → ((x ≤ nI hi → A x) ∧ (¬ x ≤ nI hi → A (nI hi)))) ∧ (¬ nI lo ≤ x → A (nI lo))) := by
  rcases Classical.em (nI lo ≤ x) with a | a
  · rcases Classical.em (x ≤ nI hi) with b | b
    · have n0 : ¬ x < 0 := by
        have h0 := nI_pos' (n := lo) (by omega)
        exact Int32.not_lt.mpr (Int32.le_trans h0 a)
      obtain ⟨q, hq, rfl⟩ := nI_of n0
      exact ⟨q, (nI_leI (by omega) hq).mp a, (nI_leI hq hh).mp b, fun A h => br_t a (br_t b h)⟩
    · exact ⟨hi, hl, Nat.le_refl _, fun A h => br_t a (br_f b h)⟩
  · exact ⟨lo, Nat.le_refl _, hl, fun A h => br_f a h⟩
def ot_gz : Nat → Nat → Int32
  | 0 => fun _ => 0
  | i + 1 => upd (ot_gz i) i (-1)
theorem ot_gzv : ∀ i j, j < i → ot_gz i j = -1
  | 0, j, h => by omega
  | i + 1, j, h => by
    show upd (ot_gz i) i (-1) j = -1
    rcases Classical.em (j = i) with e | e
    · rw [e, pk_us]
    · rw [pk_un e]; exact ot_gzv i j (by omega)
theorem i_vc0 (k0 : Int32) (k1 : Int32) : wpX_init (fun u => wpY_init (fun v => i_Rel 2 u v) k0 k1) k0 k1 := by
  obtain ⟨n, hn1, hn, An⟩ := ot_clamp k0 (lo := 1) (hi := 5) (by omega) (by omega)
  obtain ⟨d, hd1, hd, Ad⟩ := ot_clamp k1 (lo := 2) (hi := 4) (by omega) (by omega)
  have r1 : (0 : Int32) = ot_rv 1 := by decide
  have d1 : 1 ≤ d := by omega
  have d0 : 0 < d := by omega
  have T : ot_T n d 0 (fun _ => 0) (fun _ => 1) (fun _ => 1) (fun _ => 0) (fun _ => 0) (fun _ => 0) (fun _ => 0) (fun _ => 0) (fun _ => 0) (ot_gz 5) :=
    ⟨⟨⟨hn1, hn⟩, ⟨hd1, hd⟩, by omega⟩, ⟨fun _ _ => rfl, fun _ => Nat.zero_le _⟩, ⟨fun _ _ => r1, fun _ => d1⟩, ⟨fun _ _ => r1, fun _ => d1⟩, ⟨fun _ _ => rfl, fun _ => d0⟩, ⟨fun j hj => (ot_gzv 5 j hj).trans ot_rv0.symm, fun _ => Nat.zero_le _⟩⟩
  refine An (fun y => wpX_within (fun z => ∃ n140 : Nat, wX_init_140 (fun u => wpY_init (fun v => i_Rel 2 u v) k0 k1) y z 0 0 0 n140 0 (fun _ => 0) (fun _ => 0) (fun _ => 0) (fun _ => 0) (fun _ => 0) (fun _ => 0) (fun _ => 0) (fun _ => 0) (fun _ => 0) (fun _ => 0) (fun _ => 0) (fun _ => 0)) k1 2 4) ?_
  refine Ad (fun z => ∃ n140 : Nat, wX_init_140 (fun u => wpY_init (fun v => i_Rel 2 u v) k0 k1) (nI n) z 0 0 0 n140 0 (fun _ => 0) (fun _ => 0) (fun _ => 0) (fun _ => 0) (fun _ => 0) (fun _ => 0) (fun _ => 0) (fun _ => 0) (fun _ => 0) (fun _ => 0) (fun _ => 0) (fun _ => 0)) ?_
  refine loop_0 (σ := Unit) (fun fu i _ => wX_init_140 (fun u => wpY_init (fun v => i_Rel 2 u v) k0 k1) (nI n) (nI d) 0 0 0 fu (nI i) (fun _ => 0) (fun _ => 0) (fun _ => 0) (fun _ => 0) (ot_gz i) (fun _ => 0) (fun _ => 0) (fun _ => 0) (fun _ => 0) (fun _ => 0) (fun _ => 0) (fun _ => 0)) (fun _ _ => True) 5 () trivial ?_ ?_
  · intro fu _ _
    refine br_t (by decide) ?_
    refine An (fun z => wY_init_115 (fun v => i_Rel 2 (nI n, nI d, 0, 0, 0, fun _ => 0, fun _ => 0, fun _ => 0, fun _ => 0, ot_gz 5, fun _ => 0, fun _ => 0, fun _ => 0, fun _ => 0, fun _ => 0, fun _ => 0, fun _ => 0) v) k1 z 0 0 0 0 (fun _ => 0) (fun _ => 0) (fun _ => 0) (fun _ => 0) (fun _ => 0) (fun _ => 0) (fun _ => 0) (fun _ => 0) (fun _ => 0) (fun _ => 0) (fun _ => 0)) ?_
    refine Ad (fun z => ∃ n143 : Nat, wY_init_143 (fun v => i_Rel 2 (nI n, nI d, 0, 0, 0, fun _ => 0, fun _ => 0, fun _ => 0, fun _ => 0, ot_gz 5, fun _ => 0, fun _ => 0, fun _ => 0, fun _ => 0, fun _ => 0, fun _ => 0, fun _ => 0) v) (nI n) z 0 0 n143 0 (fun _ => 0) (fun _ => 0) (fun _ => 0) (fun _ => 0) (fun _ => 0) (fun _ => 0) (fun _ => 0) (fun _ => 0) (fun _ => 0) (fun _ => 0) (fun _ => 0)) ?_
    refine loop_0 (σ := Unit) (fun fu i _ => wY_init_143 (fun v => i_Rel 2 (nI n, nI d, 0, 0, 0, fun _ => 0, fun _ => 0, fun _ => 0, fun _ => 0, ot_gz 5, fun _ => 0, fun _ => 0, fun _ => 0, fun _ => 0, fun _ => 0, fun _ => 0, fun _ => 0) v) (nI n) (nI d) 0 0 fu (nI i) (fun _ => 0) (fun _ => 0) (fun _ => 0) (fun _ => 0) (ot_gz i) (fun _ => 0) (fun _ => 0) (fun _ => 0) (fun _ => 0) (fun _ => 0) (fun _ => 0)) (fun _ _ => True) 5 () trivial ?_ ?_
    · intro fu _ _
      exact br_t (by decide) (i_mk (m := 0) T)
    · intro fu i _ hi _ ih
      exact br_f (nI_ge (b := 5) hi (by decide)) ⟨vp_in_nI hi (by omega), nm_r (e' := ot_gz (i + 1)) (by rw [nI_clamp (by omega)]; rfl) (nm_r (nI_1 i) (ih () trivial))⟩
  · intro fu i _ hi _ ih
    exact br_f (nI_ge (b := 5) hi (by decide)) ⟨vp_in_nI hi (by omega), nm_r (e' := ot_gz (i + 1)) (by rw [nI_clamp (by omega)]; rfl) (nm_r (nI_1 i) (ih () trivial))⟩
/-! ranges -/
theorem ot_rng {x : Int32} {q : Nat} (hq : q < 2 ^ 31) {A B : Prop} (h1 : ∀ j, j < q → x = nI j → B) (h0 : (¬ ∃ j, j < q ∧ x = nI j) → A) : (x < 0 → A) ∧ (¬ x < 0 → ((nI q ≤ x → A) ∧ (¬ nI q ≤ x → B))) := by
  rcases pk_ix x hq with z | z | ⟨j, hj, e⟩
  · exact br_t z (h0 (fun ⟨j, hj, e⟩ => nI_pos (n := j) (by omega) (e ▸ z)))
  · have n0 : ¬ x < 0 := Int32.not_lt.mpr (Int32.le_trans (nI_pos' hq) z)
    exact br_f n0 (br_t z (h0 (fun ⟨j, hj, e⟩ => nI_ge hj hq (e ▸ z))))
  · rw [e]
    exact br_f (nI_pos (by omega)) (br_f (nI_ge hj hq) (h1 j hj e))
theorem ot_von {x : Int32} {d : Nat} (hd : d ≤ 4) {A B : Prop} (h1 : ∀ q, q ≤ d → x = ot_rv q → B) (h0 : (¬ ∃ q, q ≤ d ∧ x = ot_rv q) → A) : (x < (-1) → A) ∧ (¬ x < (-1) → ((nI d ≤ x → A) ∧ (¬ nI d ≤ x → B))) := by
  have key : ∀ q, q < 5 → ¬ ot_rv q < -1 := by decide +kernel
  have key2 : ∀ q, q < 5 → ∀ e, e < 5 → q ≤ e → ¬ nI e ≤ ot_rv q := by decide +kernel
  rcases Classical.em (∃ q, q ≤ d ∧ x = ot_rv q) with ⟨q, hq, e⟩ | hno
  · rw [e]
    exact br_f (key q (by omega)) (br_f (key2 q (by omega) d (by omega) hq) (h1 q hq e))
  · refine br_c (fun _ => h0 hno) (fun z => br_c (fun _ => h0 hno) (fun y => ?_))
    exfalso
    rcases pk_ix x (n := d) (by omega) with w | w | ⟨j, hj, e⟩
    · have e : x = -1 := by
        rw [Int32.lt_iff_toInt_lt, show (-1 : Int32).toInt = -1 from by decide] at z
        rw [Int32.lt_iff_toInt_lt, show (0 : Int32).toInt = 0 from by decide] at w
        exact Int32.toInt_inj.mp (by rw [show (-1 : Int32).toInt = -1 from by decide]; omega)
      exact hno ⟨0, by omega, by rw [e, ot_rv0]⟩
    · exact y w
    · exact hno ⟨j + 1, by omega, by rw [e, ot_rvs]⟩
theorem ot_vony {x : Int32} {d : Nat} (hd : d ≤ 4) {A B : Prop} (h1 : ∀ q, q ≤ d → x = ot_rv q → B) (h0 : (¬ ∃ q, q ≤ d ∧ x = ot_rv q) → A) : (x = (-1) → B) ∧ (¬ x = (-1) → ((x < 0 → A) ∧ (¬ x < 0 → ((nI d ≤ x → A) ∧ (¬ nI d ≤ x → B))))) := by
  refine br_c (fun e => h1 0 (by omega) (by rw [e, ot_rv0])) (fun z => ot_rng (by omega) (fun j hj e => h1 (j + 1) (by omega) (by rw [e, ot_rvs])) (fun hno => h0 (fun ⟨q, hq, e⟩ => ?_)))
  rcases Classical.em (q = 0) with y | y
  · subst y; exact z (by rw [e, ot_rv0])
  · exact hno ⟨q - 1, by omega, by rw [e, ot_rvp y]⟩
section
variable {n d m : Nat} {co ne ef be go : Nat → Nat} {aC aN aE aB aG od sn mv rm bd ls ah yl yf ym yb yd yr : Nat → Int32} {mt lc rz : Int32}
theorem ot_Tn (T : ot_T n d m co ne ef be go aC aN aE aB aG) {j q : Nat} (hj : j < 50) (hq : q ≤ d) : ot_T n d m co (ot_up ne j q) ef be go aC (upd aN j (ot_rv q)) aE aB aG := by
  obtain ⟨⟨⟨hn1, hn⟩, ⟨hd1, hd⟩, hm⟩, ⟨hC, hco⟩, ⟨hN, hne⟩, ⟨hE, hef⟩, ⟨hB, hbe⟩, ⟨hG, hgo⟩⟩ := T
  refine ⟨⟨⟨hn1, hn⟩, ⟨hd1, hd⟩, hm⟩, ⟨hC, hco⟩, ⟨fun i hi => ?_, fun i => ?_⟩, ⟨hE, hef⟩, ⟨hB, hbe⟩, ⟨hG, hgo⟩⟩
  · rcases Classical.em (i = j) with e | e
    · rw [e, pk_us, ot_us]
    · rw [pk_un e, ot_un e]; exact hN i hi
  · rcases Classical.em (i = j) with e | e
    · rw [e, ot_us]; exact hq
    · rw [ot_un e]; exact hne i
theorem ot_Te (T : ot_T n d m co ne ef be go aC aN aE aB aG) {j q : Nat} (hj : j < 50) (hq : q ≤ d) : ot_T n d m co ne (ot_up ef j q) be go aC aN (upd aE j (ot_rv q)) aB aG := by
  obtain ⟨⟨⟨hn1, hn⟩, ⟨hd1, hd⟩, hm⟩, ⟨hC, hco⟩, ⟨hN, hne⟩, ⟨hE, hef⟩, ⟨hB, hbe⟩, ⟨hG, hgo⟩⟩ := T
  refine ⟨⟨⟨hn1, hn⟩, ⟨hd1, hd⟩, hm⟩, ⟨hC, hco⟩, ⟨hN, hne⟩, ⟨fun i hi => ?_, fun i => ?_⟩, ⟨hB, hbe⟩, ⟨hG, hgo⟩⟩
  · rcases Classical.em (i = j) with e | e
    · rw [e, pk_us, ot_us]
    · rw [pk_un e, ot_un e]; exact hE i hi
  · rcases Classical.em (i = j) with e | e
    · rw [e, ot_us]; exact hq
    · rw [ot_un e]; exact hef i
theorem ot_Tb (T : ot_T n d m co ne ef be go aC aN aE aB aG) {j q : Nat} (hj : j < 5) (hq : q < d) : ot_T n d m co ne ef (ot_up be j q) go aC aN aE (upd aB j (nI q)) aG := by
  obtain ⟨⟨⟨hn1, hn⟩, ⟨hd1, hd⟩, hm⟩, ⟨hC, hco⟩, ⟨hN, hne⟩, ⟨hE, hef⟩, ⟨hB, hbe⟩, ⟨hG, hgo⟩⟩ := T
  refine ⟨⟨⟨hn1, hn⟩, ⟨hd1, hd⟩, hm⟩, ⟨hC, hco⟩, ⟨hN, hne⟩, ⟨hE, hef⟩, ⟨fun i hi => ?_, fun i => ?_⟩, ⟨hG, hgo⟩⟩
  · rcases Classical.em (i = j) with e | e
    · rw [e, pk_us, ot_us]
    · rw [pk_un e, ot_un e]; exact hB i hi
  · rcases Classical.em (i = j) with e | e
    · rw [e, ot_us]; exact hq
    · rw [ot_un e]; exact hbe i
theorem ot_Tg (T : ot_T n d m co ne ef be go aC aN aE aB aG) {j q : Nat} (hj : j < 5) (hq : q ≤ d) : ot_T n d m co ne ef be (ot_up go j q) aC aN aE aB (upd aG j (ot_rv q)) := by
  obtain ⟨⟨⟨hn1, hn⟩, ⟨hd1, hd⟩, hm⟩, ⟨hC, hco⟩, ⟨hN, hne⟩, ⟨hE, hef⟩, ⟨hB, hbe⟩, ⟨hG, hgo⟩⟩ := T
  refine ⟨⟨⟨hn1, hn⟩, ⟨hd1, hd⟩, hm⟩, ⟨hC, hco⟩, ⟨hN, hne⟩, ⟨hE, hef⟩, ⟨hB, hbe⟩, ⟨fun i hi => ?_, fun i => ?_⟩⟩
  · rcases Classical.em (i = j) with e | e
    · rw [e, pk_us, ot_us]
    · rw [pk_un e, ot_un e]; exact hG i hi
  · rcases Classical.em (i = j) with e | e
    · rw [e, ot_us]; exact hq
    · rw [ot_un e]; exact hgo i
theorem ot_To (T : ot_T n d m co ne ef be go aC aN aE aB aG) {c : Nat} (hc : c ≤ 9) (hm' : m < 10) : ∀ i, i ≤ 5 → ∀ aN' aE', (∀ j, j < 50 → (5 * m ≤ j ∧ j < 5 * m + i → aN' j = -1 ∧ aE' j = -1) ∧ (¬ (5 * m ≤ j ∧ j < 5 * m + i) → aN' j = aN j ∧ aE' j = aE j)) → ∃ co ne ef, ot_T n d (m + 1) co ne ef be go (upd aC m (nI c)) aN' aE' aB aG := by
  obtain ⟨⟨⟨hn1, hn⟩, ⟨hd1, hd⟩, hm⟩, ⟨hC, hco⟩, ⟨hN, hne⟩, ⟨hE, hef⟩, ⟨hB, hbe⟩, ⟨hG, hgo⟩⟩ := T
  intro i hi aN' aE' h
  refine ⟨ot_up co m c, fun j => if 5 * m ≤ j ∧ j < 5 * m + i then 0 else ne j, fun j => if 5 * m ≤ j ∧ j < 5 * m + i then 0 else ef j, ⟨⟨hn1, hn⟩, ⟨hd1, hd⟩, by omega⟩, ⟨fun j hj => ?_, fun j => ?_⟩, ⟨fun j hj => ?_, fun j => ?_⟩, ⟨fun j hj => ?_, fun j => ?_⟩, ⟨hB, hbe⟩, ⟨hG, hgo⟩⟩
  · rcases Classical.em (j = m) with e | e
    · rw [e, pk_us, ot_us]
    · rw [pk_un e, ot_un e]; exact hC j hj
  · rcases Classical.em (j = m) with e | e
    · rw [e, ot_us]; exact hc
    · rw [ot_un e]; exact hco j
  · dsimp only
    rcases Classical.em (5 * m ≤ j ∧ j < 5 * m + i) with e | e
    · rw [if_pos e, ((h j hj).1 e).1, ot_rv0]
    · rw [if_neg e, ((h j hj).2 e).1]; exact hN j hj
  · dsimp only
    rcases Classical.em (5 * m ≤ j ∧ j < 5 * m + i) with e | e
    · rw [if_pos e]; omega
    · rw [if_neg e]; exact hne j
  · dsimp only
    rcases Classical.em (5 * m ≤ j ∧ j < 5 * m + i) with e | e
    · rw [if_pos e, ((h j hj).1 e).2, ot_rv0]
    · rw [if_neg e, ((h j hj).2 e).2]; exact hE j hj
  · dsimp only
    rcases Classical.em (5 * m ≤ j ∧ j < 5 * m + i) with e | e
    · rw [if_pos e]; omega
    · rw [if_neg e]; exact hef j
end
