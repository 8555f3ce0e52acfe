def ps_up (f : Nat → Nat) (k d : Nat) : Nat → Nat := fun j => if j = k then d else f j
theorem ps_up_s {f : Nat → Nat} {k d : Nat} : ps_up f k d k = d := if_pos rfl
theorem ps_up_n {f : Nat → Nat} {k d j : Nat} (h : j ≠ k) : ps_up f k d j = f j := if_neg h
theorem ps_upd {g : Nat → Int32} {f : Nat → Nat} {k d t : Nat} {x : Int32} (hx : x = nI d) (h : t ≠ k → g t = nI (f t)) : upd g k x t = nI (ps_up f k d t) := by
  by_cases e : t = k
  · rw [e, pk_us, ps_up_s, hx]
  · rw [pk_un e, ps_up_n e, h e]
def ps_G9 (c : ps_Cf) : Prop := ps_n c ≤ 6 ∧ (∀ t, t < ps_n c → 1 ≤ ps_D c t ∧ ps_D c t ≤ 9 ∧ ps_R c t ≤ 20 ∧ ps_U c t ≤ 99 ∧ ps_A c 0 t ≤ 4 ∧ ps_A c 1 t ≤ 4) ∧ (∀ m, m < 2 → 1 ≤ ps_C c m ∧ ps_C c m ≤ 8) ∧ ps_l c = true ∧ ∀ a b, ps_n c ≤ b → ps_B c a b = false
def ps_XS (c : ps_Cf) (u : SX) : Prop := match u with
  | (fc, fl, ft, aD, aR, aU, aA, aC, aB, aO, aE, aS, aL) => ps_Xc c fc aD aR aU aA aC aB
def ps_YS (c : ps_Cf) (v : SY) : Prop := match v with
  | (gc, gp, gl, bD, bA, bC, bB, bR, bU, bO, bS, bW) => ps_Yc c gc gl bD bA bC bB bR bU
/-- both hold the same project -/
def i_Rel (_ : Nat) (u : SX) (v : SY) : Prop := ∃ c, ps_G9 c ∧ ps_XS c u ∧ ps_YS c v
theorem i_up {k : Nat} {u : SX} {v : SY} (h : i_Rel k u v) : i_Rel (k + 4) u v := h
theorem ps_G9_gd {c : ps_Cf} (h : ps_G9 c) : ps_gd c := by
  obtain ⟨h1, h2, h3, h4, h5⟩ := h
  refine ⟨h1, fun t ht => ?_, ?_, (h3 0 (by omega)).2, (h3 1 (by omega)).2⟩
  · have := h2 t ht
    omega
  · have := ps_sum_const (f := ps_D c) (n := ps_n c) (d := 9) (fun t ht => (h2 t ht).2.1)
    omega
def ps_bt (n : Nat) (x : Int32) : Prop := x < 0 ∨ (¬ x < 0 ∧ nI n ≤ x ∧ ¬ x < nI n)
theorem ps_tc (x : Int32) {n : Nat} (hn : n ≤ 6) : ps_bt n x ∨ ∃ j, j < n ∧ x = nI j := by
  by_cases h : x < 0
  · exact Or.inl (Or.inl h)
  · obtain ⟨j, hj, rfl⟩ := nI_of h
    by_cases z : j < n
    · exact Or.inr ⟨j, z, rfl⟩
    · exact Or.inl (Or.inr ⟨h, nI_le (by omega) hj, nI_nlt (by omega) hj⟩)
theorem px_isT0 (n : Nat) (fc fl ft : Int32) (aD aR aU aA aC aB aO aE aS aL : Nat → Int32) (hfc : fc = nI n) (x : Int32) (hx : ps_bt n x) (post : Int32 → Prop) (h : post 0) : wpX_isTask post (fc, fl, ft, aD, aR, aU, aA, aC, aB, aO, aE, aS, aL) x := by
  subst hfc
  rcases hx with e | ⟨e1, e2, e3⟩
  · exact br_t e h
  · exact br_f e1 (br_t e2 h)
theorem px_isT1 (n j : Nat) (hj : j < n) (hn : n ≤ 6) (fc fl ft : Int32) (aD aR aU aA aC aB aO aE aS aL : Nat → Int32) (hfc : fc = nI n) (post : Int32 → Prop) (h : post 1) : wpX_isTask post (fc, fl, ft, aD, aR, aU, aA, aC, aB, aO, aE, aS, aL) (nI j) := by
  subst hfc
  exact br_f (nI_pos (by omega)) (br_f (nI_ge (by omega) (by omega)) h)
theorem py_bad1 (n : Nat) (gc gp gl : Int32) (bD bA bC bB bR bU bO bS bW : Nat → Int32) (hfc : gc = nI n) (x : Int32) (hx : ps_bt n x) (post : Int32 → Prop) (h : post 1) : wpY_bad post (gc, gp, gl, bD, bA, bC, bB, bR, bU, bO, bS, bW) x := by
  subst hfc
  rcases hx with e | ⟨e1, e2, e3⟩
  · exact br_t e h
  · exact br_f e1 (br_f e3 h)
theorem py_bad0 (n j : Nat) (hj : j < n) (hn : n ≤ 6) (gc gp gl : Int32) (bD bA bC bB bR bU bO bS bW : Nat → Int32) (hfc : gc = nI n) (post : Int32 → Prop) (h : post 0) : wpY_bad post (gc, gp, gl, bD, bA, bC, bB, bR, bU, bO, bS, bW) (nI j) := by
  subst hfc
  exact br_f (nI_pos (by omega)) (br_t (nI_lt (by omega) (by omega)) h)
theorem ps_rng {x : Int32} {lo hi : Nat} (a : Int32) (b : Int32) (ha : a = nI lo) (hb : b = nI hi) (hh : hi < 2147483648) (hl : lo < 2147483648) (h1 : ¬ x < a) (h2 : ¬ b < x) : ∃ j, lo ≤ j ∧ j ≤ hi ∧ x = nI j := by
  subst ha hb
  have h0 : ¬ x < 0 := by
    intro z
    exact h1 (Int32.lt_of_lt_of_le z (nI_pos' (by omega)))
  obtain ⟨j, hj, rfl⟩ := nI_of h0
  rw [nI_ltI hj (by omega)] at h1
  rw [nI_ltI (by omega) hj] at h2
  exact ⟨j, by omega, by omega, rfl⟩
theorem i_vc0 : wpX_init (fun u => wpY_init (fun v => i_Rel 0 u v)) := by
  refine ⟨3, ?_⟩
  refine br_f (by decide) ⟨vp_in_nI (n := 0) (by omega) (by omega), nm_e (nm_r (e' := nI 1) (by decide) ?_)⟩
  refine br_f (by decide) ⟨vp_in_nI (n := 1) (by omega) (by omega), nm_e (nm_r (e' := nI 2) (by decide) ?_)⟩
  refine br_t (by decide) (nm_e (nm_e ?_))
  refine ⟨(0, (fun _ => 0), (fun _ => 0), (fun _ => 0), (fun _ _ => 0), (fun _ => 4), (fun _ _ => false), true), ⟨Nat.zero_le _, fun t ht => absurd ht (Nat.not_lt_zero t), fun m _ => ⟨by show 1 ≤ 4; omega, by show 4 ≤ 8; omega⟩, rfl, fun _ _ _ => rfl⟩, ?_, ?_⟩
  · refine ⟨rfl, fun t ht => absurd ht (Nat.not_lt_zero t), fun m t _ ht => absurd ht (Nat.not_lt_zero t), ?_, fun a b _ _ => rfl⟩
    exact ps_m2 (P := fun m => upd (upd (fun _ => 0) (nI 0).toNatClampNeg 4) (nI 1).toNatClampNeg 4 m = nI 4) (by decide) (by decide)
  · refine ⟨rfl, rfl, fun t ht => absurd ht (Nat.not_lt_zero t), fun m t _ ht => absurd ht (Nat.not_lt_zero t), ?_, fun t ht => absurd ht (Nat.not_lt_zero t)⟩
    exact ps_m2 (P := fun m => upd (upd (fun _ => 0) 0 4) 1 4 m = nI 4) (by decide) (by decide)
theorem px_dur (v1 : Int32) (fc fl ft : Int32) (aD aR aU aA aC aB aO aE aS aL : Nat → Int32) (post : Int32 → Prop) (h0 : v1 < 1 ∨ (¬ v1 < 1 ∧ 9 < v1) → post 0) (h1 : ∀ d, 1 ≤ d → d ≤ 9 → v1 = nI d → post 1) : wpX_isDuration post (fc, fl, ft, aD, aR, aU, aA, aC, aB, aO, aE, aS, aL) v1 := by
  refine br_c (fun a => h0 (Or.inl a)) (fun a => br_c (fun b => h0 (Or.inr ⟨a, b⟩)) (fun b => ?_))
  obtain ⟨d, d1, d2, e⟩ := ps_rng 1 9 (lo := 1) (hi := 9) rfl rfl (by omega) (by omega) a b
  exact h1 d d1 d2 e
theorem i_vc_task {k : Nat} {u : SX} {v : SY} (I : i_Rel k u v) (hk : k + 4 ≤ 2048) (v1 : Int32) (v2 : Int32) : wpX_task (fun r u' => wpY_task (fun r' v' => r' = r ∧ i_Rel (k + 4) u' v') v v1 v2) u v1 v2 := by
  obtain ⟨fc, fl, ft, aD, aR, aU, aA, aC, aB, aO, aE, aS, aL⟩ := u
  obtain ⟨gc, gp, gl, bD, bA, bC, bB, bR, bU, bO, bS, bW⟩ := v
  obtain ⟨c, hG, hX, hY⟩ := I
  have R0 : i_Rel (k + 4) (fc, fl, ft, aD, aR, aU, aA, aC, aB, aO, aE, aS, aL) (gc, gp, gl, bD, bA, bC, bB, bR, bU, bO, bS, bW) := ⟨c, hG, hX, hY⟩
  obtain ⟨rfl, x2, x3, x4, x5⟩ := (hX : ps_Xc c fc aD aR aU aA aC aB)
  obtain ⟨rfl, y2, y3, y4, y5, y6⟩ := (hY : ps_Yc c gc gl bD bA bC bB bR bU)
  obtain ⟨g1, g2, g3, g4, g5⟩ := hG
  obtain ⟨p, hp, ep⟩ := pk_andE v2 (m := 7) 3 (by decide)
  obtain ⟨q, hq, eq⟩ := pk_andE (v2 >>> ((3 : Int32) &&& 31)) (m := 7) 3 (by decide)
  refine nm_r ep (nm_r eq ?_)
  refine px_dur v1 (nI (ps_n c)) fl ft aD aR aU aA aC aB aO aE aS aL _ (fun hb => br_t rfl ?_) (fun d d1 d2 e => br_f (by decide) ?_)
  · rcases hb with a | ⟨a, b⟩
    · exact br_t a ⟨rfl, R0⟩
    · exact br_f a (br_t b ⟨rfl, R0⟩)
  · subst e
    have ya : ¬ nI d < 1 := nI_nlt (a := d) (b := 1) (by omega) (by omega)
    have yb : ¬ 9 < nI d := nI_nlt (a := 9) (b := d) (by omega) (by omega)
    refine pk_lt 4 p (fun z => br_f ya (br_f yb (br_t (by rw [ep]; exact nI_lt z (by omega)) ⟨rfl, R0⟩))) (fun z => ?_) rfl rfl (by omega) (by omega)
    have yc : ¬ 4 < v2 &&& 7 := by rw [ep]; exact nI_nlt (a := 4) z (by omega)
    refine pk_le q 4 (fun y => ?_) (fun y => br_f ya (br_f yb (br_f yc (br_f (by rw [eq]; exact nI_ge (b := q) (a := 4) y (by omega)) ⟨rfl, R0⟩)))) rfl rfl (by omega) (by omega)
    have yd : (v2 >>> ((3 : Int32) &&& 31)) &&& 7 ≤ 4 := by rw [eq]; exact nI_le (b := 4) y (by omega)
    refine pk_lt (ps_n c) 6 (fun x => ?_) (fun x => br_f ya (br_f yb (br_f yc (br_t yd (br_t (by rw [show ps_n c = 6 from by omega]; rfl) ⟨rfl, R0⟩))))) rfl rfl (by omega) (by omega)
    refine ⟨vp_in_nI (by omega) (by omega), nm_r (e' := upd aD (ps_n c) (nI d)) (by rw [nI_clamp (by omega)]) ⟨vp_in_nI (by omega) (by omega), nm_r (e' := upd aR (ps_n c) 0) (by rw [nI_clamp (by omega)]) ⟨vp_in_nI (by omega) (by omega), nm_r (e' := upd aU (ps_n c) 99) (by rw [nI_clamp (by omega)]) ⟨vp_in_nI (by omega) (by omega), nm_r (e' := upd aA (ps_n c) (nI p)) (by rw [nI_clamp (by omega)]) ⟨pk_in (6 + ps_n c) 12 (by omega) (nI_add 6 _), nm_r (e' := upd (upd aA (ps_n c) (nI p)) (6 + ps_n c) (nI q)) (by rw [show (6 : Int32) + nI (ps_n c) = nI (6 + ps_n c) from nI_add 6 _, nI_clamp (by omega)]) (nm_r (nI_1 _) ?_)⟩⟩⟩⟩⟩
    refine br_f ya (br_f yb (br_f yc (br_t yd (br_f (by rw [show (6 : Int32) = nI 6 from rfl, nI_eq (by omega) (by omega)]; omega) ?_))))
    refine ⟨vp_in_nI (by omega) (by omega), nm_r (e' := upd bD (ps_n c) (nI d)) (by rw [nI_clamp (by omega)]) ⟨pk_in (ps_n c * 2) 12 (by omega) (ps_ix20 _), nm_r (e' := upd bA (ps_n c * 2) (nI p)) (by rw [pk_cl (ps_n c * 2) (ps_ix20 _) (by omega), ep]) ⟨pk_in (ps_n c * 2 + 1) 12 (by omega) (ps_ix21 _), nm_r (e' := upd (upd bA (ps_n c * 2) (nI p)) (ps_n c * 2 + 1) (nI q)) (by rw [pk_cl (ps_n c * 2 + 1) (ps_ix21 _) (by omega), eq]) ⟨vp_in_nI (by omega) (by omega), nm_r (e' := upd bB (ps_n c) 0) (by rw [nI_clamp (by omega)]) ⟨vp_in_nI (by omega) (by omega), nm_r (e' := upd bR (ps_n c) 0) (by rw [nI_clamp (by omega)]) ⟨vp_in_nI (by omega) (by omega), nm_r (e' := upd bU (ps_n c) 99) (by rw [nI_clamp (by omega)]) (nm_r (nI_1 _) ⟨nI_pred _, ?_⟩)⟩⟩⟩⟩⟩⟩
    refine ⟨(ps_n c + 1, ps_up (ps_D c) (ps_n c) d, ps_up (ps_R c) (ps_n c) 0, ps_up (ps_U c) (ps_n c) 99, (fun m => ps_up (ps_A c m) (ps_n c) (if m = 0 then p else q)), ps_C c, ps_B c, true), ⟨?_, ?_, g3, rfl, ?_⟩, ⟨rfl, ?_, ?_, x4, x5⟩, ⟨rfl, ?_, ?_, ?_, y5, ?_⟩⟩
    · show ps_n c + 1 ≤ 6
      omega
    · intro t ht
      have ht' : t < ps_n c + 1 := ht
      show 1 ≤ ps_up (ps_D c) (ps_n c) d t ∧ ps_up (ps_D c) (ps_n c) d t ≤ 9 ∧ ps_up (ps_R c) (ps_n c) 0 t ≤ 20 ∧ ps_up (ps_U c) (ps_n c) 99 t ≤ 99 ∧ ps_up (ps_A c 0) (ps_n c) p t ≤ 4 ∧ ps_up (ps_A c 1) (ps_n c) q t ≤ 4
      by_cases e : t = ps_n c
      · subst e
        rw [ps_up_s, ps_up_s, ps_up_s, ps_up_s, ps_up_s]
        omega
      · rw [ps_up_n e, ps_up_n e, ps_up_n e, ps_up_n e, ps_up_n e]
        exact g2 t (by omega)
    · intro a b hb
      exact g5 a b (by have : ps_n c + 1 ≤ b := hb; omega)
    · intro t ht
      have ht' : t < ps_n c + 1 := ht
      exact ⟨ps_upd rfl (fun e => (x2 t (by omega)).1), ps_upd rfl (fun e => (x2 t (by omega)).2.1), ps_upd rfl (fun e => (x2 t (by omega)).2.2)⟩
    · intro m t hm ht
      have ht' : t < ps_n c + 1 := ht
      show _ = nI (ps_up (ps_A c m) (ps_n c) (if m = 0 then p else q) t)
      by_cases e : t = ps_n c
      · subst e
        rw [ps_up_s]
        by_cases f : m = 0
        · subst f
          rw [if_pos rfl, pk_un (by omega), show 0 * 6 + ps_n c = ps_n c from by omega, pk_us]
        · rw [if_neg f, show m * 6 + ps_n c = 6 + ps_n c from by omega, pk_us]
      · rw [ps_up_n e, pk_un (by omega), pk_un (by omega)]
        exact x3 m t hm (by omega)
    · rw [y2, g4]; rfl
    · intro t ht
      have ht' : t < ps_n c + 1 := ht
      exact ⟨ps_upd rfl (fun e => (y3 t (by omega)).1), ps_upd rfl (fun e => (y3 t (by omega)).2.1), ps_upd rfl (fun e => (y3 t (by omega)).2.2)⟩
    · intro m t hm ht
      have ht' : t < ps_n c + 1 := ht
      show _ = nI (ps_up (ps_A c m) (ps_n c) (if m = 0 then p else q) t)
      by_cases e : t = ps_n c
      · subst e
        rw [ps_up_s]
        by_cases f : m = 0
        · subst f
          rw [if_pos rfl, pk_un (by omega), Nat.add_zero, pk_us]
        · rw [if_neg f, show m = 1 from by omega, pk_us]
      · rw [ps_up_n e, pk_un (by omega), pk_un (by omega)]
        exact y4 m t hm (by omega)
    · intro t ht i hi
      have ht' : t < ps_n c + 1 := ht
      show _ = (decide (i < t) && ps_B c i t)
      by_cases e : t = ps_n c
      · subst e
        rw [pk_us, b_0, g5 i _ (Nat.le_refl _), Bool.and_false]
      · rw [pk_un e]
        exact y6 t (by omega) i hi
theorem i_vc_capacity {k : Nat} {u : SX} {v : SY} (I : i_Rel k u v) (hk : k + 4 ≤ 2048) (v1 : Int32) (v2 : Int32) : wpX_capacity (fun r u' => wpY_capacity (fun r' v' => r' = r ∧ i_Rel (k + 4) u' v') v v1 v2) u v1 v2 := by
  obtain ⟨fc, fl, ft, aD, aR, aU, aA, aC, aB, aO, aE, aS, aL⟩ := u
  obtain ⟨gc, gp, gl, bD, bA, bC, bB, bR, bU, bO, bS, bW⟩ := v
  obtain ⟨c, hG, hX, hY⟩ := I
  have R0 : i_Rel (k + 4) (fc, fl, ft, aD, aR, aU, aA, aC, aB, aO, aE, aS, aL) (gc, gp, gl, bD, bA, bC, bB, bR, bU, bO, bS, bW) := ⟨c, hG, hX, hY⟩
  obtain ⟨rfl, x2, x3, x4, x5⟩ := (hX : ps_Xc c fc aD aR aU aA aC aB)
  obtain ⟨rfl, y2, y3, y4, y5, y6⟩ := (hY : ps_Yc c gc gl bD bA bC bB bR bU)
  obtain ⟨g1, g2, g3, g4, g5⟩ := hG
  unfold wpX_capacity
  dsimp only
  rcases ps_tc v1 (n := 2) (by omega) with hb | ⟨m, hm, rfl⟩
  · rcases hb with a | ⟨a1, a2, a3⟩
    · exact br_t a (br_t rfl (br_t a ⟨rfl, R0⟩))
    · have a4 : 1 < v1 := Int32.lt_of_lt_of_le (show (1 : Int32) < nI 2 from by decide) a2
      exact br_f a1 (br_t a2 (br_t rfl (br_f a1 (br_t a4 ⟨rfl, R0⟩))))
  · have a1 : ¬ nI m < 0 := nI_pos (by omega)
    have a2 : ¬ 2 ≤ nI m := nI_ge (b := 2) hm (by omega)
    have a3 : ¬ 1 < nI m := nI_nlt (a := 1) (by omega) (by omega)
    refine br_f a1 (br_f a2 (br_f (by decide) ?_))
    refine br_c (fun b => br_f a1 (br_f a3 (br_t b ⟨rfl, R0⟩))) (fun b => br_c (fun d => ?_) (fun d => br_f a1 (br_f a3 (br_f b (br_f d ⟨rfl, R0⟩)))))
    obtain ⟨x, hx1, hx2, rfl⟩ := ps_rng 1 8 (lo := 1) (hi := 8) rfl rfl (by omega) (by omega) b (Int32.not_lt.mpr d)
    refine ⟨vp_in_nI hm (by omega), nm_r (e' := nI (ps_C c m)) (by rw [nI_clamp (by omega)]; exact x4 m hm) ⟨vp_in_nI hm (by omega), nm_r (e' := upd aC m (nI x)) (by rw [nI_clamp (by omega)]) ?_⟩⟩
    refine br_f a1 (br_f a3 (br_f b (br_t d ⟨vp_in_nI hm (by omega), nm_r (e' := nI (ps_C c m)) (by rw [nI_clamp (by omega)]; exact y5 m hm) ⟨vp_in_nI hm (by omega), nm_r (e' := upd bC m (nI x)) (by rw [nI_clamp (by omega)]) ⟨rfl, ?_⟩⟩⟩)))
    refine ⟨(ps_n c, ps_D c, ps_R c, ps_U c, ps_A c, ps_up (ps_C c) m x, ps_B c, ps_l c), ⟨g1, g2, fun j hj => ?_, g4, g5⟩, ⟨rfl, x2, x3, fun j hj => ps_upd rfl (fun _ => x4 j hj), x5⟩, ⟨rfl, y2, y3, y4, fun j hj => ps_upd rfl (fun _ => y5 j hj), y6⟩⟩
    show 1 ≤ ps_up (ps_C c) m x j ∧ ps_up (ps_C c) m x j ≤ 8
    by_cases e : j = m
    · subst e; rw [ps_up_s]; omega
    · rw [ps_up_n e]; exact g3 j hj
theorem i_vc_times {k : Nat} {u : SX} {v : SY} (I : i_Rel k u v) (hk : k + 4 ≤ 2048) (v1 : Int32) (v2 : Int32) (v3 : Int32) : wpX_times (fun r u' => wpY_times (fun r' v' => r' = r ∧ i_Rel (k + 4) u' v') v v1 v2 v3) u v1 v2 v3 := by
  obtain ⟨fc, fl, ft, aD, aR, aU, aA, aC, aB, aO, aE, aS, aL⟩ := u
  obtain ⟨gc, gp, gl, bD, bA, bC, bB, bR, bU, bO, bS, bW⟩ := v
  obtain ⟨c, hG, hX, hY⟩ := I
  have R0 : i_Rel (k + 4) (fc, fl, ft, aD, aR, aU, aA, aC, aB, aO, aE, aS, aL) (gc, gp, gl, bD, bA, bC, bB, bR, bU, bO, bS, bW) := ⟨c, hG, hX, hY⟩
  obtain ⟨rfl, x2, x3, x4, x5⟩ := (hX : ps_Xc c fc aD aR aU aA aC aB)
  obtain ⟨rfl, y2, y3, y4, y5, y6⟩ := (hY : ps_Yc c gc gl bD bA bC bB bR bU)
  obtain ⟨g1, g2, g3, g4, g5⟩ := hG
  unfold wpX_times wpY_times
  dsimp only
  rcases ps_tc v1 g1 with hb | ⟨t, ht, rfl⟩
  · exact px_isT0 _ (nI (ps_n c)) fl ft aD aR aU aA aC aB aO aE aS aL rfl v1 hb _ (br_t rfl (py_bad1 _ (nI (ps_n c)) gp gl bD bA bC bB bR bU bO bS bW rfl v1 hb _ (br_f (by decide) ⟨rfl, R0⟩)))
  · refine px_isT1 _ t ht g1 (nI (ps_n c)) fl ft aD aR aU aA aC aB aO aE aS aL rfl _ (br_f (by decide) ?_)
    have B : ∀ {post : Int32 → Prop}, post 0 → wpY_bad post (nI (ps_n c), gp, gl, bD, bA, bC, bB, bR, bU, bO, bS, bW) (nI t) := fun h => py_bad0 _ t ht g1 (nI (ps_n c)) gp gl bD bA bC bB bR bU bO bS bW rfl _ h
    refine br_c (fun a => B (br_t rfl (br_t a ⟨rfl, R0⟩))) (fun a => br_c (fun b => B (br_t rfl (br_f a (br_t b ⟨rfl, R0⟩)))) (fun b => br_c (fun d => B (br_t rfl (br_f a (br_f b (br_t d ⟨rfl, R0⟩))))) (fun d => br_c (fun e => ?_) (fun e => B (br_t rfl (br_f a (br_f b (br_f d (br_f e ⟨rfl, R0⟩)))))))))
    obtain ⟨x, hx1, hx2, rfl⟩ := ps_rng 0 20 (lo := 0) (hi := 20) rfl rfl (by omega) (by omega) a b
    obtain ⟨y, hy1, hy2, rfl⟩ := ps_rng 0 99 (lo := 0) (hi := 99) rfl rfl (by omega) (by omega) d (Int32.not_lt.mpr e)
    refine ⟨vp_in_nI (by omega) (by omega), nm_r (e' := upd aR t (nI x)) (by rw [nI_clamp (by omega)]) ⟨vp_in_nI (by omega) (by omega), nm_r (e' := upd aU t (nI y)) (by rw [nI_clamp (by omega)]) ?_⟩⟩
    refine B (br_t rfl (br_f a (br_f b (br_f d (br_t e ⟨vp_in_nI (by omega) (by omega), nm_r (e' := upd bR t (nI x)) (by rw [nI_clamp (by omega)]) ⟨vp_in_nI (by omega) (by omega), nm_r (e' := upd bU t (nI y)) (by rw [nI_clamp (by omega)]) ⟨rfl, ?_⟩⟩⟩)))))
    refine ⟨(ps_n c, ps_D c, ps_up (ps_R c) t x, ps_up (ps_U c) t y, ps_A c, ps_C c, ps_B c, ps_l c), ⟨g1, fun j hj => ?_, g3, g4, g5⟩, ⟨rfl, fun j hj => ⟨(x2 j hj).1, ps_upd rfl (fun _ => (x2 j hj).2.1), ps_upd rfl (fun _ => (x2 j hj).2.2)⟩, x3, x4, x5⟩, ⟨rfl, y2, fun j hj => ⟨(y3 j hj).1, ps_upd rfl (fun _ => (y3 j hj).2.1), ps_upd rfl (fun _ => (y3 j hj).2.2)⟩, y4, y5, y6⟩⟩
    have := g2 j hj
    show 1 ≤ ps_D c j ∧ ps_D c j ≤ 9 ∧ ps_up (ps_R c) t x j ≤ 20 ∧ ps_up (ps_U c) t y j ≤ 99 ∧ ps_A c 0 j ≤ 4 ∧ ps_A c 1 j ≤ 4
    by_cases e : j = t
    · subst e; rw [ps_up_s, ps_up_s]; omega
    · rw [ps_up_n e, ps_up_n e]; exact this
theorem i_vc_stretch {k : Nat} {u : SX} {v : SY} (I : i_Rel k u v) (hk : k + 4 ≤ 2048) (v1 : Int32) (v2 : Int32) : wpX_stretch (fun r u' => wpY_stretch (fun r' v' => r' = r ∧ i_Rel (k + 4) u' v') v v1 v2) u v1 v2 := by
  obtain ⟨fc, fl, ft, aD, aR, aU, aA, aC, aB, aO, aE, aS, aL⟩ := u
  obtain ⟨gc, gp, gl, bD, bA, bC, bB, bR, bU, bO, bS, bW⟩ := v
  obtain ⟨c, hG, hX, hY⟩ := I
  have R0 : i_Rel (k + 4) (fc, fl, ft, aD, aR, aU, aA, aC, aB, aO, aE, aS, aL) (gc, gp, gl, bD, bA, bC, bB, bR, bU, bO, bS, bW) := ⟨c, hG, hX, hY⟩
  obtain ⟨rfl, x2, x3, x4, x5⟩ := (hX : ps_Xc c fc aD aR aU aA aC aB)
  obtain ⟨rfl, y2, y3, y4, y5, y6⟩ := (hY : ps_Yc c gc gl bD bA bC bB bR bU)
  obtain ⟨g1, g2, g3, g4, g5⟩ := hG
  unfold wpX_stretch wpY_stretch
  dsimp only
  rcases ps_tc v1 g1 with hb | ⟨t, ht, rfl⟩
  · exact px_isT0 _ (nI (ps_n c)) fl ft aD aR aU aA aC aB aO aE aS aL rfl v1 hb _ (br_t rfl (py_bad1 _ (nI (ps_n c)) gp gl bD bA bC bB bR bU bO bS bW rfl v1 hb _ (br_f (by decide) ⟨rfl, R0⟩)))
  · refine px_isT1 _ t ht g1 (nI (ps_n c)) fl ft aD aR aU aA aC aB aO aE aS aL rfl _ (br_f (by decide) ?_)
    have B : ∀ {post : Int32 → Prop}, post 0 → wpY_bad post (nI (ps_n c), gp, gl, bD, bA, bC, bB, bR, bU, bO, bS, bW) (nI t) := fun h => py_bad0 _ t ht g1 (nI (ps_n c)) gp gl bD bA bC bB bR bU bO bS bW rfl _ h
    refine px_dur v2 (nI (ps_n c)) fl ft aD aR aU aA aC aB aO aE aS aL _ (fun hb => br_t rfl ?_) (fun d d1 d2 e => br_f (by decide) ?_)
    · rcases hb with a | ⟨a, b⟩
      · exact B (br_t rfl (br_t a ⟨rfl, R0⟩))
      · exact B (br_t rfl (br_f a (br_f (Int32.not_le.mpr b) ⟨rfl, R0⟩)))
    · subst e
      refine ⟨vp_in_nI (by omega) (by omega), nm_r (e' := nI (ps_D c t)) (by rw [nI_clamp (by omega)]; exact (x2 t ht).1) ⟨vp_in_nI (by omega) (by omega), nm_r (e' := upd aD t (nI d)) (by rw [nI_clamp (by omega)]) ?_⟩⟩
      refine B (br_t rfl (br_f (nI_nlt (a := d) (b := 1) (by omega) (by omega)) (br_t (nI_le (b := 9) (by omega) (by omega)) ⟨vp_in_nI (by omega) (by omega), nm_r (e' := nI (ps_D c t)) (by rw [nI_clamp (by omega)]; exact (y3 t ht).1) ⟨vp_in_nI (by omega) (by omega), nm_r (e' := upd bD t (nI d)) (by rw [nI_clamp (by omega)]) ⟨rfl, ?_⟩⟩⟩)))
      refine ⟨(ps_n c, ps_up (ps_D c) t d, ps_R c, ps_U c, ps_A c, ps_C c, ps_B c, ps_l c), ⟨g1, fun j hj => ?_, g3, g4, g5⟩, ⟨rfl, fun j hj => ⟨ps_upd rfl (fun _ => (x2 j hj).1), (x2 j hj).2⟩, x3, x4, x5⟩, ⟨rfl, y2, fun j hj => ⟨ps_upd rfl (fun _ => (y3 j hj).1), (y3 j hj).2⟩, y4, y5, y6⟩⟩
      have := g2 j hj
      show 1 ≤ ps_up (ps_D c) t d j ∧ ps_up (ps_D c) t d j ≤ 9 ∧ ps_R c j ≤ 20 ∧ ps_U c j ≤ 99 ∧ ps_A c 0 j ≤ 4 ∧ ps_A c 1 j ≤ 4
      by_cases e : j = t
      · subst e; rw [ps_up_s]; omega
      · rw [ps_up_n e]; exact this
theorem ps_narb (v : Int32) : vp_nar .boolean (lw_bz v) = lw_bz v := by
  unfold vp_nar
  rw [lw_bz_n]
theorem ps_narb0 : vp_nar .boolean 0 = 0 := ps_narb 0
theorem i_vc_precede {k : Nat} {u : SX} {v : SY} (I : i_Rel k u v) (hk : k + 4 ≤ 2048) (v1 : Int32) (v2 : Int32) (v3 : Int32) : wpX_precede (fun r u' => wpY_precede (fun r' v' => r' = r ∧ i_Rel (k + 4) u' v') v v1 v2 (lw_bz v3)) u v1 v2 (lw_bz v3) := by
  obtain ⟨fc, fl, ft, aD, aR, aU, aA, aC, aB, aO, aE, aS, aL⟩ := u
  obtain ⟨gc, gp, gl, bD, bA, bC, bB, bR, bU, bO, bS, bW⟩ := v
  obtain ⟨c, hG, hX, hY⟩ := I
  have R0 : i_Rel (k + 4) (fc, fl, ft, aD, aR, aU, aA, aC, aB, aO, aE, aS, aL) (gc, gp, gl, bD, bA, bC, bB, bR, bU, bO, bS, bW) := ⟨c, hG, hX, hY⟩
  obtain ⟨rfl, x2, x3, x4, x5⟩ := (hX : ps_Xc c fc aD aR aU aA aC aB)
  obtain ⟨rfl, y2, y3, y4, y5, y6⟩ := (hY : ps_Yc c gc gl bD bA bC bB bR bU)
  obtain ⟨g1, g2, g3, g4, g5⟩ := hG
  refine br_c (fun a => br_t a ⟨rfl, R0⟩) (fun a => br_c (fun b => br_f a (br_t b ⟨rfl, R0⟩)) (fun b => ?_))
  rcases ps_tc v2 g1 with hb | ⟨t, ht, rfl⟩
  · exact px_isT0 _ (nI (ps_n c)) fl ft aD aR aU aA aC aB aO aE aS aL rfl v2 hb _ (br_t rfl (br_f a (br_f b (py_bad1 _ (nI (ps_n c)) gp gl bD bA bC bB bR bU bO bS bW rfl v2 hb _ (br_f (by decide) ⟨rfl, R0⟩)))))
  · obtain ⟨s, hs, rfl⟩ := nI_of a
    have hst : s < t := by
      rw [nI_leI (by omega) hs] at b
      omega
    refine px_isT1 _ t ht g1 (nI (ps_n c)) fl ft aD aR aU aA aC aB aO aE aS aL rfl _ (br_f (by decide) ?_)
    refine nm_r (ps_ix6 s t) ⟨vp_in_nI (by omega) (by omega), nm_r (e' := if ps_B c s t = true then 1 else 0) (by rw [nI_clamp (by omega)]; exact x5 s t hst (by omega)) ⟨vp_in_nI (by omega) (by omega), nm_r (e' := upd aB (s * 6 + t) (lw_bz v3)) (by rw [nI_clamp (by omega), ps_narb]) ?_⟩⟩
    have hXn : ∀ on : Bool, lw_bz v3 = (if on = true then 1 else 0) → ps_Xc (ps_n c, ps_D c, ps_R c, ps_U c, ps_A c, ps_C c, (fun x y => if x = s ∧ y = t then on else ps_B c x y), ps_l c) (nI (ps_n c)) aD aR aU aA aC (upd aB (s * 6 + t) (lw_bz v3)) := by
      intro on hon
      refine ⟨rfl, x2, x3, x4, fun x y hxy hy => ?_⟩
      show _ = if (if x = s ∧ y = t then on else ps_B c x y) = true then (1 : Int32) else 0
      by_cases e : x = s ∧ y = t
      · rw [if_pos e, e.1, e.2, pk_us]
        exact hon
      · rw [if_neg e, pk_un (by omega)]
        exact x5 x y hxy hy
    have hGn : ∀ on : Bool, ps_G9 (ps_n c, ps_D c, ps_R c, ps_U c, ps_A c, ps_C c, (fun x y => if x = s ∧ y = t then on else ps_B c x y), ps_l c) := by
      intro on
      refine ⟨g1, g2, g3, g4, fun x y hy => ?_⟩
      have hy' : ps_n c ≤ y := hy
      show (if x = s ∧ y = t then on else ps_B c x y) = false
      rw [if_neg (by omega)]
      exact g5 x y hy'
    have hYn : ∀ (on : Bool) (z : Int32), (∀ i, i < 32 → bt z i = if i = s then on else bt (bB t) i) → ps_Yc (ps_n c, ps_D c, ps_R c, ps_U c, ps_A c, ps_C c, (fun x y => if x = s ∧ y = t then on else ps_B c x y), ps_l c) (nI (ps_n c)) gl bD bA bC (upd bB t z) bR bU := by
      intro on z hz
      refine ⟨rfl, y2, y3, y4, y5, fun y hy i hi => ?_⟩
      show _ = (decide (i < y) && if i = s ∧ y = t then on else ps_B c i y)
      by_cases e : y = t
      · subst e
        rw [pk_us, hz i hi]
        by_cases f : i = s
        · rw [if_pos f, if_pos ⟨f, rfl⟩, decide_eq_true (by omega : i < y), Bool.true_and]
        · rw [if_neg f, if_neg (fun q => f q.1)]
          exact y6 y hy i hi
      · rw [pk_un e, if_neg (fun q => e q.2)]
        exact y6 y hy i hi
    have eold : ((bB (nI t).toNatClampNeg) >>> (nI s &&& 31)) &&& 1 = if ps_B c s t = true then 1 else 0 := by
      rw [nI_clamp (by omega), ps_bit _ (by omega), y6 t ht s (by omega), decide_eq_true hst, Bool.true_and]
    have hYw : ∀ (r : Int32) (aB' : Nat → Int32), (r = if ps_B c s t = true then 1 else 0) → aB' = upd aB (s * 6 + t) (lw_bz v3) → wpY_precede (fun r' v' => r' = r ∧ i_Rel (k + 4) (nI (ps_n c), fl, ft, aD, aR, aU, aA, aC, aB', aO, aE, aS, aL) v') (nI (ps_n c), gp, gl, bD, bA, bC, bB, bR, bU, bO, bS, bW) (nI s) (nI t) (lw_bz v3) := by
      intro r aB' hr haB
      subst haB
      refine br_f a (br_f b (py_bad0 _ t ht g1 (nI (ps_n c)) gp gl bD bA bC bB bR bU bO bS bW rfl _ (br_t rfl ⟨vp_in_nI (by omega) (by omega), nm_r eold ?_⟩)))
      rcases lw_bz_01 v3 with e | e
      · refine br_t e ⟨vp_in_nI (by omega) (by omega), vp_in_nI (by omega) (by omega), nm_r (e' := upd bB t (bB t &&& (((1 : Int32) <<< (nI s &&& 31)) ^^^ (-1)))) (by rw [nI_clamp (by omega)]) ⟨hr.symm, _, hGn false, hXn false (by rw [e]; rfl), hYn false _ (fun i hi => ?_)⟩⟩
        rw [ps_clr (by omega) hi]
        by_cases f : i = s
        · rw [if_pos f, decide_eq_true f]; simp
        · rw [if_neg f, decide_eq_false f]; simp
      · refine br_f (by rw [e]; decide) ⟨vp_in_nI (by omega) (by omega), vp_in_nI (by omega) (by omega), nm_r (e' := upd bB t (bB t ||| ((1 : Int32) <<< (nI s &&& 31)))) (by rw [nI_clamp (by omega)]) ⟨hr.symm, _, hGn true, hXn true (by rw [e]; rfl), hYn true _ (fun i hi => ?_)⟩⟩
        rw [ps_set (by omega) hi]
        by_cases f : i = s
        · rw [if_pos f, decide_eq_true f]; simp
        · rw [if_neg f, decide_eq_false f]; simp
    by_cases z : ps_B c s t = true
    · rw [if_pos z]
      exact br_f (by decide) (hYw 1 _ (by rw [if_pos z]) rfl)
    · rw [if_neg z]
      exact br_t rfl (hYw 0 _ (by rw [if_neg z]) rfl)
theorem i_vc_drop {k : Nat} {u : SX} {v : SY} (I : i_Rel k u v) (hk : k + 4 ≤ 2048) : wpX_drop (fun r u' => wpY_drop (fun r' v' => r' = r ∧ i_Rel (k + 4) u' v') v) u := by
  obtain ⟨fc, fl, ft, aD, aR, aU, aA, aC, aB, aO, aE, aS, aL⟩ := u
  obtain ⟨gc, gp, gl, bD, bA, bC, bB, bR, bU, bO, bS, bW⟩ := v
  obtain ⟨c, hG, hX, hY⟩ := I
  have R0 : i_Rel (k + 4) (fc, fl, ft, aD, aR, aU, aA, aC, aB, aO, aE, aS, aL) (gc, gp, gl, bD, bA, bC, bB, bR, bU, bO, bS, bW) := ⟨c, hG, hX, hY⟩
  obtain ⟨rfl, x2, x3, x4, x5⟩ := (hX : ps_Xc c fc aD aR aU aA aC aB)
  obtain ⟨rfl, y2, y3, y4, y5, y6⟩ := (hY : ps_Yc c gc gl bD bA bC bB bR bU)
  obtain ⟨g1, g2, g3, g4, g5⟩ := hG
  refine pk_le 1 (ps_n c) (fun h => ?_) (fun h => br_t (by rw [show ps_n c = 0 from by omega]; rfl) ⟨rfl, R0⟩) rfl rfl (by omega) (by omega)
  obtain ⟨n, hn⟩ : ∃ n, ps_n c = n + 1 := ⟨ps_n c - 1, by omega⟩
  have e1 : nI (ps_n c) - 1 = nI n := by rw [hn]; exact nI_pred n
  refine nm_r e1 ?_
  have key : ∀ d j aB, j + d = n → (∀ x y, x < y → y < 6 → aB (x * 6 + y) = if (if y = n ∧ x < j then false else ps_B c x y) = true then 1 else 0) → wX_drop_19 (fun r u' => wpY_drop (fun r' v' => r' = r ∧ i_Rel (k + 4) u' v') (nI (ps_n c), gp, gl, bD, bA, bC, bB, bR, bU, bO, bS, bW)) (nI n) (nI (ps_n c)) fl ft (d + 1) (nI j) aD aR aU aA aC aB aO aE aS aL := by
    intro d
    induction d with
    | zero =>
      intro j aB hj hB
      refine br_t (nI_le (by omega) (by omega)) ?_
      refine br_f (nI_ne0 (by omega) (by omega)) (nm_r e1 ⟨rfl, ?_⟩)
      refine ⟨(n, ps_D c, ps_R c, ps_U c, ps_A c, ps_C c, (fun x y => if n ≤ y ∨ (y = n ∧ x < j) then false else ps_B c x y), ps_l c), ⟨by show n ≤ 6; omega, fun t ht => g2 t (by have : t < n := ht; omega), g3, g4, fun x y hy => if_pos (Or.inl hy)⟩, ⟨rfl, fun t ht => x2 t (by have : t < n := ht; omega), fun m t hm ht => x3 m t hm (by have : t < n := ht; omega), x4, fun x y hxy hy => ?_⟩, ⟨rfl, y2, fun t ht => y3 t (by have : t < n := ht; omega), fun m t hm ht => y4 m t hm (by have : t < n := ht; omega), y5, fun t ht i hi => ?_⟩⟩
      · show _ = if (if n ≤ y ∨ (y = n ∧ x < j) then false else ps_B c x y) = true then (1 : Int32) else 0
        rw [hB x y hxy hy]
        by_cases f : n ≤ y
        · rw [if_pos (Or.inl f)]
          by_cases g : y = n
          · rw [if_pos (show y = n ∧ x < j from ⟨g, by omega⟩)]
          · rw [if_neg (show ¬ (y = n ∧ x < j) from fun q => g q.1), g5 x y (by omega)]
        · rw [if_neg (show ¬ (y = n ∧ x < j) from by omega), if_neg (show ¬ (n ≤ y ∨ (y = n ∧ x < j)) from by omega)]
      · have ht' : t < n := ht
        show _ = (decide (i < t) && if n ≤ t ∨ (t = n ∧ i < j) then false else ps_B c i t)
        rw [if_neg (by omega)]
        exact y6 t (by omega) i hi
    | succ d ih =>
      intro j aB hj hB
      refine br_f (nI_ge (by omega) (by omega)) ⟨pk_in (j * 6 + n) 36 (by omega) (ps_ix6 j n), nm_r (e' := upd aB (j * 6 + n) 0) (by rw [ps_ix6, nI_clamp (by omega), ps_narb0]) (nm_r (nI_1 j) (ih (j + 1) _ (by omega) (fun x y hxy hy => ?_)))⟩
      by_cases e : x * 6 + y = j * 6 + n
      · have f1 : x = j := by omega
        have f2 : y = n := by omega
        rw [e, pk_us, if_pos (show y = n ∧ x < j + 1 from ⟨f2, by omega⟩)]
        rfl
      · rw [pk_un e, hB x y hxy hy]
        by_cases f : y = n ∧ x < j
        · rw [if_pos f, if_pos (show y = n ∧ x < j + 1 from ⟨f.1, by omega⟩)]
        · rw [if_neg f, if_neg (show ¬ (y = n ∧ x < j + 1) from by omega)]
  exact ⟨_, key n 0 aB (by omega) (fun x y hxy hy => by rw [if_neg (show ¬ (y = n ∧ x < 0) from by omega)]; exact x5 x y hxy hy)⟩
