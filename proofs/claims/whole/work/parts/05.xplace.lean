theorem ps_use_le {c : ps_Cf} (hg : ps_gd c) (E : Nat → Nat) {m : Nat} (hm : m < 2) (τ : Nat) : ps_use c E m τ ≤ 24 := by
  have h1 : ps_use c E m τ ≤ ps_n c * 4 := by
    apply ps_sum_const
    intro t ht
    have := ps_A4 hg hm ht
    split <;> omega
  have := hg.1
  omega
theorem ps_fit_m {c : ps_Cf} (hl : ps_l c = true) {E : Nat → Nat} {t s : Nat} : ps_fit c E t s ↔ ∀ m, m < 2 → ∀ τ, s ≤ τ → τ < s + ps_D c t → ps_use c E m τ + ps_A c m t ≤ ps_C c m := by
  constructor
  · intro h m hm τ h1 h2
    exact ps_m2 (P := fun m => ps_use c E m τ + ps_A c m t ≤ ps_C c m) (h hl τ h1 h2).1 (h hl τ h1 h2).2 m hm
  · intro h _ τ h1 h2
    exact ⟨h 0 (by omega) τ h1 h2, h 1 (by omega) τ h1 h2⟩
theorem ps_use_pl {c : ps_Cf} {l : List Nat} {t : Nat} (ht : t < ps_n c) (e0 : ps_run c l t = 0) (m τ : Nat) : ps_use c (ps_run c (t :: l)) m τ = ps_use c (ps_run c l) m τ + if ps_est c (ps_run c l) t ≤ τ ∧ τ < ps_est c (ps_run c l) t + ps_D c t then ps_A c m t else 0 := by
  apply ps_sum_add ht
  · intro j _ hj
    rw [ps_run_n hj]
  · rw [ps_run_s, e0, if_neg (show ¬ (0 ≤ τ + ps_D c t ∧ τ < 0) from fun q => absurd q.2 (Nat.not_lt_zero τ)), Nat.zero_add]
    by_cases z : ps_est c (ps_run c l) t ≤ τ ∧ τ < ps_est c (ps_run c l) t + ps_D c t
    · rw [if_pos z, if_pos (by omega)]
    · rw [if_neg z, if_neg (by omega)]
theorem px_fits {c : ps_Cf} (hg : ps_gd c) (hf : ps_fe c) (hl : ps_l c = true) (fc fl ft : Int32) (aD aR aU aA aC aB aO aE aS aL : Nat → Int32) (hX : ps_Xc c fc aD aR aU aA aC aB) {t s : Nat} (ht : t < ps_n c) (hs : s + ps_D c t ≤ 75) {E : Nat → Nat}
    (hS : ∀ m τ, m < 2 → τ < 75 → aS (m * 75 + τ) = nI (ps_use c E m τ)) (post : Int32 → Prop) (h1 : ps_fit c E t s → post 1) (h0 : ¬ ps_fit c E t s → post 0) : wpX_fits post (fc, fl, ft, aD, aR, aU, aA, aC, aB, aO, aE, aS, aL) (nI t) (nI s) := by
  have hn := hg.1
  have hD := hg.2.1 t ht
  have k1 : ∀ (J2 : Int32 → Prop) m, m < 2 → ((∀ q, s ≤ q → q < s + ps_D c t → ps_use c E m q + ps_A c m t ≤ ps_C c m) → J2 (nI (m + 1))) →
      ∀ d τ, τ + d = s + ps_D c t → s ≤ τ → (∀ q, s ≤ q → q < τ → ps_use c E m q + ps_A c m t ≤ ps_C c m) → wX_fits_50 post J2 (nI t) (nI s) (nI m) (nI (ps_C c m - ps_A c m t)) (nI (m * 75 + s + ps_D c t)) fc fl ft aD aR aU aA aC aB aO aE aS aL (d + 1) (nI (m * 75 + τ)) := by
    intro J2 m hm hJ d
    induction d with
    | zero =>
      intro τ hτ _ hq
      exact br_t (nI_le (by omega) (by omega)) (nm_r (nI_1 m) (hJ (fun q q1 q2 => hq q q1 (by omega))))
    | succ d ih =>
      intro τ hτ hsτ hq
      have hu := ps_use_le hg E hm τ
      have hA := ps_A4 hg hm ht
      have hC := ps_C8 hg hm
      have hAC := ps_fem hf hm ht
      refine br_f (nI_ge (by omega) (by omega)) ⟨vp_in_nI (by omega) (by omega), ?_⟩
      refine pk_le (ps_use c E m τ) (ps_C c m - ps_A c m t) (fun z => nm_r (nI_1 (m * 75 + τ)) (ih (τ + 1) (by omega) (by omega) (fun q q1 q2 => ?_))) (fun z => h0 (fun f => ?_)) (by rw [nI_clamp (by omega)]; exact hS m τ hm (by omega)) rfl (by omega) (by omega)
      · by_cases e : q = τ
        · subst e; omega
        · exact hq q q1 (by omega)
      · have := (ps_fit_m hl).mp f m hm τ (by omega) (by omega)
        omega
  have k2 : ∀ d m, m + d = 2 → (∀ k, k < m → ∀ q, s ≤ q → q < s + ps_D c t → ps_use c E k q + ps_A c k t ≤ ps_C c k) → wX_fits_2 post (nI t) (nI s) fc fl ft aD aR aU aA aC aB aO aE aS aL (d + 1) (nI m) := by
    intro d
    induction d with
    | zero =>
      intro m hm hk
      exact br_t (nI_le (a := 2) (b := m) (by omega) (by omega)) (h1 ((ps_fit_m hl).mpr (fun k hk2 => hk k (by omega))))
    | succ d ih =>
      intro m hm hk
      have hAC := ps_fem hf (m := m) (t := t) (by omega) ht
      refine br_f (nI_ge (b := 2) (a := m) (by omega) (by omega)) ⟨vp_in_nI (by omega) (by omega), pk_in (m * 6 + t) 12 (by omega) (ps_ix6 m t), ?_⟩
      refine nm_r (e' := nI (ps_C c m - ps_A c m t)) ?_ (nm_r (ps_ix75 m s) ⟨vp_in_nI (by omega) (by omega), nm_r (e' := nI (m * 75 + s + ps_D c t)) ?_ ⟨ps_D c t + 1, ?_⟩⟩)
      · rw [ps_ix6, nI_clamp (by omega), nI_clamp (by omega), hX.2.2.2.1 m (by omega), hX.2.2.1 m t (by omega) ht, pk_sub hAC]
      · rw [nI_clamp (by omega), (hX.2.1 t ht).1, nI_add]
      · refine k1 _ m (by omega) (fun hq => ih (m + 1) (by omega) (fun k hk2 => ?_)) (ps_D c t) s (by omega) (by omega) (fun q q1 q2 => by omega)
        by_cases e : k = m
        · subst e; exact hq
        · exact hk k (by omega)
  exact ⟨3, k2 2 0 (by omega) (fun k hk => absurd hk (Nat.not_lt_zero k))⟩
theorem px_est {c : ps_Cf} (hg : ps_gd c) (hf : ps_fe c) (hl : ps_l c = true) (fc fl ft : Int32) (aD aR aU aA aC aB aO aE aS aL : Nat → Int32) (hX : ps_Xc c fc aD aR aU aA aC aB) {t s : Nat} (ht : t < ps_n c) {E : Nat → Nat} (hF : ps_First c E t s) (hs : s + ps_D c t ≤ 75)
    (hS : ∀ m τ, m < 2 → τ < 75 → aS (m * 75 + τ) = nI (ps_use c E m τ)) (post : Int32 → Prop) (h : post (nI s)) : wpX_earliestStart post (fc, fl, ft, aD, aR, aU, aA, aC, aB, aO, aE, aS, aL) (nI t) (nI (ps_rdy c E t t)) := by
  have hn := hg.1
  have hD := hg.2.1 t ht
  obtain ⟨f1, f2, f3⟩ := hF
  have key : ∀ d q, q + d = 75 - ps_D c t → ps_rdy c E t t ≤ q → q ≤ s → wX_earliestStart_13 post (nI t) (nI (75 - ps_D c t)) fc fl ft aD aR aU aA aC aB aO aE aS aL (d + 1) (nI q) := by
    intro d
    induction d with
    | zero =>
      intro q hq h1 h2
      refine br_t (nI_le (by omega) (by omega)) ?_
      rw [show 75 - ps_D c t = s from by omega]
      exact h
    | succ d ih =>
      intro q hq h1 h2
      refine br_f (nI_ge (by omega) (by omega)) ?_
      refine px_fits hg hf hl fc fl ft aD aR aU aA aC aB aO aE aS aL hX ht (by omega) hS _ (fun z => br_f (by decide) ?_) (fun z => br_t rfl (nm_r (nI_1 q) (ih (q + 1) (by omega) (by omega) ?_)))
      · have e : q = s := by
          by_cases e : q < s
          · exact absurd z (f3 q h1 e)
          · omega
        rw [e]
        exact h
      · by_cases e : q = s
        · subst e; exact absurd f2 z
        · omega
  refine ⟨vp_in_nI (by omega) (by omega), nm_r (e' := nI (75 - ps_D c t)) ?_ ⟨75 - ps_D c t - ps_rdy c E t t + 1, key _ _ (by omega) (by omega) f1⟩⟩
  rw [nI_clamp (by omega), (hX.2.1 t ht).1]
  exact pk_sub (a := 75) (by omega)
theorem px_take {c : ps_Cf} (hg : ps_gd c) (fc fl ft : Int32) (aD aR aU aA aC aB aO aE aS aL : Nat → Int32) (hX : ps_Xc c fc aD aR aU aA aC aB) {t s : Nat} (ht : t < ps_n c) (hs : s + ps_D c t ≤ 75) (V V' : Nat → Nat → Nat)
    (hV : ∀ m τ, m < 2 → V' m τ = V m τ + if s ≤ τ ∧ τ < s + ps_D c t then ps_A c m t else 0)
    (hS : ∀ m τ, m < 2 → τ < 75 → aS (m * 75 + τ) = nI (V m τ)) (post : SX → Prop) (h : ∀ aS', (∀ m τ, m < 2 → τ < 75 → aS' (m * 75 + τ) = nI (V' m τ)) → post (fc, fl, ft, aD, aR, aU, aA, aC, aB, aO, aE, aS', aL)) : wpX_takeMeans post (fc, fl, ft, aD, aR, aU, aA, aC, aB, aO, aE, aS, aL) (nI t) (nI s) := by
  have hn := hg.1
  have hD := hg.2.1 t ht
  have k1 : ∀ (J2 : Int32 → (Nat → Int32) → (Nat → Int32) → (Nat → Int32) → (Nat → Int32) → (Nat → Int32) → (Nat → Int32) → (Nat → Int32) → (Nat → Int32) → (Nat → Int32) → (Nat → Int32) → Prop) m, m < 2 →
      (∀ aS, (∀ m' τ', m' < 2 → τ' < 75 → aS (m' * 75 + τ') = nI (if m' < m + 1 then V' m' τ' else V m' τ')) → J2 (nI (m + 1)) aD aR aU aA aC aB aO aE aS aL) →
      ∀ d τ aS, τ + d = s + ps_D c t → s ≤ τ → (∀ m' τ', m' < 2 → τ' < 75 → aS (m' * 75 + τ') = nI (if m' < m ∨ (m' = m ∧ τ' < τ) then V' m' τ' else V m' τ')) →
      wX_takeMeans_30 post J2 (nI t) (nI s) (nI m) (nI (m * 75 + s + ps_D c t)) fc fl ft (d + 1) (nI (m * 75 + τ)) aD aR aU aA aC aB aO aE aS aL := by
    intro J2 m hm hJ d
    induction d with
    | zero =>
      intro τ aS hτ hsτ hq
      refine br_t (nI_le (by omega) (by omega)) (nm_r (nI_1 m) (hJ aS (fun m' τ' h1 h2 => ?_)))
      rw [hq m' τ' h1 h2]
      by_cases z : m' < m + 1
      · rw [if_pos z]
        by_cases y : m' < m ∨ (m' = m ∧ τ' < τ)
        · rw [if_pos y]
        · rw [if_neg y, hV m' τ' h1, if_neg (by omega), Nat.add_zero]
      · rw [if_neg z, if_neg (by omega)]
    | succ d ih =>
      intro τ aS hτ hsτ hq
      refine br_f (nI_ge (by omega) (by omega)) ⟨vp_in_nI (by omega) (by omega), pk_in (m * 6 + t) 12 (by omega) (ps_ix6 m t), vp_in_nI (by omega) (by omega), nm_e (nm_r (nI_1 (m * 75 + τ)) (ih (τ + 1) _ (by omega) (by omega) (fun m' τ' h1 h2 => ?_)))⟩
      rw [ps_ix6, nI_clamp (n := m * 75 + τ) (by omega), nI_clamp (n := m * 6 + t) (by omega), hX.2.2.1 m t hm ht]
      by_cases e : m' * 75 + τ' = m * 75 + τ
      · have e1 : m' = m := by omega
        have e2 : τ' = τ := by omega
        subst e1 e2
        rw [pk_us, hq m' τ' h1 h2, if_neg (by omega), if_pos (by omega), nI_add, hV m' τ' h1, if_pos (by omega)]
      · rw [pk_un e, hq m' τ' h1 h2]
        by_cases y : m' < m ∨ (m' = m ∧ τ' < τ)
        · rw [if_pos y, if_pos (by omega)]
        · rw [if_neg y, if_neg (by omega)]
  have k2 : ∀ d m aS, m + d = 2 → (∀ m' τ', m' < 2 → τ' < 75 → aS (m' * 75 + τ') = nI (if m' < m then V' m' τ' else V m' τ')) → wX_takeMeans_2 post (nI t) (nI s) fc fl ft (d + 1) (nI m) aD aR aU aA aC aB aO aE aS aL := by
    intro d
    induction d with
    | zero =>
      intro m aS hm hq
      refine br_t (nI_le (a := 2) (b := m) (by omega) (by omega)) (h aS (fun m' τ' h1 h2 => ?_))
      rw [hq m' τ' h1 h2, if_pos (by omega)]
    | succ d ih =>
      intro m aS hm hq
      refine br_f (nI_ge (b := 2) (a := m) (by omega) (by omega)) (nm_r (ps_ix75 m s) ⟨vp_in_nI (by omega) (by omega), nm_r (e' := nI (m * 75 + s + ps_D c t)) ?_ ⟨ps_D c t + 1, ?_⟩⟩)
      · rw [nI_clamp (by omega), (hX.2.1 t ht).1, nI_add]
      · refine k1 _ m (by omega) (fun aS' hq' => ih (m + 1) aS' (by omega) hq') (ps_D c t) s aS (by omega) (by omega) (fun m' τ' h1 h2 => ?_)
        rw [hq m' τ' h1 h2]
        by_cases z : m' < m
        · rw [if_pos z, if_pos (by omega)]
        · rw [if_neg z]
          by_cases y : m' < m ∨ (m' = m ∧ τ' < s)
          · rw [if_pos y, hV m' τ' h1, if_neg (by omega), Nat.add_zero]
          · rw [if_neg y]
  exact ⟨3, k2 2 0 aS (by omega) (fun m' τ' h1 h2 => by rw [hS m' τ' h1 h2, if_neg (Nat.not_lt_zero m')])⟩
theorem ps_nm1 {x : Nat} (h : x < 2147483648) : ¬ nI x = -1 := by
  intro q
  have := nI_pos (n := x) (by omega)
  rw [q] at this
  exact this (by decide)
theorem px_place {c : ps_Cf} (hg : ps_gd c) (hf : ps_fe c) (hl : ps_l c = true) (fc fl ft : Int32) (aD aR aU aA aC aB aO aE aS aL : Nat → Int32) (hX : ps_Xc c fc aD aR aU aA aC aB) {q : Nat → Nat} (hO : ∀ j, j < ps_n c → aO j = nI (q j)) (hq1 : ∀ j, j < ps_n c → q j < ps_n c) (hq2 : ∀ i j, i < ps_n c → j < ps_n c → q i = q j → i = j)
    (post : Int32 → SX → Prop) (h1 : ps_ok c (ps_lst q (ps_n c)) → ∀ aE' aS', (∀ t, t < ps_n c → aE' t = nI (ps_run c (ps_lst q (ps_n c)) t)) → post 1 (fc, fl, ft, aD, aR, aU, aA, aC, aB, aO, aE', aS', aL))
    (h0 : ¬ ps_ok c (ps_lst q (ps_n c)) → ∀ aE' aS', post 0 (fc, fl, ft, aD, aR, aU, aA, aC, aB, aO, aE', aS', aL)) : wpX_placeInOrder post (fc, fl, ft, aD, aR, aU, aA, aC, aB, aO, aE, aS, aL) := by
  have hn := hg.1
  have key : ∀ d i aE aS, i + d = ps_n c → ps_ok c (ps_lst q i) → (∀ t, t < ps_n c → aE t = nI (ps_run c (ps_lst q i) t)) → (∀ m τ, m < 2 → τ < 75 → aS (m * 75 + τ) = nI (ps_use c (ps_run c (ps_lst q i)) m τ)) → wX_placeInOrder_6 post (d + 1) (nI i) fc fl ft aD aR aU aA aC aB aO aE aS aL := by
    intro d
    induction d with
    | zero =>
      intro i aE aS hi hok hE hS
      have ei : i = ps_n c := by omega
      subst ei
      exact br_t (by rw [hX.1]; exact nI_le (by omega) (by omega)) (h1 hok aE aS hE)
    | succ d ih =>
      intro i aE aS hi hok hE hS
      have ht := hq1 i (by omega)
      have hD := hg.2.1 (q i) ht
      have hni : q i ∉ ps_lst q i := by
        intro z
        obtain ⟨j, hj, ej⟩ := (ps_lst_mem q (q i) i).mp z
        have := hq2 j i (by omega) (by omega) ej
        omega
      obtain ⟨i1, i2, i3⟩ := ps_inv hg hf _ hok
      have e0 : ps_run c (ps_lst q i) (q i) = 0 := by
        by_cases z : ps_run c (ps_lst q i) (q i) = 0
        · exact z
        · exact absurd ((i1 _).mpr z) hni
      have hr75 : ∀ b, ps_run c (ps_lst q i) b ≤ 75 := ps_run_le hg hf hok
      refine br_f (by rw [hX.1]; exact nI_ge (by omega) (by omega)) ⟨vp_in_nI (by omega) (by omega), nm_r (e' := nI (q i)) (by rw [nI_clamp (by omega)]; exact hO i (by omega)) ?_⟩
      refine px_ready hg fc fl ft aD aR aU aA aC aB aO aE aS aL hX ht (E := ps_run c (ps_lst q i)) (fun b hb => ⟨hE b (by omega), hr75 b⟩) _ (fun hb => ?_) (fun hb => br_t rfl (h0 (fun z => hb (fun b hb1 hb2 => ?_)) aE aS))
      · have hok' : ps_ok c (q i :: ps_lst q i) := ⟨hok, ht, hni, fun b hb1 hb2 => (i1 b).mpr (hb b hb1 hb2)⟩
        obtain ⟨hF, hs⟩ := ps_first hg hf hok'
        have hrd := ps_rdy_le (c := c) (E := ps_run c (ps_lst q i)) (t := q i) (M := 75) (by omega) hr75 (q i)
        refine br_f (ps_nm1 (by omega)) (px_est hg hf hl fc fl ft aD aR aU aA aC aB aO aE aS aL hX ht hF hs hS _ ?_)
        refine ⟨vp_in_nI (by omega) (by omega), vp_in_nI (by omega) (by omega), nm_e ?_⟩
        refine px_take hg fc fl ft aD aR aU aA aC aB aO _ aS aL hX ht hs (ps_use c (ps_run c (ps_lst q i))) (ps_use c (ps_run c (q i :: ps_lst q i))) (fun m τ _ => ps_use_pl ht e0 m τ) hS _ (fun aS' hS' => ?_)
        refine nm_r (nI_1 i) (ih (i + 1) _ aS' (by omega) hok' (fun t htn => ?_) hS')
        rw [nI_clamp (by omega), (hX.2.1 _ ht).1, nI_add]
        show _ = nI (ps_run c (q i :: ps_lst q i) t)
        by_cases e : t = q i
        · rw [e, pk_us, ps_run_s]
        · rw [pk_un e, ps_run_n e]
          exact hE t htn
      · have z2 : ps_ok c (ps_lst q (i + 1)) := ps_lst_ok (ps_n c - (i + 1)) (i + 1) (by rw [show i + 1 + (ps_n c - (i + 1)) = ps_n c from by omega]; exact z)
        exact (i1 b).mp (z2.2.2.2 b hb1 hb2)
  refine px_clear hg fc fl ft aD aR aU aA aC aB aO aE aS aL hX.1 _ (fun aE' aS' hE hS => ⟨ps_n c + 1, key (ps_n c) 0 aE' aS' (by omega) trivial (fun t ht => hE t ht) (fun m τ hm hτ => ?_)⟩)
  rw [hS _ (by omega)]
  have : ps_use c (ps_run c (ps_lst q 0)) m τ = 0 := ps_sum_zero (fun b _ => if_neg (fun z => absurd z.2 (Nat.not_lt_zero τ)))
  rw [this]
  rfl
