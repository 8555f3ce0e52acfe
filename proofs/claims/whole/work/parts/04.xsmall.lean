/-! the component's state holds the project c -/
def ps_Xc (c : ps_Cf) (fc : Int32) (aD aR aU aA aC aB : Nat → Int32) : Prop :=
  fc = nI (ps_n c) ∧ (∀ t, t < ps_n c → aD t = nI (ps_D c t) ∧ aR t = nI (ps_R c t) ∧ aU t = nI (ps_U c t)) ∧ (∀ m t, m < 2 → t < ps_n c → aA (m * 6 + t) = nI (ps_A c m t)) ∧ (∀ m, m < 2 → aC m = nI (ps_C c m)) ∧ (∀ a b, a < b → b < 6 → aB (a * 6 + b) = if ps_B c a b = true then 1 else 0)
theorem ps_m2 {P : Nat → Prop} (h0 : P 0) (h1 : P 1) : ∀ m, m < 2 → P m := by
  intro m hm
  by_cases e : m = 0
  · subst e; exact h0
  · rw [show m = 1 from by omega]; exact h1
theorem ps_A4 {c : ps_Cf} (hg : ps_gd c) {m t : Nat} (hm : m < 2) (ht : t < ps_n c) : ps_A c m t ≤ 4 :=
  ps_m2 (P := fun m => ps_A c m t ≤ 4) (hg.2.1 t ht).2.2.2.2.1 (hg.2.1 t ht).2.2.2.2.2 m hm
theorem ps_C8 {c : ps_Cf} (hg : ps_gd c) {m : Nat} (hm : m < 2) : ps_C c m ≤ 8 :=
  ps_m2 (P := fun m => ps_C c m ≤ 8) hg.2.2.2.1 hg.2.2.2.2 m hm
theorem ps_fem {c : ps_Cf} (hf : ps_fe c) {m t : Nat} (hm : m < 2) (ht : t < ps_n c) : ps_A c m t ≤ ps_C c m :=
  ps_m2 (P := fun m => ps_A c m t ≤ ps_C c m) (hf.2 t ht).1 (hf.2 t ht).2 m hm
theorem px_feas12 {c : ps_Cf} (hg : ps_gd c) (fc fl ft : Int32) (aD aR aU aA aC aB aO aE aS aL : Nat → Int32) (hX : ps_Xc c fc aD aR aU aA aC aB) (post : Int32 → Prop) (J2 : Int32 → Prop) {t : Nat} (ht : t < ps_n c)
    (h1 : (∀ m, m < 2 → ps_A c m t ≤ ps_C c m) → J2 (nI (t + 1))) (h0 : ¬ (∀ m, m < 2 → ps_A c m t ≤ ps_C c m) → post 0) :
    ∀ d m, m + d = 2 → (∀ k, k < m → ps_A c k t ≤ ps_C c k) → wX_someFeasiblePlan_12 post J2 (nI t) fc fl ft aD aR aU aA aC aB aO aE aS aL (d + 1) (nI m) := by
  have hn := hg.1
  intro d
  induction d with
  | zero =>
    intro m hm hk
    exact br_t (nI_le (a := 2) (b := m) (by omega) (by omega)) (nm_r (nI_1 t) (h1 (fun k hk2 => hk k (by omega))))
  | succ d ih =>
    intro m hm hk
    have hA := ps_A4 hg (m := m) (t := t) (by omega) ht
    have hC := ps_C8 hg (m := m) (by omega)
    refine br_f (nI_ge (b := 2) (a := m) (by omega) (by omega)) ⟨pk_in (m * 6 + t) 12 (by omega) (ps_ix m 6 t), pk_in m 2 (by omega), ?_⟩
    refine pk_le (ps_A c m t) (ps_C c m) (fun z => nm_r (nI_1 m) (ih (m + 1) (by omega) (fun k hk2 => ?_))) (fun z => h0 (fun q => ?_)) ?_ ?_ (by omega) (by omega)
    · by_cases e : k = m
      · subst e; exact z
      · exact hk k (by omega)
    · have := q m (by omega)
      omega
    · rw [ps_ix6, nI_clamp (by omega)]
      exact hX.2.2.1 m t (by omega) ht
    · rw [nI_clamp (by omega)]
      exact hX.2.2.2.1 m (by omega)
theorem px_feas {c : ps_Cf} (hg : ps_gd c) (fc fl ft : Int32) (aD aR aU aA aC aB aO aE aS aL : Nat → Int32) (hX : ps_Xc c fc aD aR aU aA aC aB) (post : Int32 → Prop) (h1 : ps_fe c → post 1) (h0 : ¬ ps_fe c → post 0) : wpX_someFeasiblePlan post (fc, fl, ft, aD, aR, aU, aA, aC, aB, aO, aE, aS, aL) := by
  have hn := hg.1
  have key : ∀ d t, t + d = ps_n c → (∀ k, k < t → ∀ m, m < 2 → ps_A c m k ≤ ps_C c m) → wX_someFeasiblePlan_2 post fc fl ft aD aR aU aA aC aB aO aE aS aL (d + 1) (nI t) := by
    intro d
    induction d with
    | zero =>
      intro t ht hk
      have et : t = ps_n c := by omega
      refine br_t (by rw [hX.1]; exact nI_le (by omega) (by omega)) ?_
      refine pk_le (ps_n c) 0 (fun z => h0 (fun q => by have := q.1; omega)) (fun z => h1 ⟨by omega, fun k hk2 => ⟨hk k (by omega) 0 (by omega), hk k (by omega) 1 (by omega)⟩⟩) hX.1 rfl (by omega) (by omega)
    | succ d ih =>
      intro t ht hk
      refine br_f (by rw [hX.1]; exact nI_ge (by omega) (by omega)) ⟨3, ?_⟩
      refine px_feas12 hg fc fl ft aD aR aU aA aC aB aO aE aS aL hX post _ (t := t) (by omega) (fun q => ih (t + 1) (by omega) (fun k hk2 => ?_)) (fun q => h0 (fun f => q (fun m hm => ps_fem f hm (by omega)))) 2 0 (by omega) (fun k hk2 => absurd hk2 (Nat.not_lt_zero k))
      by_cases e : k = t
      · subst e; exact q
      · exact hk k (by omega)
  exact ⟨_, key (ps_n c) 0 (by omega) (fun k hk => absurd hk (Nat.not_lt_zero k))⟩
theorem px_ro {c : ps_Cf} (hg : ps_gd c) (fc fl ft : Int32) (aD aR aU aA aC aB aO aE aS aL : Nat → Int32) (hfc : fc = nI (ps_n c)) {u : Nat} (hu : u < 2147483648) (post : SX → Prop) (h : ∀ aO', (∀ j, j < ps_n c → aO' j = nI (ps_ro u (ps_n c) j)) → post (fc, fl, ft, aD, aR, aU, aA, aC, aB, aO', aE, aS, aL)) : wpX_readOrder post (fc, fl, ft, aD, aR, aU, aA, aC, aB, aO, aE, aS, aL) (nI u) := by
  have hn := hg.1
  have key : ∀ d k aO, k + d = ps_n c → (∀ j, j < k → aO j = nI (ps_ro u k j)) → wX_readOrder_4 post fc fl ft (d + 1) (nI (u / ps_fac k)) (nI k) aD aR aU aA aC aB aO aE aS aL := by
    intro d
    induction d with
    | zero =>
      intro k aO hk ho
      have ek : k = ps_n c := by omega
      subst ek
      exact br_t (by rw [hfc]; exact nI_le (by omega) (by omega)) (h aO ho)
    | succ d ih =>
      intro k aO hk ho
      have hv : u / ps_fac k < 2147483648 := Nat.lt_of_le_of_lt (Nat.div_le_self _ _) hu
      have hp : u / ps_fac k % (k + 1) < k + 1 := Nat.mod_lt _ (by omega)
      refine br_f (by rw [hfc]; exact nI_ge (by omega) (by omega)) ?_
      refine nm_r (nI_1 k) ⟨nI_ne0 (by omega) (by omega), ?_⟩
      refine nm_r (pk_rem (by omega) (by omega) (by omega)) ⟨nI_ne0 (by omega) (by omega), ?_⟩
      refine nm_r (e' := nI (u / ps_fac (k + 1))) (by rw [pk_div (by omega) (by omega) (by omega), Nat.div_div_eq_div_mul]; rfl) ?_
      refine ⟨vp_in_nI (by omega) (by omega), vp_in_nI (by omega) (by omega), nm_e ⟨vp_in_nI (by omega) (by omega), nm_e (nm_r (nI_1 k) (ih (k + 1) _ (by omega) ?_))⟩⟩
      intro j hj
      rw [nI_clamp (by omega), nI_clamp (by omega), ps_ro]
      dsimp only
      by_cases e : j = u / ps_fac k % (k + 1)
      · rw [if_pos e, e, pk_us]
      · rw [if_neg e, pk_un e]
        by_cases f : j = k
        · rw [if_pos f, f, pk_us]
          exact ho _ (by omega)
        · rw [if_neg f, pk_un f]
          exact ho j (by omega)
  have := key (ps_n c) 0 aO (by omega) (fun j hj => absurd hj (Nat.not_lt_zero j))
  rw [show u / ps_fac 0 = u from Nat.div_one u] at this
  exact ⟨_, this⟩
theorem px_clear {c : ps_Cf} (hg : ps_gd c) (fc fl ft : Int32) (aD aR aU aA aC aB aO aE aS aL : Nat → Int32) (hfc : fc = nI (ps_n c)) (post : SX → Prop) (h : ∀ aE' aS', (∀ j, j < ps_n c → aE' j = 0) → (∀ j, j < 150 → aS' j = 0) → post (fc, fl, ft, aD, aR, aU, aA, aC, aB, aO, aE', aS', aL)) : wpX_clearPlan post (fc, fl, ft, aD, aR, aU, aA, aC, aB, aO, aE, aS, aL) := by
  have hn := hg.1
  have k2 : ∀ aE, (∀ j, j < ps_n c → aE j = 0) → ∀ d i aS, i + d = 150 → (∀ j, j < i → aS j = 0) → wX_clearPlan_25 post fc fl ft (d + 1) (nI i) aD aR aU aA aC aB aO aE aS aL := by
    intro aE hE d
    induction d with
    | zero =>
      intro i aS hi hS
      have ei : i = 150 := by omega
      subst ei
      exact br_t (nI_le (a := 150) (b := 150) (by omega) (by omega)) (h aE aS hE hS)
    | succ d ih =>
      intro i aS hi hS
      refine br_f (nI_ge (b := 150) (a := i) (by omega) (by omega)) ⟨vp_in_nI (by omega) (by omega), nm_e (nm_r (nI_1 i) (ih (i + 1) _ (by omega) ?_))⟩
      intro j hj
      rw [nI_clamp (by omega)]
      by_cases e : j = i
      · rw [e, pk_us]
      · rw [pk_un e]; exact hS j (by omega)
  have k1 : ∀ d i aE, i + d = ps_n c → (∀ j, j < i → aE j = 0) → wX_clearPlan_2 post fc fl ft (d + 1) (nI i) aD aR aU aA aC aB aO aE aS aL := by
    intro d
    induction d with
    | zero =>
      intro i aE hi hE
      have ei : i = ps_n c := by omega
      subst ei
      exact br_t (by rw [hfc]; exact nI_le (by omega) (by omega)) ⟨151, k2 aE hE 150 0 aS (by omega) (fun j hj => absurd hj (Nat.not_lt_zero j))⟩
    | succ d ih =>
      intro i aE hi hE
      refine br_f (by rw [hfc]; exact nI_ge (by omega) (by omega)) ⟨vp_in_nI (by omega) (by omega), nm_e (nm_r (nI_1 i) (ih (i + 1) _ (by omega) ?_))⟩
      intro j hj
      rw [nI_clamp (by omega)]
      by_cases e : j = i
      · rw [e, pk_us]
      · rw [pk_un e]; exact hE j (by omega)
  exact ⟨_, k1 (ps_n c) 0 aE (by omega) (fun j hj => absurd hj (Nat.not_lt_zero j))⟩
theorem ps_rdy_E {c : ps_Cf} {E : Nat → Nat} {t M : Nat} (hR : ps_R c t ≤ M) : ∀ k, (∀ b, b < k → E b ≤ M) → ps_rdy c E t k ≤ M := by
  intro k
  induction k with
  | zero => intro _; exact hR
  | succ k ih =>
    intro hE
    rw [ps_rdy]
    split
    · exact hE k (by omega)
    · exact ih (fun b hb => hE b (by omega))
theorem px_ready {c : ps_Cf} (hg : ps_gd c) (fc fl ft : Int32) (aD aR aU aA aC aB aO aE aS aL : Nat → Int32) (hX : ps_Xc c fc aD aR aU aA aC aB) {t : Nat} (ht : t < ps_n c) {E : Nat → Nat} (hE : ∀ b, b < t → aE b = nI (E b) ∧ E b ≤ 75) (post : Int32 → Prop)
    (h1 : (∀ b, b < t → ps_B c b t = true → E b ≠ 0) → post (nI (ps_rdy c E t t))) (h0 : ¬ (∀ b, b < t → ps_B c b t = true → E b ≠ 0) → post (-1)) : wpX_readyTime post (fc, fl, ft, aD, aR, aU, aA, aC, aB, aO, aE, aS, aL) (nI t) := by
  have hn := hg.1
  have hr := (hg.2.1 t ht).2.2.1
  have key : ∀ d b, b + d = t → (∀ a, a < b → ps_B c a t = true → E a ≠ 0) → wX_readyTime_9 post (nI t) fc fl ft aD aR aU aA aC aB aO aE aS aL (d + 1) (nI (ps_rdy c E t b)) (nI b) := by
    intro d
    induction d with
    | zero =>
      intro b hb ha
      have eb : b = t := by omega
      subst eb
      exact br_t (nI_le (by omega) (by omega)) (h1 ha)
    | succ d ih =>
      intro b hb ha
      have hbE := hE b (by omega)
      have hB := hX.2.2.2.2 b t (by omega) (by omega)
      have hrb := ps_rdy_E (c := c) (E := E) (t := t) (M := 75) (by omega) b (fun a ha => (hE a (by omega)).2)
      refine br_f (nI_ge (by omega) (by omega)) ⟨pk_in (b * 6 + t) 36 (by omega) (ps_ix b 6 t), ?_⟩
      rw [ps_ix6, nI_clamp (n := b * 6 + t) (by omega), hB, nI_clamp (n := b) (by omega), hbE.1]
      by_cases z : ps_B c b t = true
      · rw [if_pos z]
        refine br_f (by decide) ⟨vp_in_nI (by omega) (by omega), ?_⟩
        refine pk_eq (E b) 0 (fun q => h0 (fun f => f b (by omega) z q)) (fun q => ⟨vp_in_nI (by omega) (by omega), ?_⟩) rfl rfl (by omega) (by omega)
        have ih' := ih (b + 1) (by omega) (fun a ha2 hBa => by
          by_cases e : a = b
          · subst e; exact q
          · exact ha a (by omega) hBa)
        refine pk_le (E b) (ps_rdy c E t b) (fun y => nm_r (nI_1 b) ?_) (fun y => ⟨vp_in_nI (by omega) (by omega), nm_e (nm_r (nI_1 b) ?_)⟩) rfl rfl (by omega) (by omega)
        · rw [ps_rdy, if_neg (by omega)] at ih'
          exact ih'
        · rw [ps_rdy, if_pos ⟨z, y⟩] at ih'
          exact ih'
      · rw [if_neg z]
        have ih' := ih (b + 1) (by omega) (fun a ha2 hBa => by
          by_cases e : a = b
          · subst e; exact absurd hBa z
          · exact ha a (by omega) hBa)
        rw [ps_rdy, if_neg (fun q => z q.1)] at ih'
        exact br_t rfl (nm_r (nI_1 b) ih')
  refine ⟨vp_in_nI (by omega) (by omega), nm_r (e' := nI (ps_R c t)) (by rw [nI_clamp (by omega)]; exact (hX.2.1 t ht).2.1) ⟨_, key t 0 (by omega) (fun a ha => absurd ha (Nat.not_lt_zero a))⟩⟩
