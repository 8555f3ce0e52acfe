/-! sums over the tasks -/
def ps_sum (f : Nat → Nat) : Nat → Nat
  | 0 => 0
  | n + 1 => ps_sum f n + f n
theorem ps_sum_congr {f g : Nat → Nat} {n : Nat} (h : ∀ t, t < n → f t = g t) : ps_sum f n = ps_sum g n := by
  induction n with
  | zero => rfl
  | succ n ih => rw [ps_sum, ps_sum, ih (fun t ht => h t (by omega)), h n (by omega)]
theorem ps_sum_le {f g : Nat → Nat} {n : Nat} (h : ∀ t, t < n → f t ≤ g t) : ps_sum f n ≤ ps_sum g n := by
  induction n with
  | zero => exact Nat.le_refl _
  | succ n ih =>
    have h1 := ih (fun t ht => h t (by omega))
    have h2 := h n (by omega)
    rw [ps_sum, ps_sum]
    omega
theorem ps_sum_add {f g : Nat → Nat} {n k d : Nat} (hk : k < n) (h : ∀ t, t < n → t ≠ k → g t = f t) (hd : g k = f k + d) : ps_sum g n = ps_sum f n + d := by
  induction n with
  | zero => omega
  | succ n ih =>
    by_cases e : k = n
    · subst e
      rw [ps_sum, ps_sum, ps_sum_congr (f := g) (g := f) (fun t ht => h t (by omega) (by omega)), hd]
      omega
    · rw [ps_sum, ps_sum, ih (by omega) (fun t ht => h t (by omega)), h n (by omega) (fun z => e z.symm)]
      omega
theorem ps_sum_zero {f : Nat → Nat} {n : Nat} (h : ∀ t, t < n → f t = 0) : ps_sum f n = 0 := by
  induction n with
  | zero => rfl
  | succ n ih => rw [ps_sum, ih (fun t ht => h t (by omega)), h n (by omega)]
theorem ps_sum_mem {f : Nat → Nat} {k n : Nat} (hk : k < n) : f k ≤ ps_sum f n := by
  induction n with
  | zero => omega
  | succ n ih =>
    rw [ps_sum]
    by_cases e : k = n
    · subst e; omega
    · have := ih (by omega)
      omega
theorem ps_sum_const {f : Nat → Nat} {n d : Nat} (h : ∀ t, t < n → f t ≤ d) : ps_sum f n ≤ n * d := by
  induction n with
  | zero => rw [ps_sum]; omega
  | succ n ih =>
    have h1 := ih (fun t ht => h t (by omega))
    have h2 := h n (by omega)
    rw [ps_sum, Nat.succ_mul]
    omega
theorem ps_least {P : Nat → Prop} (a d : Nat) (h : P (a + d)) : ∃ s, a ≤ s ∧ s ≤ a + d ∧ P s ∧ ∀ q, a ≤ q → q < s → ¬ P q := by
  induction d generalizing a with
  | zero => exact ⟨a, by omega, by omega, h, fun q h1 h2 => by omega⟩
  | succ d ih =>
    by_cases z : P a
    · exact ⟨a, by omega, by omega, z, fun q h1 h2 => by omega⟩
    · obtain ⟨s, h1, h2, h3, h4⟩ := ih (a + 1) (by rw [show a + 1 + d = a + (d + 1) from by omega]; exact h)
      refine ⟨s, by omega, by omega, h3, fun q q1 q2 => ?_⟩
      by_cases e : q = a
      · rw [e]; exact z
      · exact h4 q (by omega) q2
/-! the numbers of a project: count, durations, releases, dues, amounts, capacities, precedences, limited -/
abbrev ps_Cf : Type := Nat × (Nat → Nat) × (Nat → Nat) × (Nat → Nat) × (Nat → Nat → Nat) × (Nat → Nat) × (Nat → Nat → Bool) × Bool
def ps_n (c : ps_Cf) : Nat := c.1
def ps_D (c : ps_Cf) : Nat → Nat := c.2.1
def ps_R (c : ps_Cf) : Nat → Nat := c.2.2.1
def ps_U (c : ps_Cf) : Nat → Nat := c.2.2.2.1
def ps_A (c : ps_Cf) : Nat → Nat → Nat := c.2.2.2.2.1
def ps_C (c : ps_Cf) : Nat → Nat := c.2.2.2.2.2.1
def ps_B (c : ps_Cf) : Nat → Nat → Bool := c.2.2.2.2.2.2.1
def ps_l (c : ps_Cf) : Bool := c.2.2.2.2.2.2.2
def ps_gd (c : ps_Cf) : Prop := ps_n c ≤ 6 ∧ (∀ t, t < ps_n c → 1 ≤ ps_D c t ∧ ps_D c t ≤ 10 ∧ ps_R c t ≤ 20 ∧ ps_U c t ≤ 99 ∧ ps_A c 0 t ≤ 4 ∧ ps_A c 1 t ≤ 4) ∧ ps_sum (ps_D c) (ps_n c) ≤ 55 ∧ ps_C c 0 ≤ 8 ∧ ps_C c 1 ≤ 8
def ps_fe (c : ps_Cf) : Prop := 0 < ps_n c ∧ ∀ t, t < ps_n c → ps_A c 0 t ≤ ps_C c 0 ∧ ps_A c 1 t ≤ ps_C c 1
/-! placing one task: E is the ends so far, 0 where a task isn't placed -/
def ps_use (c : ps_Cf) (E : Nat → Nat) (m τ : Nat) : Nat := ps_sum (fun t => if E t ≤ τ + ps_D c t ∧ τ < E t then ps_A c m t else 0) (ps_n c)
def ps_fit (c : ps_Cf) (E : Nat → Nat) (t s : Nat) : Prop := ps_l c = true → ∀ τ, s ≤ τ → τ < s + ps_D c t → ps_use c E 0 τ + ps_A c 0 t ≤ ps_C c 0 ∧ ps_use c E 1 τ + ps_A c 1 t ≤ ps_C c 1
def ps_rdy (c : ps_Cf) (E : Nat → Nat) (t : Nat) : Nat → Nat
  | 0 => ps_R c t
  | b + 1 => if ps_B c b t = true ∧ ps_rdy c E t b < E b then E b else ps_rdy c E t b
def ps_First (c : ps_Cf) (E : Nat → Nat) (t s : Nat) : Prop := ps_rdy c E t t ≤ s ∧ ps_fit c E t s ∧ ∀ q, ps_rdy c E t t ≤ q → q < s → ¬ ps_fit c E t q
noncomputable def ps_est (c : ps_Cf) (E : Nat → Nat) (t : Nat) : Nat := Classical.epsilon (fun s => ps_First c E t s)
theorem ps_First_u {c : ps_Cf} {E : Nat → Nat} {t s q : Nat} (h : ps_First c E t s) (g : ps_First c E t q) : s = q := by
  obtain ⟨h1, h2, h3⟩ := h
  obtain ⟨g1, g2, g3⟩ := g
  by_cases a : s < q
  · exact absurd h2 (g3 s h1 a)
  · by_cases b : q < s
    · exact absurd g2 (h3 q g1 b)
    · omega
theorem ps_est_eq {c : ps_Cf} {E : Nat → Nat} {t s : Nat} (h : ps_First c E t s) : ps_est c E t = s :=
  ps_First_u (Classical.epsilon_spec (p := fun s => ps_First c E t s) ⟨s, h⟩) h
noncomputable def ps_pl (c : ps_Cf) (E : Nat → Nat) (t : Nat) : Nat → Nat := fun j => if j = t then ps_est c E t + ps_D c t else E j
noncomputable def ps_run (c : ps_Cf) : List Nat → Nat → Nat
  | [] => fun _ => 0
  | t :: l => ps_pl c (ps_run c l) t
def ps_ok (c : ps_Cf) : List Nat → Prop
  | [] => True
  | t :: l => ps_ok c l ∧ t < ps_n c ∧ t ∉ l ∧ ∀ b, b < t → ps_B c b t = true → b ∈ l
theorem ps_run_s {c : ps_Cf} {t : Nat} {l : List Nat} : ps_run c (t :: l) t = ps_est c (ps_run c l) t + ps_D c t := if_pos rfl
theorem ps_run_n {c : ps_Cf} {t j : Nat} {l : List Nat} (h : j ≠ t) : ps_run c (t :: l) j = ps_run c l j := if_neg h
def ps_pd (c : ps_Cf) (E : Nat → Nat) : Nat := ps_sum (fun t => if E t = 0 then 0 else ps_D c t) (ps_n c)
theorem ps_pd_le (c : ps_Cf) (E : Nat → Nat) : ps_pd c E ≤ ps_sum (ps_D c) (ps_n c) := by
  apply ps_sum_le
  intro t _
  split <;> omega
theorem ps_rdy_le {c : ps_Cf} {E : Nat → Nat} {t M : Nat} (hR : ps_R c t ≤ M) (hE : ∀ b, E b ≤ M) : ∀ k, ps_rdy c E t k ≤ M := by
  intro k
  induction k with
  | zero => exact hR
  | succ k ih =>
    rw [ps_rdy]
    split
    · exact hE k
    · exact ih
theorem ps_rdy_congr {c : ps_Cf} {E F : Nat → Nat} {t : Nat} : ∀ k, (∀ b, b < k → ps_B c b t = true → E b = F b) → ps_rdy c E t k = ps_rdy c F t k := by
  intro k
  induction k with
  | zero => intro _; rfl
  | succ k ih =>
    intro h
    rw [ps_rdy, ps_rdy, ih (fun b hb => h b (by omega))]
    by_cases z : ps_B c k t = true
    · rw [h k (by omega) z]
    · rw [if_neg (fun q => z q.1), if_neg (fun q => z q.1)]
theorem ps_fitM {c : ps_Cf} {E : Nat → Nat} {t M : Nat} (hf : ps_fe c) (ht : t < ps_n c) (hE : ∀ b, E b ≤ M) : ps_fit c E t M := by
  intro _ τ h1 _
  have hu : ∀ m, ps_use c E m τ = 0 := by
    intro m
    apply ps_sum_zero
    intro b _
    have := hE b
    rw [if_neg (by omega)]
  rw [hu 0, hu 1]
  have := hf.2 t ht
  omega
theorem ps_first0 {c : ps_Cf} {E : Nat → Nat} {t M : Nat} (hf : ps_fe c) (ht : t < ps_n c) (hR : ps_R c t ≤ M) (hE : ∀ b, E b ≤ M) : ∃ s, ps_First c E t s ∧ s ≤ M := by
  have h1 := ps_rdy_le hR hE t
  obtain ⟨s, a1, a2, a3, a4⟩ := ps_least (P := ps_fit c E t) (ps_rdy c E t t) (M - ps_rdy c E t t) (by rw [show ps_rdy c E t t + (M - ps_rdy c E t t) = M from by omega]; exact ps_fitM hf ht hE)
  exact ⟨s, ⟨a1, a3, a4⟩, by omega⟩
theorem ps_inv {c : ps_Cf} (hg : ps_gd c) (hf : ps_fe c) : ∀ l, ps_ok c l → (∀ t, t ∈ l ↔ ps_run c l t ≠ 0) ∧ (∀ t, t ∈ l → ps_D c t ≤ ps_run c l t ∧ t < ps_n c) ∧ (∀ t, ps_run c l t ≤ 20 + ps_pd c (ps_run c l)) := by
  intro l
  induction l with
  | nil =>
    intro _
    refine ⟨fun t => ⟨fun h => (nomatch h), fun h => absurd rfl h⟩, fun t h => (nomatch h), fun t => ?_⟩
    show 0 ≤ _
    omega
  | cons t l ih =>
    intro h
    obtain ⟨h1, h2, h3, h4⟩ := h
    obtain ⟨i1, i2, i3⟩ := ih h1
    have hD := (hg.2.1 t h2)
    have e0 : ps_run c l t = 0 := by
      by_cases z : ps_run c l t = 0
      · exact z
      · exact absurd ((i1 t).mpr z) h3
    obtain ⟨s, hs, hm⟩ := ps_first0 (c := c) (E := ps_run c l) (t := t) hf h2 (M := 20 + ps_pd c (ps_run c l)) (by omega) i3
    have es : ps_run c (t :: l) t = s + ps_D c t := by rw [ps_run_s, ps_est_eq hs]
    have ep : ps_pd c (ps_run c (t :: l)) = ps_pd c (ps_run c l) + ps_D c t := by
      apply ps_sum_add h2
      · intro j _ hj
        rw [ps_run_n hj]
      · skip
        rw [if_pos e0, if_neg (by rw [es]; omega)]
        omega
    refine ⟨fun j => ?_, fun j hj => ?_, fun j => ?_⟩
    · by_cases e : j = t
      · subst e
        exact ⟨fun _ => by rw [es]; omega, fun _ => List.mem_cons_self⟩
      · rw [ps_run_n e, ← i1 j, List.mem_cons]
        exact ⟨fun q => q.resolve_left e, fun q => Or.inr q⟩
    · by_cases e : j = t
      · subst e
        rw [es]
        exact ⟨by omega, h2⟩
      · rw [ps_run_n e]
        exact i2 j ((List.mem_cons.mp hj).resolve_left e)
    · by_cases e : j = t
      · subst e
        rw [es, ep]
        omega
      · rw [ps_run_n e, ep]
        have := i3 j
        omega
theorem ps_first {c : ps_Cf} (hg : ps_gd c) (hf : ps_fe c) {t : Nat} {l : List Nat} (h : ps_ok c (t :: l)) : ps_First c (ps_run c l) t (ps_est c (ps_run c l) t) ∧ ps_est c (ps_run c l) t + ps_D c t ≤ 75 := by
  obtain ⟨h1, h2, h3, h4⟩ := h
  obtain ⟨i1, i2, i3⟩ := ps_inv hg hf l h1
  have hD := (hg.2.1 t h2)
  obtain ⟨s, hs, hm⟩ := ps_first0 (c := c) (E := ps_run c l) (t := t) hf h2 (M := 20 + ps_pd c (ps_run c l)) (by omega) i3
  have j3 := (ps_inv hg hf (t :: l) ⟨h1, h2, h3, h4⟩).2.2 t
  have hp := ps_pd_le c (ps_run c (t :: l))
  have h55 := hg.2.2.1
  rw [ps_run_s] at j3
  rw [ps_est_eq hs] at j3 ⊢
  exact ⟨hs, by omega⟩
theorem ps_run_le {c : ps_Cf} (hg : ps_gd c) (hf : ps_fe c) {l : List Nat} (h : ps_ok c l) (t : Nat) : ps_run c l t ≤ 75 := by
  have := (ps_inv hg hf l h).2.2 t
  have hp := ps_pd_le c (ps_run c l)
  have h55 := hg.2.2.1
  omega
