/-! counting below a bound -/
def sq_cn (p : Nat → Bool) : Nat → Nat
  | 0 => 0
  | n + 1 => sq_cn p n + (if p n = true then 1 else 0)
theorem sq_cn_s (p : Nat → Bool) (n : Nat) : sq_cn p (n + 1) = sq_cn p n + (if p n = true then 1 else 0) := rfl
theorem sq_cn_t {p : Nat → Bool} {n : Nat} (h : p n = true) : sq_cn p (n + 1) = sq_cn p n + 1 := by rw [sq_cn_s, if_pos h]
theorem sq_cn_f {p : Nat → Bool} {n : Nat} (h : p n = false) : sq_cn p (n + 1) = sq_cn p n := by rw [sq_cn_s, if_neg (by rw [h]; decide)]; rfl
theorem sq_cn_le (p : Nat → Bool) : ∀ n, sq_cn p n ≤ n := by
  intro n
  induction n with
  | zero => exact Nat.le_refl 0
  | succ n ih => rw [sq_cn_s]; split <;> omega
theorem sq_cn_mono (p : Nat → Bool) {a : Nat} : ∀ {b : Nat}, a ≤ b → sq_cn p a ≤ sq_cn p b := by
  intro b
  induction b with
  | zero =>
    intro h
    have e : a = 0 := by omega
    subst e
    exact Nat.le_refl _
  | succ b ih =>
    intro h
    by_cases hb : a ≤ b
    · have := ih hb
      rw [sq_cn_s]
      omega
    · have e : a = b + 1 := by omega
      subst e
      exact Nat.le_refl _
theorem sq_cn_sub {p q : Nat → Bool} : ∀ {n : Nat}, (∀ i, i < n → p i = true → q i = true) → sq_cn p n ≤ sq_cn q n := by
  intro n
  induction n with
  | zero => intro _; exact Nat.le_refl _
  | succ n ih =>
    intro h
    have h1 := ih (fun i hi => h i (by omega))
    have h2 := h n (by omega)
    rw [sq_cn_s, sq_cn_s]
    by_cases hp : p n = true
    · rw [if_pos hp, if_pos (h2 hp)]; omega
    · rw [if_neg hp]; split <;> omega
theorem sq_cn_lt {p q : Nat → Bool} {k : Nat} (hq : q k = true) (hp : p k = false) : ∀ {n : Nat}, (∀ i, i < n → p i = true → q i = true) → k < n → sq_cn p n < sq_cn q n := by
  intro n
  induction n with
  | zero => intro _ h; omega
  | succ n ih =>
    intro h hk
    by_cases e : k = n
    · subst e
      have h1 := sq_cn_sub (p := p) (q := q) (n := k) (fun i hi => h i (by omega))
      rw [sq_cn_f hp, sq_cn_t hq]
      omega
    · have h1 := ih (fun i hi => h i (by omega)) (by omega)
      have h2 := h n (by omega)
      rw [sq_cn_s, sq_cn_s]
      by_cases hp : p n = true
      · rw [if_pos hp, if_pos (h2 hp)]; omega
      · rw [if_neg hp]; split <;> omega
theorem sq_cn_ext {p q : Nat → Bool} {n : Nat} (h : ∀ i, i < n → p i = q i) : sq_cn p n = sq_cn q n :=
  Nat.le_antisymm (sq_cn_sub (fun i hi hp => by rw [← h i hi]; exact hp)) (sq_cn_sub (fun i hi hp => by rw [h i hi]; exact hp))
theorem sq_cn_full {p : Nat → Bool} : ∀ {n : Nat}, sq_cn p n = n → ∀ i, i < n → p i = true := by
  intro n
  induction n with
  | zero => intro _ i hi; omega
  | succ n ih =>
    intro h i hi
    have h1 := sq_cn_le p n
    by_cases hp : p n = true
    · rw [sq_cn_t hp] at h
      by_cases e : i = n
      · rw [e]; exact hp
      · exact ih (by omega) i (by omega)
    · have hp' : p n = false := by cases hh : p n <;> simp_all
      rw [sq_cn_f hp'] at h
      omega
theorem sq_cn_at {p : Nat → Bool} : ∀ {n r : Nat}, r < sq_cn p n → ∃ i, i < n ∧ p i = true ∧ sq_cn p i = r := by
  intro n
  induction n with
  | zero => intro r h; exact absurd h (Nat.not_lt_zero _)
  | succ n ih =>
    intro r h
    by_cases h1 : r < sq_cn p n
    · obtain ⟨i, hi, h2, h3⟩ := ih h1
      exact ⟨i, by omega, h2, h3⟩
    · by_cases hp : p n = true
      · rw [sq_cn_t hp] at h
        exact ⟨n, by omega, hp, by omega⟩
      · rw [sq_cn_s, if_neg hp] at h
        omega
theorem sq_cn_lo {p : Nat → Bool} {i j : Nat} (hi : p i = true) (h : i < j) : sq_cn p i < sq_cn p j := by
  have h1 := sq_cn_mono p (a := i + 1) (b := j) h
  rw [sq_cn_t hi] at h1
  omega
theorem sq_cn_inj {p : Nat → Bool} {i j : Nat} (hi : p i = true) (hj : p j = true) (h : sq_cn p i = sq_cn p j) : i = j := by
  rcases Nat.lt_trichotomy i j with a | a | a
  · have := sq_cn_lo hi a; omega
  · exact a
  · have := sq_cn_lo hj a; omega
theorem sq_cn_neg (p : Nat → Bool) : ∀ n, sq_cn (fun i => !p i) n + sq_cn p n = n := by
  intro n
  induction n with
  | zero => rfl
  | succ n ih =>
    rw [sq_cn_s, sq_cn_s]
    cases h : p n
    · simp; omega
    · simp; omega
theorem sq_cn_ins {p q : Nat → Bool} {k : Nat} (hk : p k = false) (hq : ∀ i, q i = (p i || decide (i = k))) : ∀ {n : Nat}, k < n → sq_cn q n = sq_cn p n + 1 := by
  intro n
  induction n with
  | zero => intro h; omega
  | succ n ih =>
    intro h
    by_cases e : k = n
    · subst e
      have h1 : sq_cn q k = sq_cn p k := sq_cn_ext (fun i hi => by rw [hq, decide_eq_false (by omega), Bool.or_false])
      have h2 : q k = true := by rw [hq]; simp
      rw [sq_cn_t h2, sq_cn_f hk, h1]
    · have h1 := ih (by omega)
      have h2 : q n = p n := by rw [hq, decide_eq_false (by omega), Bool.or_false]
      rw [sq_cn_s, sq_cn_s, h2, h1]
      omega
/-! the set of the first t of a sequence -/
def sq_dn (q : Nat → Nat) : Nat → Nat → Bool
  | 0 => fun _ => false
  | t + 1 => fun i => sq_dn q t i || decide (i = q t)
theorem sq_dn_s (q : Nat → Nat) (t i : Nat) : sq_dn q (t + 1) i = (sq_dn q t i || decide (i = q t)) := rfl
theorem sq_dn_iff (q : Nat → Nat) : ∀ (t i : Nat), sq_dn q t i = true ↔ ∃ s, s < t ∧ q s = i := by
  intro t
  induction t with
  | zero => intro i; exact ⟨fun h => by simp [sq_dn] at h, fun ⟨s, h, _⟩ => by omega⟩
  | succ t ih =>
    intro i
    rw [sq_dn_s, Bool.or_eq_true, ih, decide_eq_true_eq]
    constructor
    · rintro (⟨s, h, e⟩ | e)
      · exact ⟨s, by omega, e⟩
      · exact ⟨t, by omega, e.symm⟩
    · rintro ⟨s, h, e⟩
      by_cases hs : s = t
      · right; rw [← e, hs]
      · left; exact ⟨s, by omega, e⟩
theorem sq_dn_ext {q q' : Nat → Nat} : ∀ {t : Nat}, (∀ s, s < t → q s = q' s) → sq_dn q t = sq_dn q' t := by
  intro t
  induction t with
  | zero => intro _; rfl
  | succ t ih =>
    intro h
    funext i
    rw [sq_dn_s, sq_dn_s, ih (fun s hs => h s (by omega)), h t (by omega)]
/-- q runs through 0 .. N-1 -/
def sq_pm (N : Nat) (q : Nat → Nat) : Prop := ∀ t, t < N → q t < N ∧ sq_dn q t (q t) = false
theorem sq_pm_cn {N : Nat} {q : Nat → Nat} (h : sq_pm N q) : ∀ t, t ≤ N → sq_cn (sq_dn q t) N = t := by
  intro t
  induction t with
  | zero =>
    intro _
    have : ∀ n, sq_cn (sq_dn q 0) n = 0 := by
      intro n
      induction n with
      | zero => rfl
      | succ n ih => rw [sq_cn_f rfl, ih]
    exact this N
  | succ t ih =>
    intro ht
    have h1 := h t (by omega)
    rw [sq_cn_ins (p := sq_dn q t) (k := q t) h1.2 (fun i => sq_dn_s q t i) h1.1, ih (by omega)]
theorem sq_pm_sur {N : Nat} {q : Nat → Nat} (h : sq_pm N q) : ∀ i, i < N → ∃ t, t < N ∧ q t = i := by
  intro i hi
  have h1 := sq_cn_full (sq_pm_cn h N (Nat.le_refl _)) i hi
  exact (sq_dn_iff q N i).mp h1
theorem sq_pm_ne {N : Nat} {q : Nat → Nat} (h : sq_pm N q) {s t : Nat} (hst : s < t) (ht : t < N) : q s ≠ q t := by
  intro e
  have h1 := (h t ht).2
  have h2 := (sq_dn_iff q t (q t)).mpr ⟨s, hst, e⟩
  rw [h1] at h2
  exact absurd h2 (by decide)
theorem sq_pm_of {N : Nat} {q : Nat → Nat} (h1 : ∀ t, t < N → q t < N) (h2 : ∀ s t, s < t → t < N → q s ≠ q t) : sq_pm N q := by
  intro t ht
  refine ⟨h1 t ht, ?_⟩
  cases hh : sq_dn q t (q t)
  · rfl
  · obtain ⟨s, hs, e⟩ := (sq_dn_iff q t (q t)).mp hh
    exact absurd e (h2 s t hs ht)
/-- the inverse of a run through 0 .. N-1 -/
theorem sq_pm_inv {N : Nat} {q : Nat → Nat} (h : sq_pm N q) : ∃ p : Nat → Nat, sq_pm N p ∧ (∀ i, i < N → q (p i) = i) ∧ (∀ t, t < N → p (q t) = t) := by
  have hs : ∀ i, ∃ t, i < N → (t < N ∧ q t = i) := by
    intro i
    by_cases hi : i < N
    · obtain ⟨t, a, b⟩ := sq_pm_sur h i hi
      exact ⟨t, fun _ => ⟨a, b⟩⟩
    · exact ⟨0, fun z => absurd z hi⟩
  have hp : ∀ i, i < N → (Classical.choose (hs i) < N ∧ q (Classical.choose (hs i)) = i) := fun i => Classical.choose_spec (hs i)
  have hq : ∀ t, t < N → Classical.choose (hs (q t)) = t := by
    intro t ht
    have h1 := hp (q t) (h t ht).1
    rcases Nat.lt_trichotomy (Classical.choose (hs (q t))) t with a | a | a
    · exact absurd h1.2 (sq_pm_ne h a ht)
    · exact a
    · exact absurd h1.2.symm (sq_pm_ne h a h1.1)
  refine ⟨fun i => Classical.choose (hs i), sq_pm_of (fun i hi => (hp i hi).1) ?_, fun i hi => (hp i hi).2, hq⟩
  intro s t hst ht e
  have e1 := (hp s (by omega)).2
  have e2 := (hp t ht).2
  have e' : Classical.choose (hs s) = Classical.choose (hs t) := e
  rw [e'] at e1
  omega
/-! an order by its number -/
def sq_rs (N m : Nat) : Nat → Nat
  | 0 => m
  | t + 1 => sq_rs N m t / (N - t)
theorem sq_rs_s (N m t : Nat) : sq_rs N m (t + 1) = sq_rs N m t / (N - t) := rfl
theorem sq_rs_le (N m : Nat) : ∀ t, sq_rs N m t ≤ m := by
  intro t
  induction t with
  | zero => exact Nat.le_refl _
  | succ t ih => exact Nat.le_trans (Nat.div_le_self _ _) ih
def sq_ud (q : Nat → Nat) (t : Nat) : Nat → Bool := fun i => !sq_dn q t i
def sq_cd (N m : Nat) (q : Nat → Nat) : Prop := ∀ t, t < N → q t < N ∧ sq_dn q t (q t) = false ∧ sq_cn (sq_ud q t) (q t) = sq_rs N m t % (N - t)
theorem sq_cd_pm {N m : Nat} {q : Nat → Nat} (h : sq_cd N m q) : sq_pm N q := fun t ht => ⟨(h t ht).1, (h t ht).2.1⟩
theorem sq_ud_cn {N : Nat} {q : Nat → Nat} (h : sq_pm N q) {t : Nat} (ht : t ≤ N) : sq_cn (sq_ud q t) N = N - t := by
  have h1 := sq_cn_neg (sq_dn q t) N
  have h2 := sq_pm_cn h t ht
  show sq_cn (fun i => !sq_dn q t i) N = _
  omega
theorem sq_pm_part {N T : Nat} {q : Nat → Nat} (hT : T ≤ N) (h : ∀ t, t < T → q t < N ∧ sq_dn q t (q t) = false) : ∀ t, t ≤ T → sq_cn (sq_dn q t) N = t := by
  intro t
  induction t with
  | zero =>
    intro _
    have : ∀ n, sq_cn (sq_dn q 0) n = 0 := by
      intro n
      induction n with
      | zero => rfl
      | succ n ih => rw [sq_cn_f rfl, ih]
    exact this N
  | succ t ih =>
    intro ht
    have h1 := h t (by omega)
    rw [sq_cn_ins (p := sq_dn q t) (k := q t) h1.2 (fun i => sq_dn_s q t i) h1.1, ih (by omega)]
theorem sq_cd_ex (N m : Nat) : ∃ q, sq_cd N m q := by
  have key : ∀ T, T ≤ N → ∃ q : Nat → Nat, ∀ t, t < T → q t < N ∧ sq_dn q t (q t) = false ∧ sq_cn (sq_ud q t) (q t) = sq_rs N m t % (N - t) := by
    intro T
    induction T with
    | zero => intro _; exact ⟨fun _ => 0, fun t ht => by omega⟩
    | succ T ih =>
      intro hT
      obtain ⟨q, hq⟩ := ih (by omega)
      have hc := sq_pm_part (N := N) (T := T) (q := q) (by omega) (fun t ht => ⟨(hq t ht).1, (hq t ht).2.1⟩) T (Nat.le_refl _)
      have hn := sq_cn_neg (sq_dn q T) N
      have hr : sq_rs N m T % (N - T) < sq_cn (sq_ud q T) N := by
        have : sq_cn (sq_ud q T) N = N - T := by
          show sq_cn (fun i => !sq_dn q T i) N = _
          omega
        rw [this]
        exact Nat.mod_lt _ (by omega)
      obtain ⟨i, hi, hu, he⟩ := sq_cn_at hr
      refine ⟨fun t => if t = T then i else q t, ?_⟩
      have ext : ∀ t, t ≤ T → sq_dn (fun t => if t = T then i else q t) t = sq_dn q t := by
        intro t ht
        exact sq_dn_ext (fun s hs => if_neg (by omega))
      have exu : ∀ t, t ≤ T → sq_ud (fun t => if t = T then i else q t) t = sq_ud q t := by
        intro t ht
        funext j
        show (!(sq_dn _ t j)) = (!(sq_dn q t j))
        rw [ext t ht]
      intro t ht
      rw [ext t (by omega), exu t (by omega)]
      dsimp only
      by_cases e : t = T
      · subst e
        rw [if_pos rfl]
        refine ⟨hi, ?_, he⟩
        have hu' : (!sq_dn q t i) = true := hu
        simpa using hu'
      · rw [if_neg e]
        exact hq t (by omega)
  exact key N (Nat.le_refl _)
def sq_fac : Nat → Nat
  | 0 => 1
  | n + 1 => (n + 1) * sq_fac n
theorem sq_rad : ∀ (s : Nat) (c : Nat → Nat), (∀ j, j < s → c j < s - j) → ∃ m, m < sq_fac s ∧ ∀ j, j < s → sq_rs s m j % (s - j) = c j := by
  intro s
  induction s with
  | zero => intro c _; exact ⟨0, by decide, fun j hj => by omega⟩
  | succ s ih =>
    intro c hc
    obtain ⟨m, hm, h⟩ := ih (fun j => c (j + 1)) (fun j hj => by have := hc (j + 1) (by omega); omega)
    have h0 := hc 0 (by omega)
    have hr : ∀ j, sq_rs (s + 1) (c 0 + (s + 1) * m) (j + 1) = sq_rs s m j := by
      intro j
      induction j with
      | zero =>
        show (c 0 + (s + 1) * m) / (s + 1 - 0) = m
        rw [Nat.sub_zero, Nat.add_mul_div_left _ _ (by omega), Nat.div_eq_of_lt (by omega)]
        omega
      | succ j ihj =>
        rw [sq_rs_s, ihj, sq_rs_s]
        have : s + 1 - (j + 1) = s - j := by omega
        rw [this]
    refine ⟨c 0 + (s + 1) * m, ?_, ?_⟩
    · show _ < (s + 1) * sq_fac s
      have h1 : (s + 1) * (m + 1) ≤ (s + 1) * sq_fac s := Nat.mul_le_mul_left _ hm
      rw [Nat.mul_add] at h1
      omega
    · intro j hj
      cases j with
      | zero =>
        show (c 0 + (s + 1) * m) % (s + 1 - 0) = c 0
        rw [Nat.sub_zero, Nat.add_mul_mod_self_left, Nat.mod_eq_of_lt (by omega)]
      | succ j =>
        rw [hr]
        have : s + 1 - (j + 1) = s - j := by omega
        rw [this]
        exact h j (by omega)
theorem sq_cd_all {N : Nat} {q : Nat → Nat} (h : sq_pm N q) : ∃ m, m < sq_fac N ∧ sq_cd N m q := by
  obtain ⟨m, hm, hd⟩ := sq_rad N (fun t => sq_cn (sq_ud q t) (q t)) (by
    intro t ht
    have h1 := h t ht
    have h2 := sq_ud_cn h (t := t) (by omega)
    have h3 : sq_ud q t (q t) = true := by show (!sq_dn q t (q t)) = true; rw [h1.2]; rfl
    have h4 := sq_cn_lo h3 h1.1
    omega)
  exact ⟨m, hm, fun t ht => ⟨(h t ht).1, (h t ht).2, (hd t ht).symm⟩⟩
/-! digits to one base -/
theorem sq_bas (B : Nat) (hB : 0 < B) : ∀ (K : Nat) (c : Nat → Nat), (∀ j, j < K → c j < B) → ∃ m, m < B ^ K ∧ ∀ j, j < K → m / B ^ j % B = c j := by
  intro K
  induction K with
  | zero => intro c _; exact ⟨0, by simp, fun j hj => by omega⟩
  | succ K ih =>
    intro c hc
    obtain ⟨m, hm, h⟩ := ih (fun j => c (j + 1)) (fun j hj => hc (j + 1) (by omega))
    have h0 := hc 0 (by omega)
    refine ⟨c 0 + B * m, ?_, ?_⟩
    · have h1 : B * (m + 1) ≤ B * B ^ K := Nat.mul_le_mul_left _ hm
      rw [Nat.mul_add] at h1
      rw [Nat.pow_succ, Nat.mul_comm (B ^ K) B]
      omega
    · intro j hj
      cases j with
      | zero => rw [Nat.pow_zero, Nat.div_one, Nat.add_mul_mod_self_left, Nat.mod_eq_of_lt h0]
      | succ j =>
        rw [Nat.pow_succ, Nat.mul_comm (B ^ j) B, ← Nat.div_div_eq_div_mul, Nat.add_mul_div_left _ _ hB, Nat.div_eq_of_lt h0, Nat.zero_add]
        exact h j (by omega)
/-! ranks by a key -/
theorem sq_rank {N : Nat} {key : Nat → Nat} {p : Nat → Bool} (hinj : ∀ i j, i < N → j < N → p i = true → p j = true → key i = key j → i = j) :
    let r := fun i => sq_cn (fun j => p j && decide (key j < key i)) N
    (∀ i, i < N → p i = true → r i < sq_cn p N) ∧ (∀ i j, i < N → j < N → p i = true → p j = true → (r i < r j ↔ key i < key j)) := by
  intro r
  have mono : ∀ i j, i < N → p i = true → key i < key j → r i < r j := by
    intro i j hi hp hk
    refine sq_cn_lt (k := i) ?_ ?_ ?_ hi
    · show (p i && decide (key i < key j)) = true
      rw [hp, decide_eq_true hk]; rfl
    · show (p i && decide (key i < key i)) = false
      rw [decide_eq_false (by omega), Bool.and_false]
    · intro l _ h
      have h' : (p l && decide (key l < key i)) = true := h
      rw [Bool.and_eq_true, decide_eq_true_eq] at h'
      show (p l && decide (key l < key j)) = true
      rw [h'.1, decide_eq_true (by omega)]; rfl
  constructor
  · intro i hi hp
    refine sq_cn_lt (k := i) hp ?_ ?_ hi
    · show (p i && decide (key i < key i)) = false
      rw [decide_eq_false (by omega), Bool.and_false]
    · intro l _ h
      have h' : (p l && decide (key l < key i)) = true := h
      rw [Bool.and_eq_true] at h'
      exact h'.1
  · intro i j hi hj hpi hpj
    constructor
    · intro h
      rcases Nat.lt_trichotomy (key i) (key j) with a | a | a
      · exact a
      · have := hinj i j hi hj hpi hpj a
        subst this
        omega
      · have := mono j i hj hpj a
        omega
    · exact mono i j hi hpi
