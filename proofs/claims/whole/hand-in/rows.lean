section
theorem pk_us {f : Nat → Int32} {k : Nat} {x : Int32} : upd f k x k = x := if_pos rfl
theorem pk_un {f : Nat → Int32} {k j : Nat} {x : Int32} (h : j ≠ k) : upd f k x j = f j := if_neg h
theorem pk_sub {a b : Nat} (h : b ≤ a) : nI a - nI b = nI (a - b) := by
  obtain ⟨c, rfl⟩ : ∃ c, a = c + b := ⟨a - b, by omega⟩
  rw [← nI_add, Int32.add_sub_cancel, Nat.add_sub_cancel]
theorem pk_m1 (n : Nat) : nI (n + 1) + (-1) = nI n := by
  rw [← nI_1, Int32.add_assoc, show (1 : Int32) + (-1) = 0 from rfl, Int32.add_zero]
theorem pk_mul (a b : Nat) : nI a * nI b = nI (a * b) := (Int32.ofNat_mul a b).symm
theorem pk_div {a d : Nat} (ha : a < 2 ^ 31) (h0 : 0 < d) (hd : d < 2 ^ 31) : nI a / nI d = nI (a / d) := by
  apply Int32.toInt_inj.mp
  rw [lg_idiv_nonneg (by rw [nI_toInt ha]; omega) (by rw [nI_toInt hd]; omega), nI_toInt ha, nI_toInt hd, nI_toInt (Nat.lt_of_le_of_lt (Nat.div_le_self a d) ha)]
  first | rfl | exact (Int.natCast_ediv _ _).symm
theorem pk_rem {a d : Nat} (ha : a < 2 ^ 31) (h0 : 0 < d) (hd : d < 2 ^ 31) : nI a - nI a / nI d * nI d = nI (a % d) := by
  rw [pk_div ha h0 hd, pk_mul, pk_sub (Nat.div_mul_le_self a d)]
  exact congrArg nI (by have := Nat.div_add_mod' a d; omega)
theorem pk_ix (x : Int32) {n : Nat} (hn : n < 2 ^ 31) : x < 0 ∨ nI n ≤ x ∨ ∃ j : Nat, j < n ∧ x = nI j := by
  by_cases h : x < 0
  · exact Or.inl h
  · obtain ⟨j, hj, rfl⟩ := nI_of h
    by_cases h2 : j < n
    · exact Or.inr (Or.inr ⟨j, h2, rfl⟩)
    · exact Or.inr (Or.inl (nI_le (by omega) hj))
theorem pk_le {x y : Int32} {A B : Prop} (a b : Nat) (f : a ≤ b → A) (g : b < a → B) (hx : x = nI a := by rfl) (hy : y = nI b := by rfl) (ha : a < 2 ^ 31 := by omega) (hb : b < 2 ^ 31 := by omega) : (x ≤ y → A) ∧ (¬ x ≤ y → B) := by
  subst hx hy
  rw [nI_leI ha hb]
  exact ⟨f, fun z => g (by omega)⟩
theorem pk_lt {x y : Int32} {A B : Prop} (a b : Nat) (f : a < b → A) (g : b ≤ a → B) (hx : x = nI a := by rfl) (hy : y = nI b := by rfl) (ha : a < 2 ^ 31 := by omega) (hb : b < 2 ^ 31 := by omega) : (x < y → A) ∧ (¬ x < y → B) := by
  subst hx hy
  rw [nI_ltI ha hb]
  exact ⟨f, fun z => g (by omega)⟩
theorem pk_eq {x y : Int32} {A B : Prop} (a b : Nat) (f : a = b → A) (g : a ≠ b → B) (hx : x = nI a := by rfl) (hy : y = nI b := by rfl) (ha : a < 2 ^ 31 := by omega) (hb : b < 2 ^ 31 := by omega) : (x = y → A) ∧ (¬ x = y → B) := by
  subst hx hy
  rw [nI_eq ha hb]
  exact ⟨f, g⟩
theorem pk_in {x : Int32} (n N : Nat) (h : n < N) (hx : x = nI n := by rfl) (hN : N < 2 ^ 31 := by omega) : vp_in x N := by
  subst hx
  exact vp_in_nI h hN
theorem pk_cl {x : Int32} (n : Nat) (hx : x = nI n := by rfl) (h : n < 2 ^ 31 := by omega) : x.toNatClampNeg = n := by
  subst hx
  exact nI_clamp h
theorem pk_tn {n : Nat} (h : n < 2 ^ 32) : (nI n).toBitVec.toNat = n := Nat.mod_eq_of_lt h
theorem pk_and (x : Int32) {m : Int32} (k : Nat) (hm : m.toBitVec.toNat = 2 ^ k - 1) : x &&& m = nI (x.toBitVec.toNat % 2 ^ k) := by
  apply Int32.toBitVec_inj.mp
  apply BitVec.eq_of_toNat_eq
  rw [Int32.toBitVec_and, BitVec.toNat_and, hm, Nat.and_two_pow_sub_one_eq_mod]
  show _ = (BitVec.ofNat 32 _).toNat
  rw [BitVec.toNat_ofNat]
  exact (Nat.mod_eq_of_lt (Nat.lt_of_le_of_lt (Nat.mod_le _ _) x.toBitVec.isLt)).symm
theorem pk_andN {n : Nat} (h : n < 2 ^ 32) {m : Int32} (k : Nat) (hm : m.toBitVec.toNat = 2 ^ k - 1) : nI n &&& m = nI (n % 2 ^ k) := by
  rw [pk_and _ k hm, pk_tn h]
theorem pk_shl (a s : Int32) (k : Nat) (hs : (s.toBitVec.smod 32).toNat = k) : (a <<< s).toBitVec.toNat = a.toBitVec.toNat * 2 ^ k % 2 ^ 32 := by
  show (a.toBitVec <<< (s.toBitVec.smod 32).toNat).toNat = _
  rw [hs, BitVec.toNat_shiftLeft, Nat.shiftLeft_eq]
theorem pk_shlN {n : Nat} (s : Int32) (k : Nat) (hs : (s.toBitVec.smod 32).toNat = k) (h : n * 2 ^ k < 2 ^ 32) : nI n <<< s = nI (n * 2 ^ k) := by
  apply Int32.toBitVec_inj.mp
  apply BitVec.eq_of_toNat_eq
  have hn : n < 2 ^ 32 := Nat.lt_of_le_of_lt (Nat.le_mul_of_pos_right n (Nat.two_pow_pos k)) h
  rw [pk_shl _ _ k hs, pk_tn hn, pk_tn h, Nat.mod_eq_of_lt h]
theorem pk_shr (a s : Int32) (k : Nat) (hs : (s.toBitVec.smod 32).toNat = k) : (a >>> s).toInt = a.toInt >>> k := by
  show (a.toBitVec.sshiftRight (s.toBitVec.smod 32).toNat).toInt = _
  rw [hs, BitVec.toInt_sshiftRight]
  rfl
theorem pk_shrN {n : Nat} (h : n < 2 ^ 31) (s : Int32) (k : Nat) (hs : (s.toBitVec.smod 32).toNat = k) : nI n >>> s = nI (n / 2 ^ k) := by
  apply Int32.toInt_inj.mp
  have h2 : n / 2 ^ k ≤ n := Nat.div_le_self _ _
  rw [pk_shr _ _ k hs, nI_toInt h, nI_toInt (by omega), Int.shiftRight_eq_div_pow]
  rfl
theorem ek_if {c d A B : Prop} (e : c ↔ d) (f : d → A) (g : ¬ d → B) : (c → A) ∧ (¬ c → B) :=
  ⟨fun z => f (e.mp z), fun z => g (fun y => z (e.mpr y))⟩
def bt (x : Int32) (i : Nat) : Bool := x.toBitVec.getLsbD i
theorem b_ext {x y : Int32} (h : ∀ i, i < 32 → bt x i = bt y i) : x = y := Int32.toBitVec_inj.mp (BitVec.eq_of_getLsbD_eq (fun i hi => h i hi))
theorem b_or (x y : Int32) (i : Nat) : bt (x ||| y) i = (bt x i || bt y i) := by unfold bt; rw [Int32.toBitVec_or, BitVec.getLsbD_or]
theorem b_and (x y : Int32) (i : Nat) : bt (x &&& y) i = (bt x i && bt y i) := by unfold bt; rw [Int32.toBitVec_and, BitVec.getLsbD_and]
theorem b_xor (x y : Int32) (i : Nat) : bt (x ^^^ y) i = (bt x i ^^ bt y i) := by unfold bt; rw [Int32.toBitVec_xor, BitVec.getLsbD_xor]
theorem b_big {x : Int32} {i : Nat} (h : 32 ≤ i) : bt x i = false := BitVec.getLsbD_of_ge _ _ h
theorem b_m1 : ∀ i, i < 32 → bt (-1) i = true := by decide +kernel
theorem b_0 (i : Nat) : bt 0 i = false := BitVec.getLsbD_zero
theorem s_l : ∀ n, n < 32 → ((nI n &&& 31).toBitVec.smod 32).toNat = n := by decide +kernel
theorem b_shl (n : Nat) (hn : n < 32) (x : Int32) {i : Nat} (hi : i < 32) : bt (x <<< (nI n &&& 31)) i = (decide (n ≤ i) && bt x (i - n)) := by
  unfold bt
  rw [Int32.toBitVec_shiftLeft]
  show (x.toBitVec <<< ((nI n &&& 31).toBitVec.smod 32).toNat).getLsbD i = _
  rw [s_l n hn, BitVec.getLsbD_shiftLeft]
  rcases Nat.lt_or_ge i n with h | h
  · simp [h, Nat.not_le.mpr h]
  · simp [hi, h, Nat.not_lt.mpr h]
theorem b_sshr (n : Nat) (hn : n < 32) (x : Int32) {i : Nat} (hi : i < 32) : bt (x >>> (nI n &&& 31)) i = if n + i < 32 then bt x (n + i) else bt x 31 := by
  unfold bt
  rw [Int32.toBitVec_shiftRight]
  show (x.toBitVec.sshiftRight ((nI n &&& 31).toBitVec.smod 32).toNat).getLsbD i = _
  rw [s_l n hn, BitVec.getLsbD_sshiftRight, BitVec.msb_eq_getLsbD_last]
  simp [hi]
end
section
/-! counting below a bound -/
def sq_cn (p : Nat → Bool) : Nat → Nat
  | 0 => 0
  | n + 1 => sq_cn p n + (if p n = true then 1 else 0)
theorem sq_cn_s (p : Nat → Bool) (n : Nat) : sq_cn p (n + 1) = sq_cn p n + (if p n = true then 1 else 0) := rfl
theorem sq_cn_t {p : Nat → Bool} {n : Nat} (h : p n = true) : sq_cn p (n + 1) = sq_cn p n + 1 := by rw [sq_cn_s, if_pos h]
theorem sq_cn_f {p : Nat → Bool} {n : Nat} (h : p n = false) : sq_cn p (n + 1) = sq_cn p n := by rw [sq_cn_s, if_neg (by rw [h]; decide)]; rfl
theorem sq_cn_le (p : Nat → Bool) : ∀ n, sq_cn p n ≤ n := by
  intro n
  induction n with
  | zero => exact Nat.le_refl 0
  | succ n ih => rw [sq_cn_s]; split <;> omega
theorem sq_cn_mono (p : Nat → Bool) {a : Nat} : ∀ {b : Nat}, a ≤ b → sq_cn p a ≤ sq_cn p b := by
  intro b
  induction b with
  | zero =>
    intro h
    have e : a = 0 := by omega
    subst e
    exact Nat.le_refl _
  | succ b ih =>
    intro h
    by_cases hb : a ≤ b
    · have := ih hb
      rw [sq_cn_s]
      omega
    · have e : a = b + 1 := by omega
      subst e
      exact Nat.le_refl _
theorem sq_cn_sub {p q : Nat → Bool} : ∀ {n : Nat}, (∀ i, i < n → p i = true → q i = true) → sq_cn p n ≤ sq_cn q n := by
  intro n
  induction n with
  | zero => intro _; exact Nat.le_refl _
  | succ n ih =>
    intro h
    have h1 := ih (fun i hi => h i (by omega))
    have h2 := h n (by omega)
    rw [sq_cn_s, sq_cn_s]
    by_cases hp : p n = true
    · rw [if_pos hp, if_pos (h2 hp)]; omega
    · rw [if_neg hp]; split <;> omega
theorem sq_cn_lt {p q : Nat → Bool} {k : Nat} (hq : q k = true) (hp : p k = false) : ∀ {n : Nat}, (∀ i, i < n → p i = true → q i = true) → k < n → sq_cn p n < sq_cn q n := by
  intro n
  induction n with
  | zero => intro _ h; omega
  | succ n ih =>
    intro h hk
    by_cases e : k = n
    · subst e
      have h1 := sq_cn_sub (p := p) (q := q) (n := k) (fun i hi => h i (by omega))
      rw [sq_cn_f hp, sq_cn_t hq]
      omega
    · have h1 := ih (fun i hi => h i (by omega)) (by omega)
      have h2 := h n (by omega)
      rw [sq_cn_s, sq_cn_s]
      by_cases hp : p n = true
      · rw [if_pos hp, if_pos (h2 hp)]; omega
      · rw [if_neg hp]; split <;> omega
theorem sq_cn_ext {p q : Nat → Bool} {n : Nat} (h : ∀ i, i < n → p i = q i) : sq_cn p n = sq_cn q n :=
  Nat.le_antisymm (sq_cn_sub (fun i hi hp => by rw [← h i hi]; exact hp)) (sq_cn_sub (fun i hi hp => by rw [h i hi]; exact hp))
theorem sq_cn_full {p : Nat → Bool} : ∀ {n : Nat}, sq_cn p n = n → ∀ i, i < n → p i = true := by
  intro n
  induction n with
  | zero => intro _ i hi; omega
  | succ n ih =>
    intro h i hi
    have h1 := sq_cn_le p n
    by_cases hp : p n = true
    · rw [sq_cn_t hp] at h
      by_cases e : i = n
      · rw [e]; exact hp
      · exact ih (by omega) i (by omega)
    · have hp' : p n = false := by cases hh : p n <;> simp_all
      rw [sq_cn_f hp'] at h
      omega
theorem sq_cn_at {p : Nat → Bool} : ∀ {n r : Nat}, r < sq_cn p n → ∃ i, i < n ∧ p i = true ∧ sq_cn p i = r := by
  intro n
  induction n with
  | zero => intro r h; exact absurd h (Nat.not_lt_zero _)
  | succ n ih =>
    intro r h
    by_cases h1 : r < sq_cn p n
    · obtain ⟨i, hi, h2, h3⟩ := ih h1
      exact ⟨i, by omega, h2, h3⟩
    · by_cases hp : p n = true
      · rw [sq_cn_t hp] at h
        exact ⟨n, by omega, hp, by omega⟩
      · rw [sq_cn_s, if_neg hp] at h
        omega
theorem sq_cn_lo {p : Nat → Bool} {i j : Nat} (hi : p i = true) (h : i < j) : sq_cn p i < sq_cn p j := by
  have h1 := sq_cn_mono p (a := i + 1) (b := j) h
  rw [sq_cn_t hi] at h1
  omega
theorem sq_cn_inj {p : Nat → Bool} {i j : Nat} (hi : p i = true) (hj : p j = true) (h : sq_cn p i = sq_cn p j) : i = j := by
  rcases Nat.lt_trichotomy i j with a | a | a
  · have := sq_cn_lo hi a; omega
  · exact a
  · have := sq_cn_lo hj a; omega
theorem sq_cn_neg (p : Nat → Bool) : ∀ n, sq_cn (fun i => !p i) n + sq_cn p n = n := by
  intro n
  induction n with
  | zero => rfl
  | succ n ih =>
    rw [sq_cn_s, sq_cn_s]
    cases h : p n
    · simp; omega
    · simp; omega
theorem sq_cn_ins {p q : Nat → Bool} {k : Nat} (hk : p k = false) (hq : ∀ i, q i = (p i || decide (i = k))) : ∀ {n : Nat}, k < n → sq_cn q n = sq_cn p n + 1 := by
  intro n
  induction n with
  | zero => intro h; omega
  | succ n ih =>
    intro h
    by_cases e : k = n
    · subst e
      have h1 : sq_cn q k = sq_cn p k := sq_cn_ext (fun i hi => by rw [hq, decide_eq_false (by omega), Bool.or_false])
      have h2 : q k = true := by rw [hq]; simp
      rw [sq_cn_t h2, sq_cn_f hk, h1]
    · have h1 := ih (by omega)
      have h2 : q n = p n := by rw [hq, decide_eq_false (by omega), Bool.or_false]
      rw [sq_cn_s, sq_cn_s, h2, h1]
      omega
/-! the set of the first t of a sequence -/
def sq_dn (q : Nat → Nat) : Nat → Nat → Bool
  | 0 => fun _ => false
  | t + 1 => fun i => sq_dn q t i || decide (i = q t)
theorem sq_dn_s (q : Nat → Nat) (t i : Nat) : sq_dn q (t + 1) i = (sq_dn q t i || decide (i = q t)) := rfl
theorem sq_dn_iff (q : Nat → Nat) : ∀ (t i : Nat), sq_dn q t i = true ↔ ∃ s, s < t ∧ q s = i := by
  intro t
  induction t with
  | zero => intro i; exact ⟨fun h => by simp [sq_dn] at h, fun ⟨s, h, _⟩ => by omega⟩
  | succ t ih =>
    intro i
    rw [sq_dn_s, Bool.or_eq_true, ih, decide_eq_true_eq]
    constructor
    · rintro (⟨s, h, e⟩ | e)
      · exact ⟨s, by omega, e⟩
      · exact ⟨t, by omega, e.symm⟩
    · rintro ⟨s, h, e⟩
      by_cases hs : s = t
      · right; rw [← e, hs]
      · left; exact ⟨s, by omega, e⟩
theorem sq_dn_ext {q q' : Nat → Nat} : ∀ {t : Nat}, (∀ s, s < t → q s = q' s) → sq_dn q t = sq_dn q' t := by
  intro t
  induction t with
  | zero => intro _; rfl
  | succ t ih =>
    intro h
    funext i
    rw [sq_dn_s, sq_dn_s, ih (fun s hs => h s (by omega)), h t (by omega)]
/-- q runs through 0 .. N-1 -/
def sq_pm (N : Nat) (q : Nat → Nat) : Prop := ∀ t, t < N → q t < N ∧ sq_dn q t (q t) = false
theorem sq_pm_cn {N : Nat} {q : Nat → Nat} (h : sq_pm N q) : ∀ t, t ≤ N → sq_cn (sq_dn q t) N = t := by
  intro t
  induction t with
  | zero =>
    intro _
    have : ∀ n, sq_cn (sq_dn q 0) n = 0 := by
      intro n
      induction n with
      | zero => rfl
      | succ n ih => rw [sq_cn_f rfl, ih]
    exact this N
  | succ t ih =>
    intro ht
    have h1 := h t (by omega)
    rw [sq_cn_ins (p := sq_dn q t) (k := q t) h1.2 (fun i => sq_dn_s q t i) h1.1, ih (by omega)]
theorem sq_pm_sur {N : Nat} {q : Nat → Nat} (h : sq_pm N q) : ∀ i, i < N → ∃ t, t < N ∧ q t = i := by
  intro i hi
  have h1 := sq_cn_full (sq_pm_cn h N (Nat.le_refl _)) i hi
  exact (sq_dn_iff q N i).mp h1
theorem sq_pm_ne {N : Nat} {q : Nat → Nat} (h : sq_pm N q) {s t : Nat} (hst : s < t) (ht : t < N) : q s ≠ q t := by
  intro e
  have h1 := (h t ht).2
  have h2 := (sq_dn_iff q t (q t)).mpr ⟨s, hst, e⟩
  rw [h1] at h2
  exact absurd h2 (by decide)
theorem sq_pm_of {N : Nat} {q : Nat → Nat} (h1 : ∀ t, t < N → q t < N) (h2 : ∀ s t, s < t → t < N → q s ≠ q t) : sq_pm N q := by
  intro t ht
  refine ⟨h1 t ht, ?_⟩
  cases hh : sq_dn q t (q t)
  · rfl
  · obtain ⟨s, hs, e⟩ := (sq_dn_iff q t (q t)).mp hh
    exact absurd e (h2 s t hs ht)
/-- the inverse of a run through 0 .. N-1 -/
theorem sq_pm_inv {N : Nat} {q : Nat → Nat} (h : sq_pm N q) : ∃ p : Nat → Nat, sq_pm N p ∧ (∀ i, i < N → q (p i) = i) ∧ (∀ t, t < N → p (q t) = t) := by
  have hs : ∀ i, ∃ t, i < N → (t < N ∧ q t = i) := by
    intro i
    by_cases hi : i < N
    · obtain ⟨t, a, b⟩ := sq_pm_sur h i hi
      exact ⟨t, fun _ => ⟨a, b⟩⟩
    · exact ⟨0, fun z => absurd z hi⟩
  have hp : ∀ i, i < N → (Classical.choose (hs i) < N ∧ q (Classical.choose (hs i)) = i) := fun i => Classical.choose_spec (hs i)
  have hq : ∀ t, t < N → Classical.choose (hs (q t)) = t := by
    intro t ht
    have h1 := hp (q t) (h t ht).1
    rcases Nat.lt_trichotomy (Classical.choose (hs (q t))) t with a | a | a
    · exact absurd h1.2 (sq_pm_ne h a ht)
    · exact a
    · exact absurd h1.2.symm (sq_pm_ne h a h1.1)
  refine ⟨fun i => Classical.choose (hs i), sq_pm_of (fun i hi => (hp i hi).1) ?_, fun i hi => (hp i hi).2, hq⟩
  intro s t hst ht e
  have e1 := (hp s (by omega)).2
  have e2 := (hp t ht).2
  have e' : Classical.choose (hs s) = Classical.choose (hs t) := e
  rw [e'] at e1
  omega
/-! an order by its number -/
def sq_rs (N m : Nat) : Nat → Nat
  | 0 => m
  | t + 1 => sq_rs N m t / (N - t)
theorem sq_rs_s (N m t : Nat) : sq_rs N m (t + 1) = sq_rs N m t / (N - t) := rfl
theorem sq_rs_le (N m : Nat) : ∀ t, sq_rs N m t ≤ m := by
  intro t
  induction t with
  | zero => exact Nat.le_refl _
  | succ t ih => exact Nat.le_trans (Nat.div_le_self _ _) ih
def sq_ud (q : Nat → Nat) (t : Nat) : Nat → Bool := fun i => !sq_dn q t i
def sq_cd (N m : Nat) (q : Nat → Nat) : Prop := ∀ t, t < N → q t < N ∧ sq_dn q t (q t) = false ∧ sq_cn (sq_ud q t) (q t) = sq_rs N m t % (N - t)
theorem sq_cd_pm {N m : Nat} {q : Nat → Nat} (h : sq_cd N m q) : sq_pm N q := fun t ht => ⟨(h t ht).1, (h t ht).2.1⟩
theorem sq_ud_cn {N : Nat} {q : Nat → Nat} (h : sq_pm N q) {t : Nat} (ht : t ≤ N) : sq_cn (sq_ud q t) N = N - t := by
  have h1 := sq_cn_neg (sq_dn q t) N
  have h2 := sq_pm_cn h t ht
  show sq_cn (fun i => !sq_dn q t i) N = _
  omega
theorem sq_pm_part {N T : Nat} {q : Nat → Nat} (hT : T ≤ N) (h : ∀ t, t < T → q t < N ∧ sq_dn q t (q t) = false) : ∀ t, t ≤ T → sq_cn (sq_dn q t) N = t := by
  intro t
  induction t with
  | zero =>
    intro _
    have : ∀ n, sq_cn (sq_dn q 0) n = 0 := by
      intro n
      induction n with
      | zero => rfl
      | succ n ih => rw [sq_cn_f rfl, ih]
    exact this N
  | succ t ih =>
    intro ht
    have h1 := h t (by omega)
    rw [sq_cn_ins (p := sq_dn q t) (k := q t) h1.2 (fun i => sq_dn_s q t i) h1.1, ih (by omega)]
theorem sq_cd_ex (N m : Nat) : ∃ q, sq_cd N m q := by
  have key : ∀ T, T ≤ N → ∃ q : Nat → Nat, ∀ t, t < T → q t < N ∧ sq_dn q t (q t) = false ∧ sq_cn (sq_ud q t) (q t) = sq_rs N m t % (N - t) := by
    intro T
    induction T with
    | zero => intro _; exact ⟨fun _ => 0, fun t ht => by omega⟩
    | succ T ih =>
      intro hT
      obtain ⟨q, hq⟩ := ih (by omega)
      have hc := sq_pm_part (N := N) (T := T) (q := q) (by omega) (fun t ht => ⟨(hq t ht).1, (hq t ht).2.1⟩) T (Nat.le_refl _)
      have hn := sq_cn_neg (sq_dn q T) N
      have hr : sq_rs N m T % (N - T) < sq_cn (sq_ud q T) N := by
        have : sq_cn (sq_ud q T) N = N - T := by
          show sq_cn (fun i => !sq_dn q T i) N = _
          omega
        rw [this]
        exact Nat.mod_lt _ (by omega)
      obtain ⟨i, hi, hu, he⟩ := sq_cn_at hr
      refine ⟨fun t => if t = T then i else q t, ?_⟩
      have ext : ∀ t, t ≤ T → sq_dn (fun t => if t = T then i else q t) t = sq_dn q t := by
        intro t ht
        exact sq_dn_ext (fun s hs => if_neg (by omega))
      have exu : ∀ t, t ≤ T → sq_ud (fun t => if t = T then i else q t) t = sq_ud q t := by
        intro t ht
        funext j
        show (!(sq_dn _ t j)) = (!(sq_dn q t j))
        rw [ext t ht]
      intro t ht
      rw [ext t (by omega), exu t (by omega)]
      dsimp only
      by_cases e : t = T
      · subst e
        rw [if_pos rfl]
        refine ⟨hi, ?_, he⟩
        have hu' : (!sq_dn q t i) = true := hu
        simpa using hu'
      · rw [if_neg e]
        exact hq t (by omega)
  exact key N (Nat.le_refl _)
def sq_fac : Nat → Nat
  | 0 => 1
  | n + 1 => (n + 1) * sq_fac n
theorem sq_rad : ∀ (s : Nat) (c : Nat → Nat), (∀ j, j < s → c j < s - j) → ∃ m, m < sq_fac s ∧ ∀ j, j < s → sq_rs s m j % (s - j) = c j := by
  intro s
  induction s with
  | zero => intro c _; exact ⟨0, by decide, fun j hj => by omega⟩
  | succ s ih =>
    intro c hc
    obtain ⟨m, hm, h⟩ := ih (fun j => c (j + 1)) (fun j hj => by have := hc (j + 1) (by omega); omega)
    have h0 := hc 0 (by omega)
    have hr : ∀ j, sq_rs (s + 1) (c 0 + (s + 1) * m) (j + 1) = sq_rs s m j := by
      intro j
      induction j with
      | zero =>
        show (c 0 + (s + 1) * m) / (s + 1 - 0) = m
        rw [Nat.sub_zero, Nat.add_mul_div_left _ _ (by omega), Nat.div_eq_of_lt (by omega)]
        omega
      | succ j ihj =>
        rw [sq_rs_s, ihj, sq_rs_s]
        have : s + 1 - (j + 1) = s - j := by omega
        rw [this]
    refine ⟨c 0 + (s + 1) * m, ?_, ?_⟩
    · show _ < (s + 1) * sq_fac s
      have h1 : (s + 1) * (m + 1) ≤ (s + 1) * sq_fac s := Nat.mul_le_mul_left _ hm
      rw [Nat.mul_add] at h1
      omega
    · intro j hj
      cases j with
      | zero =>
        show (c 0 + (s + 1) * m) % (s + 1 - 0) = c 0
        rw [Nat.sub_zero, Nat.add_mul_mod_self_left, Nat.mod_eq_of_lt (by omega)]
      | succ j =>
        rw [hr]
        have : s + 1 - (j + 1) = s - j := by omega
        rw [this]
        exact h j (by omega)
theorem sq_cd_all {N : Nat} {q : Nat → Nat} (h : sq_pm N q) : ∃ m, m < sq_fac N ∧ sq_cd N m q := by
  obtain ⟨m, hm, hd⟩ := sq_rad N (fun t => sq_cn (sq_ud q t) (q t)) (by
    intro t ht
    have h1 := h t ht
    have h2 := sq_ud_cn h (t := t) (by omega)
    have h3 : sq_ud q t (q t) = true := by show (!sq_dn q t (q t)) = true; rw [h1.2]; rfl
    have h4 := sq_cn_lo h3 h1.1
    omega)
  exact ⟨m, hm, fun t ht => ⟨(h t ht).1, (h t ht).2, (hd t ht).symm⟩⟩
/-! digits to one base -/
theorem sq_bas (B : Nat) (hB : 0 < B) : ∀ (K : Nat) (c : Nat → Nat), (∀ j, j < K → c j < B) → ∃ m, m < B ^ K ∧ ∀ j, j < K → m / B ^ j % B = c j := by
  intro K
  induction K with
  | zero => intro c _; exact ⟨0, by simp, fun j hj => by omega⟩
  | succ K ih =>
    intro c hc
    obtain ⟨m, hm, h⟩ := ih (fun j => c (j + 1)) (fun j hj => hc (j + 1) (by omega))
    have h0 := hc 0 (by omega)
    refine ⟨c 0 + B * m, ?_, ?_⟩
    · have h1 : B * (m + 1) ≤ B * B ^ K := Nat.mul_le_mul_left _ hm
      rw [Nat.mul_add] at h1
      rw [Nat.pow_succ, Nat.mul_comm (B ^ K) B]
      omega
    · intro j hj
      cases j with
      | zero => rw [Nat.pow_zero, Nat.div_one, Nat.add_mul_mod_self_left, Nat.mod_eq_of_lt h0]
      | succ j =>
        rw [Nat.pow_succ, Nat.mul_comm (B ^ j) B, ← Nat.div_div_eq_div_mul, Nat.add_mul_div_left _ _ hB, Nat.div_eq_of_lt h0, Nat.zero_add]
        exact h j (by omega)
/-! ranks by a key -/
theorem sq_rank {N : Nat} {key : Nat → Nat} {p : Nat → Bool} (hinj : ∀ i j, i < N → j < N → p i = true → p j = true → key i = key j → i = j) :
    let r := fun i => sq_cn (fun j => p j && decide (key j < key i)) N
    (∀ i, i < N → p i = true → r i < sq_cn p N) ∧ (∀ i j, i < N → j < N → p i = true → p j = true → (r i < r j ↔ key i < key j)) := by
  intro r
  have mono : ∀ i j, i < N → p i = true → key i < key j → r i < r j := by
    intro i j hi hp hk
    refine sq_cn_lt (k := i) ?_ ?_ ?_ hi
    · show (p i && decide (key i < key j)) = true
      rw [hp, decide_eq_true hk]; rfl
    · show (p i && decide (key i < key i)) = false
      rw [decide_eq_false (by omega), Bool.and_false]
    · intro l _ h
      have h' : (p l && decide (key l < key i)) = true := h
      rw [Bool.and_eq_true, decide_eq_true_eq] at h'
      show (p l && decide (key l < key j)) = true
      rw [h'.1, decide_eq_true (by omega)]; rfl
  constructor
  · intro i hi hp
    refine sq_cn_lt (k := i) hp ?_ ?_ hi
    · show (p i && decide (key i < key i)) = false
      rw [decide_eq_false (by omega), Bool.and_false]
    · intro l _ h
      have h' : (p l && decide (key l < key i)) = true := h
      rw [Bool.and_eq_true] at h'
      exact h'.1
  · intro i j hi hj hpi hpj
    constructor
    · intro h
      rcases Nat.lt_trichotomy (key i) (key j) with a | a | a
      · exact a
      · have := hinj i j hi hj hpi hpj a
        subst this
        omega
      · have := mono j i hj hpj a
        omega
    · exact mono i j hi hpi
end
section
/-! arrays of naturals -/
def sq_nA (f : Nat → Nat) : Nat → Int32 := fun i => nI (f i)
def sq_up (f : Nat → Nat) (k v : Nat) : Nat → Nat := fun i => if i = k then v else f i
theorem sq_up_s (f : Nat → Nat) (k v : Nat) : sq_up f k v k = v := if_pos rfl
theorem sq_up_n (f : Nat → Nat) {k i : Nat} (v : Nat) (h : i ≠ k) : sq_up f k v i = f i := if_neg h
theorem sq_upd (f : Nat → Nat) (k v : Nat) : upd (sq_nA f) k (nI v) = sq_nA (sq_up f k v) := by
  funext i
  show (if i = k then nI v else nI (f i)) = nI (if i = k then v else f i)
  split <;> rfl
theorem sq_at (f : Nat → Nat) {i : Nat} (h : i < 2 ^ 31) : sq_nA f (nI i).toNatClampNeg = nI (f i) := by rw [nI_clamp h]; rfl
theorem sq_ati (a : Nat → Int32) {i : Nat} (h : i < 2 ^ 31) : a (nI i).toNatClampNeg = a i := by rw [nI_clamp h]
theorem sq_u0 (f : Nat → Nat) (k : Nat) : sq_up f k (f k) = f := by
  funext i
  show (if i = k then f k else f i) = f i
  split
  · rename_i h; rw [h]
  · rfl
theorem sq_updS (a : Nat → Int32) (k : Nat) : upd a k (a k) = a := by
  funext i
  show (if i = k then a k else a i) = a i
  split
  · rename_i h; rw [h]
  · rfl
/-! bits -/
theorem sq_one : ∀ i, i < 32 → bt 1 i = decide (i = 0) := by decide +kernel
theorem sq_three : ∀ i, i < 32 → bt 3 i = decide (i < 2) := by decide +kernel
theorem sq_b1 {k i : Nat} (hk : k < 32) (hi : i < 32) : bt ((1 : Int32) <<< (nI k &&& 31)) i = decide (i = k) := by
  rw [b_shl k hk 1 hi, sq_one (i - k) (by omega)]
  by_cases h : k ≤ i
  · rw [decide_eq_true h, Bool.true_and]
    by_cases e : i = k
    · rw [decide_eq_true e, decide_eq_true (by omega)]
    · rw [decide_eq_false e, decide_eq_false (by omega)]
  · rw [decide_eq_false h, Bool.false_and, decide_eq_false (by omega)]
theorem sq_tst (x : Int32) {k : Nat} (hk : k < 32) : (x &&& ((1 : Int32) <<< (nI k &&& 31))) = 0 ↔ bt x k = false := by
  constructor
  · intro h
    have h1 : bt (x &&& ((1 : Int32) <<< (nI k &&& 31))) k = false := by rw [h]; exact b_0 k
    rw [b_and, sq_b1 hk hk, decide_eq_true rfl, Bool.and_true] at h1
    exact h1
  · intro h
    apply b_ext
    intro i hi
    rw [b_and, sq_b1 hk hi, b_0]
    by_cases e : i = k
    · rw [e, h, Bool.false_and]
    · rw [decide_eq_false e, Bool.and_false]
theorem sq_bit (x : Int32) {k : Nat} (hk : k < 32) : (x >>> (nI k &&& 31)) &&& 1 = if bt x k = true then 1 else 0 := by
  apply b_ext
  intro i hi
  rw [b_and, b_sshr k hk x hi, sq_one i hi]
  by_cases e : i = 0
  · subst e
    rw [if_pos (by omega), Nat.add_zero, decide_eq_true rfl, Bool.and_true]
    cases h : bt x k
    · rw [if_neg (by decide), b_0]
    · rw [if_pos rfl]; exact (by decide +kernel : true = bt 1 0)
  · rw [decide_eq_false e, Bool.and_false]
    split
    · rw [sq_one i hi, decide_eq_false e]
    · rw [b_0]
theorem sq_bit1 (x : Int32) {k : Nat} (hk : k < 32) : (x >>> (nI k &&& 31)) &&& 1 = 1 ↔ bt x k = true := by
  rw [sq_bit x hk]
  cases h : bt x k
  · exact ⟨fun z => absurd z (by decide), fun z => absurd z (by decide)⟩
  · exact ⟨fun _ => rfl, fun _ => rfl⟩
theorem sq_bit0 (x : Int32) {k : Nat} (hk : k < 32) : (x >>> (nI k &&& 31)) &&& 1 = 0 ↔ bt x k = false := by
  rw [sq_bit x hk]
  cases h : bt x k
  · exact ⟨fun _ => rfl, fun _ => rfl⟩
  · exact ⟨fun z => absurd z (by decide), fun z => absurd z (by decide)⟩
theorem sq_set (x : Int32) {k i : Nat} (hk : k < 32) (hi : i < 32) : bt (x ||| ((1 : Int32) <<< (nI k &&& 31))) i = (bt x i || decide (i = k)) := by
  rw [b_or, sq_b1 hk hi]
theorem sq_clr (x : Int32) {k i : Nat} (hk : k < 32) (hi : i < 32) : bt (x &&& (((1 : Int32) <<< (nI k &&& 31)) ^^^ (-1))) i = (bt x i && !decide (i = k)) := by
  rw [b_and, b_xor, sq_b1 hk hi, b_m1 i hi, Bool.xor_true]
theorem sq_subm (e x : Int32) : (e &&& (x ^^^ (-1))) = 0 ↔ ∀ i, i < 32 → bt e i = true → bt x i = true := by
  constructor
  · intro h i hi he
    have h1 : bt (e &&& (x ^^^ (-1))) i = false := by rw [h]; exact b_0 i
    rw [b_and, b_xor, b_m1 i hi, Bool.xor_true, he, Bool.true_and] at h1
    cases hx : bt x i
    · rw [hx] at h1; exact absurd h1 (by decide)
    · rfl
  · intro h
    apply b_ext
    intro i hi
    rw [b_and, b_xor, b_m1 i hi, Bool.xor_true, b_0]
    cases he : bt e i
    · rfl
    · rw [h i hi he]; rfl
theorem sq_btN (s : Nat) {i : Nat} (hi : i < 32) : bt (nI s) i = s.testBit i := by
  show (BitVec.ofNat 32 s).getLsbD i = s.testBit i
  rw [BitVec.getLsbD_ofNat, decide_eq_true hi, Bool.true_and]
theorem sq_low : ∀ k, k < 7 → ∀ i, i < 32 → bt (((1 : Int32) <<< (nI k &&& 31)) - 1) i = decide (i < k) := by decide +kernel
theorem sq_fen (F : Int32) {i j : Nat} (hij : i < j) (hj : j < 6) : ((F >>> (nI i &&& 31)) &&& (((1 : Int32) <<< ((nI j - nI i) &&& 31)) - 1)) = 0 ↔ ∀ b, i ≤ b → b < j → bt F b = false := by
  rw [pk_sub (Nat.le_of_lt hij)]
  constructor
  · intro h b hb hbj
    have h1 : bt ((F >>> (nI i &&& 31)) &&& (((1 : Int32) <<< (nI (j - i) &&& 31)) - 1)) (b - i) = false := by rw [h]; exact b_0 _
    rw [b_and, sq_low (j - i) (by omega) (b - i) (by omega), b_sshr i (by omega) F (by omega), if_pos (by omega), decide_eq_true (by omega), Bool.and_true, show i + (b - i) = b from by omega] at h1
    exact h1
  · intro h
    apply b_ext
    intro b hb
    rw [b_and, sq_low (j - i) (by omega) b hb, b_0]
    by_cases hbj : b < j - i
    · rw [b_sshr i (by omega) F hb, if_pos (by omega), h (i + b) (by omega) (by omega), Bool.false_and]
    · rw [decide_eq_false hbj, Bool.and_false]
/-! a number by its digits to the base 4 -/
def sq_sm (f : Nat → Nat) : Nat → Nat
  | 0 => 0
  | k + 1 => 2 ^ (2 * k) * f k + sq_sm f k
theorem sq_sm_s (f : Nat → Nat) (k : Nat) : sq_sm f (k + 1) = 2 ^ (2 * k) * f k + sq_sm f k := rfl
theorem sq_sm_lt {f : Nat → Nat} (h : ∀ d, f d < 4) : ∀ k, sq_sm f k < 2 ^ (2 * k) := by
  intro k
  induction k with
  | zero => show 0 < 2 ^ 0; decide
  | succ k ih =>
    rw [sq_sm_s, show 2 * (k + 1) = 2 * k + 2 from by omega, Nat.pow_add]
    have h1 : 2 ^ (2 * k) * f k ≤ 2 ^ (2 * k) * 3 := Nat.mul_le_mul_left _ (by have := h k; omega)
    have : (2 : Nat) ^ 2 = 4 := by decide
    rw [this]
    omega
theorem sq_sm_ext {f g : Nat → Nat} : ∀ {k : Nat}, (∀ d, d < k → f d = g d) → sq_sm f k = sq_sm g k := by
  intro k
  induction k with
  | zero => intro _; rfl
  | succ k ih => intro h; rw [sq_sm_s, sq_sm_s, h k (by omega), ih (fun d hd => h d (by omega))]
theorem sq_sm_bit {f : Nat → Nat} (h : ∀ d, f d < 4) : ∀ k j, (sq_sm f k).testBit j = (decide (j < 2 * k) && (f (j / 2)).testBit (j % 2)) := by
  intro k
  induction k with
  | zero => intro j; show (0 : Nat).testBit j = _; simp
  | succ k ih =>
    intro j
    rw [sq_sm_s, Nat.testBit_two_pow_mul_add _ (sq_sm_lt h k)]
    by_cases hj : j < 2 * k
    · rw [if_pos hj, ih, decide_eq_true hj, decide_eq_true (by omega)]
    · rw [if_neg hj]
      by_cases h2 : j < 2 * (k + 1)
      · have e1 : j / 2 = k := by omega
        have e2 : j - 2 * k = j % 2 := by omega
        rw [decide_eq_true h2, Bool.true_and, e1, e2]
      · rw [decide_eq_false h2, Bool.false_and]
        apply Nat.testBit_lt_two_pow
        have h3 := h k
        have h4 : 2 ^ 2 ≤ 2 ^ (j - 2 * k) := Nat.pow_le_pow_right (by decide) (by omega)
        have : (2 : Nat) ^ 2 = 4 := by decide
        omega
theorem sq_up4 {f : Nat → Nat} (h : ∀ d, f d < 4) {k v : Nat} (hv : v < 4) : ∀ d, sq_up f k v d < 4 := by
  intro d
  show (if d = k then v else f d) < 4
  split
  · exact hv
  · exact h d
theorem sq_put {f : Nat → Nat} (h : ∀ d, f d < 4) {k v : Nat} (hk : k < 9) (hv : v < 4) :
    (nI (sq_sm f 9) &&& (((3 : Int32) <<< (nI (2 * k) &&& 31)) ^^^ (-1))) ||| (nI v <<< (nI (2 * k) &&& 31)) = nI (sq_sm (sq_up f k v) 9) := by
  apply b_ext
  intro i hi
  rw [b_or, b_and, b_xor, b_m1 i hi, b_shl (2 * k) (by omega) _ hi, b_shl (2 * k) (by omega) _ hi, sq_btN _ hi, sq_btN _ hi, sq_sm_bit h, sq_sm_bit (sq_up4 h hv), sq_three (i - 2 * k) (by omega), sq_btN v (by omega), Bool.xor_true]
  by_cases h1 : i < 2 * 9
  · rw [decide_eq_true h1, Bool.true_and, Bool.true_and]
    by_cases e : i / 2 = k
    · have e1 : i - 2 * k = i % 2 := by omega
      rw [e, sq_up_s, decide_eq_true (by omega : 2 * k ≤ i), decide_eq_true (by omega : i - 2 * k < 2), e1]
      simp
    · rw [sq_up_n _ _ e]
      by_cases h2 : 2 * k ≤ i
      · rw [decide_eq_true h2, decide_eq_false (by omega : ¬ i - 2 * k < 2), Nat.testBit_lt_two_pow (x := v) (i := i - 2 * k) (by
          have h4 : 2 ^ 2 ≤ 2 ^ (i - 2 * k) := Nat.pow_le_pow_right (by decide) (by omega)
          have : (2 : Nat) ^ 2 = 4 := by decide
          omega)]
        simp
      · rw [decide_eq_false h2]
        simp
  · rw [decide_eq_false h1]
    by_cases h2 : 2 * k ≤ i
    · rw [Nat.testBit_lt_two_pow (x := v) (i := i - 2 * k) (by
          have h4 : 2 ^ 2 ≤ 2 ^ (i - 2 * k) := Nat.pow_le_pow_right (by decide) (by omega)
          have : (2 : Nat) ^ 2 = 4 := by decide
          omega)]
      simp
    · rw [decide_eq_false h2]
      simp
theorem sq_get {f : Nat → Nat} (h : ∀ d, f d < 4) {k : Nat} (hk : k < 9) : (nI (sq_sm f 9) >>> (nI (2 * k) &&& 31)) &&& 3 = nI (f k) := by
  apply b_ext
  intro i hi
  rw [b_and, b_sshr (2 * k) (by omega) _ hi, sq_three i hi, sq_btN _ hi]
  by_cases h1 : i < 2
  · rw [decide_eq_true h1, Bool.and_true, if_pos (by omega), sq_btN _ (by omega), sq_sm_bit h, decide_eq_true (by omega), Bool.true_and, show (2 * k + i) / 2 = k from by omega, show (2 * k + i) % 2 = i from by omega]
  · rw [decide_eq_false h1, Bool.and_false, Nat.testBit_lt_two_pow]
    have h3 := h k
    have h4 : 2 ^ 2 ≤ 2 ^ i := Nat.pow_le_pow_right (by decide) (by omega)
    have : (2 : Nat) ^ 2 = 4 := by decide
    omega
/-! rising sets -/
def sq_SS (f : Nat → Nat) (c : Nat) (P : Nat → Prop) : Prop := (∀ i j, i < j → j < c → f i < f j) ∧ ∀ o, P o ↔ ∃ i, i < c ∧ f i = o
theorem sq_SS_0 (f : Nat → Nat) {P : Nat → Prop} (h : ∀ o, ¬ P o) : sq_SS f 0 P := ⟨fun i j _ hj => by omega, fun o => ⟨fun z => absurd z (h o), fun ⟨i, hi, _⟩ => by omega⟩⟩
theorem sq_SS_c {f : Nat → Nat} {c : Nat} {P Q : Nat → Prop} (h : sq_SS f c P) (e : ∀ o, P o ↔ Q o) : sq_SS f c Q := ⟨h.1, fun o => (e o).symm.trans (h.2 o)⟩
theorem sq_SS_uniq {P : Nat → Prop} {f g : Nat → Nat} {c d : Nat} (hf : sq_SS f c P) (hg : sq_SS g d P) : c = d ∧ ∀ i, i < c → f i = g i := by
  have key : ∀ (f g : Nat → Nat) (c d : Nat), sq_SS f c P → sq_SS g d P → ∀ i, i < c → i < d ∧ f i = g i := by
    intro f g c d hf hg i
    induction i using Nat.strongRecOn with
    | ind i ih =>
      intro hi
      obtain ⟨j, hj, e⟩ := (hg.2 (f i)).mp ((hf.2 (f i)).mpr ⟨i, hi, rfl⟩)
      rcases Nat.lt_trichotomy j i with a | a | a
      · have h1 := (ih j a (by omega)).2
        have h2 := hf.1 j i a hi
        omega
      · subst a; exact ⟨hj, e.symm⟩
      · have hid : i < d := by omega
        refine ⟨hid, ?_⟩
        have h3 := hg.1 i j a hj
        obtain ⟨l, hl, e2⟩ := (hf.2 (g i)).mp ((hg.2 (g i)).mpr ⟨i, hid, rfl⟩)
        rcases Nat.lt_trichotomy l i with b | b | b
        · have h4 := ih l b (by omega)
          have h5 := hg.1 l i b hid
          omega
        · subst b; exact e2
        · have h4 := hf.1 i l b hl
          omega
  have h1 := key f g c d hf hg
  have h2 := key g f d c hg hf
  refine ⟨?_, fun i hi => (h1 i hi).2⟩
  rcases Nat.lt_trichotomy c d with a | a | a
  · have := (h2 c a).1; omega
  · exact a
  · have := (h1 d a).1; omega
/-- f with o put in at its place -/
def sq_pu (f : Nat → Nat) (c a o : Nat) : Nat → Nat := fun i => if i < a then f i else if i = a then o else if i ≤ c then f (i - 1) else f i
theorem sq_SS_in {f : Nat → Nat} {c a o : Nat} {P : Nat → Prop} (h : sq_SS f c P) (ha : a ≤ c) (hlo : ∀ i, i < a → f i < o) (hhi : a < c → o < f a) : sq_SS (sq_pu f c a o) (c + 1) (fun x => P x ∨ x = o) := by
  have v1 : ∀ i, i < a → sq_pu f c a o i = f i := fun i hi => if_pos hi
  have v2 : sq_pu f c a o a = o := by show (if a < a then _ else if a = a then o else _) = o; rw [if_neg (by omega), if_pos rfl]
  have v3 : ∀ i, a < i → i ≤ c → sq_pu f c a o i = f (i - 1) := by
    intro i h1 h2
    show (if i < a then _ else if i = a then o else if i ≤ c then f (i - 1) else _) = _
    rw [if_neg (by omega), if_neg (by omega), if_pos h2]
  have hup : ∀ i, a ≤ i → i < c → o < f i := by
    intro i h1 h2
    by_cases e : i = a
    · subst e; exact hhi h2
    · have h3 := h.1 a i (by omega) h2
      have h4 := hhi (by omega)
      omega
  constructor
  · intro i j hij hj
    by_cases ci : i < a
    · rw [v1 i ci]
      by_cases cj : j < a
      · rw [v1 j cj]; exact h.1 i j hij (by omega)
      · by_cases ej : j = a
        · rw [ej, v2]; exact hlo i ci
        · rw [v3 j (by omega) (by omega)]
          have h1 := hlo i ci
          have h2 := hup (j - 1) (by omega) (by omega)
          omega
    · by_cases ei : i = a
      · rw [ei, v2, v3 j (by omega) (by omega)]
        exact hup (j - 1) (by omega) (by omega)
      · rw [v3 i (by omega) (by omega), v3 j (by omega) (by omega)]
        exact h.1 (i - 1) (j - 1) (by omega) (by omega)
  · intro x
    constructor
    · rintro (hx | hx)
      · obtain ⟨i, hi, e⟩ := (h.2 x).mp hx
        by_cases ci : i < a
        · exact ⟨i, by omega, (v1 i ci).trans e⟩
        · exact ⟨i + 1, by omega, by rw [v3 (i + 1) (by omega) (by omega)]; exact e⟩
      · exact ⟨a, by omega, v2.trans hx.symm⟩
    · rintro ⟨i, hi, e⟩
      by_cases ci : i < a
      · left; exact (h.2 x).mpr ⟨i, by omega, (v1 i ci).symm.trans e⟩
      · by_cases ei : i = a
        · right; rw [← e, ei, v2]
        · left; exact (h.2 x).mpr ⟨i - 1, by omega, (v3 i (by omega) (by omega)).symm.trans e⟩
theorem sq_SS_old {f : Nat → Nat} {c o : Nat} {P : Nat → Prop} (h : sq_SS f c P) (ho : P o) : sq_SS f c (fun x => P x ∨ x = o) :=
  sq_SS_c h (fun x => ⟨Or.inl, fun z => z.elim id (fun e => by rw [e]; exact ho)⟩)
/-- f while the shift stands at i -/
def sq_ps (f : Nat → Nat) (c i : Nat) : Nat → Nat := fun j => if i < j ∧ j ≤ c then f (j - 1) else f j
theorem sq_ps_0 (f : Nat → Nat) (c : Nat) : sq_ps f c c = f := by
  funext j
  show (if c < j ∧ j ≤ c then f (j - 1) else f j) = f j
  rw [if_neg (by omega)]
theorem sq_ps_s (f : Nat → Nat) {c i : Nat} (hi : i < c) : sq_up (sq_ps f c (i + 1)) (i + 1) (sq_ps f c (i + 1) i) = sq_ps f c i := by
  have e0 : sq_ps f c (i + 1) i = f i := by show (if _ then _ else _) = _; rw [if_neg (by omega)]
  funext j
  rw [e0]
  show (if j = i + 1 then f i else (if i + 1 < j ∧ j ≤ c then f (j - 1) else f j)) = (if i < j ∧ j ≤ c then f (j - 1) else f j)
  by_cases e : j = i + 1
  · rw [if_pos e, if_pos (by omega), e]; rfl
  · rw [if_neg e]
    by_cases h : i < j ∧ j ≤ c
    · rw [if_pos h, if_pos (by omega)]
    · rw [if_neg h, if_neg (by omega)]
theorem sq_ps_e (f : Nat → Nat) (c a o : Nat) : sq_up (sq_ps f c a) a o = sq_pu f c a o := by
  funext j
  show (if j = a then o else (if a < j ∧ j ≤ c then f (j - 1) else f j)) = (if j < a then f j else if j = a then o else if j ≤ c then f (j - 1) else f j)
  by_cases e : j = a
  · rw [if_pos e, if_neg (by omega), if_pos e]
  · rw [if_neg e]
    by_cases h : j < a
    · rw [if_pos h, if_neg (by omega)]
    · rw [if_neg h, if_neg e]
      by_cases h2 : j ≤ c
      · rw [if_pos h2, if_pos (by omega)]
      · rw [if_neg h2, if_neg (by omega)]
end
section
/-! the program, the component's picture (an order of effects), the reference's picture (places and sources) -/
def sq_W (n : Nat) (ow kd vr vl : Nat → Nat) : Prop := n ≤ 6 ∧ (∀ i, ow i < 4) ∧ (∀ i, kd i < 3) ∧ (∀ i, vr i < 3) ∧ (∀ i, vl i < 4) ∧ (∀ i j, i < j → j < n → ow i ≤ ow j)
def sq_fb (ow kd vr vl : Nat → Nat) (d : Nat → Bool) (j v : Nat) : Nat → Nat
  | 0 => v
  | i + 1 => if ow i = ow j ∧ kd i = 0 ∧ vr i = vr j ∧ d i = false then vl i else sq_fb ow kd vr vl d j v i
theorem sq_fb_s (ow kd vr vl : Nat → Nat) (d : Nat → Bool) (j v i : Nat) : sq_fb ow kd vr vl d j v (i + 1) = if ow i = ow j ∧ kd i = 0 ∧ vr i = vr j ∧ d i = false then vl i else sq_fb ow kd vr vl d j v i := rfl
def sq_ll (kd : Nat → Nat) : Nat → Bool := fun i => decide (kd i = 1)
def sq_ls (kd : Nat → Nat) : Nat → Bool := fun i => decide (kd i = 0)
def sq_sl (kd vr : Nat → Nat) (i : Nat) : Nat := if kd i = 1 then sq_cn (sq_ll kd) i else 6 + vr i
def sq_fx (ow kd vr vl q : Nat → Nat) : Nat → Nat → Nat
  | 0 => fun _ => 0
  | t + 1 => if kd (q t) = 2 then sq_fx ow kd vr vl q t else sq_up (sq_fx ow kd vr vl q t) (sq_sl kd vr (q t)) (if kd (q t) = 0 then vl (q t) else sq_fb ow kd vr vl (sq_dn q t) (q t) (sq_fx ow kd vr vl q t (6 + vr (q t))) (q t))
theorem sq_fx_s (ow kd vr vl q : Nat → Nat) (t : Nat) : sq_fx ow kd vr vl q (t + 1) = if kd (q t) = 2 then sq_fx ow kd vr vl q t else sq_up (sq_fx ow kd vr vl q t) (sq_sl kd vr (q t)) (if kd (q t) = 0 then vl (q t) else sq_fb ow kd vr vl (sq_dn q t) (q t) (sq_fx ow kd vr vl q t (6 + vr (q t))) (q t)) := rfl
theorem sq_fb4 {ow kd vr vl : Nat → Nat} (hv : ∀ i, vl i < 4) (d : Nat → Bool) (j : Nat) {v : Nat} (h : v < 4) : ∀ i, sq_fb ow kd vr vl d j v i < 4 := by
  intro i
  induction i with
  | zero => exact h
  | succ i ih => rw [sq_fb_s]; split; exact hv i; exact ih
theorem sq_fx4 {ow kd vr vl : Nat → Nat} (hv : ∀ i, vl i < 4) (q : Nat → Nat) : ∀ t d, sq_fx ow kd vr vl q t d < 4 := by
  intro t
  induction t with
  | zero => intro d; show 0 < 4; decide
  | succ t ih =>
    rw [sq_fx_s]
    split
    · exact ih
    · refine sq_up4 ih ?_
      split
      · exact hv _
      · exact sq_fb4 hv _ _ (ih _) _
def sq_E (ow kd : Nat → Nat) (F : Nat → Bool) (i j : Nat) : Prop := i < j ∧ ow i = ow j ∧ (kd i ≠ 0 ∨ kd j ≠ 1 ∨ ∃ b, i ≤ b ∧ b < j ∧ F b = true)
def sq_va (n : Nat) (ow kd : Nat → Nat) (F : Nat → Bool) (q : Nat → Nat) : Prop := ∀ t, t < n → ∀ i, sq_E ow kd F i (q t) → sq_dn q t i = true
def sq_PX (n : Nat) (ow kd vr vl : Nat → Nat) (F : Nat → Bool) (o : Nat) : Prop := ∃ q, sq_pm n q ∧ sq_va n ow kd F q ∧ o = sq_sm (sq_fx ow kd vr vl q n) 9
def sq_vo (vl : Nat → Nat) : Option Nat → Nat
  | none => 0
  | some s => vl s
def sq_own (ow kd vr : Nat → Nat) (j i : Nat) : Prop := i < j ∧ kd i = 0 ∧ vr i = vr j ∧ ow i = ow j
def sq_src (n : Nat) (ow kd vr pos : Nat → Nat) (j : Nat) : Option Nat → Prop
  | none => (∀ i, i < n → kd i = 0 → vr i = vr j → ¬ pos i < pos j) ∧ (∀ i, sq_own ow kd vr j i → pos i < pos j)
  | some s => s < n ∧ kd s = 0 ∧ vr s = vr j ∧ ((s < j ∧ ow s = ow j ∧ pos j < pos s ∧ ∀ i, sq_own ow kd vr j i → s < i → pos i < pos j) ∨ (pos s < pos j ∧ (∀ i, sq_own ow kd vr j i → pos i < pos j) ∧ ∀ i, i < n → kd i = 0 → vr i = vr j → pos i < pos j → pos i ≤ pos s))
def sq_mem (n : Nat) (kd vr pos : Nat → Nat) (t x : Nat) : Option Nat → Prop
  | none => ∀ i, i < n → kd i = 0 → vr i = x → ¬ pos i < t
  | some s => s < n ∧ kd s = 0 ∧ vr s = x ∧ pos s < t ∧ ∀ i, i < n → kd i = 0 → vr i = x → pos i < t → pos i ≤ pos s
theorem sq_fb_sp (ow kd vr vl : Nat → Nat) (d : Nat → Bool) (j v : Nat) : ∀ l, (∃ s, s < l ∧ (ow s = ow j ∧ kd s = 0 ∧ vr s = vr j ∧ d s = false) ∧ (∀ i, s < i → i < l → ¬ (ow i = ow j ∧ kd i = 0 ∧ vr i = vr j ∧ d i = false)) ∧ sq_fb ow kd vr vl d j v l = vl s) ∨ ((∀ i, i < l → ¬ (ow i = ow j ∧ kd i = 0 ∧ vr i = vr j ∧ d i = false)) ∧ sq_fb ow kd vr vl d j v l = v) := by
  intro l
  induction l with
  | zero => right; exact ⟨fun i hi => by omega, rfl⟩
  | succ l ih =>
    rw [sq_fb_s]
    by_cases h : ow l = ow j ∧ kd l = 0 ∧ vr l = vr j ∧ d l = false
    · left
      exact ⟨l, by omega, h, fun i h1 h2 => by omega, by rw [if_pos h]⟩
    · rw [if_neg h]
      rcases ih with ⟨s, hs, hm, hl, e⟩ | ⟨hl, e⟩
      · left
        refine ⟨s, by omega, hm, fun i h1 h2 => ?_, e⟩
        by_cases ei : i = l
        · rw [ei]; exact h
        · exact hl i h1 (by omega)
      · right
        refine ⟨fun i hi => ?_, e⟩
        by_cases ei : i = l
        · rw [ei]; exact h
        · exact hl i (by omega)
theorem sq_dig {n : Nat} {ow kd vr vl q pos : Nat → Nat} (hn : n ≤ 6) (hk3 : ∀ i, kd i < 3) (hm : sq_pm n q) (hp : ∀ i, i < n → pos i < n ∧ q (pos i) = i) (hq : ∀ t, t < n → pos (q t) = t) :
    ∀ t, t ≤ n → (∀ x, ∃ o, sq_mem n kd vr pos t x o ∧ sq_fx ow kd vr vl q t (6 + x) = sq_vo vl o) ∧ (∀ j, j < n → kd j = 1 → pos j < t → ∃ o, sq_src n ow kd vr pos j o ∧ sq_fx ow kd vr vl q t (sq_sl kd vr j) = sq_vo vl o) ∧ (∀ k, k < 6 → (∀ j, j < n → kd j = 1 → sq_sl kd vr j = k → ¬ pos j < t) → sq_fx ow kd vr vl q t k = 0) := by
  intro t
  induction t with
  | zero =>
    intro _
    refine ⟨fun x => ⟨none, fun i _ _ _ => Nat.not_lt_zero _, rfl⟩, fun j _ _ h => absurd h (Nat.not_lt_zero _), fun k _ _ => rfl⟩
  | succ t ih =>
    intro ht
    obtain ⟨im, il, iz⟩ := ih (by omega)
    have hi := (hm t (by omega)).1
    have ei := hq t (by omega)
    have hdn : ∀ i, i < n → (sq_dn q t i = true ↔ pos i < t) := by
      intro i h
      rw [sq_dn_iff]
      constructor
      · rintro ⟨s, hs, e⟩
        rw [← e, hq s (by omega)]; exact hs
      · intro h2
        exact ⟨pos i, h2, (hp i h).2⟩
    have hs1 : ∀ i, i < n → pos i < t + 1 → pos i < t ∨ i = q t := by
      intro i h h2
      by_cases e : pos i = t
      · right; rw [← e]; exact (hp i h).2.symm
      · left; omega
    have hsl : ∀ j, j < n → kd j = 1 → sq_sl kd vr j < 6 := by
      intro j hj h1
      show (if kd j = 1 then sq_cn (sq_ll kd) j else 6 + vr j) < 6
      rw [if_pos h1]
      have := sq_cn_le (sq_ll kd) j
      omega
    rw [sq_fx_s]
    generalize hg : q t = g at *
    have hk := hk3 g
    by_cases c2 : kd g = 2
    · rw [if_pos c2]
      refine ⟨fun x => ?_, fun j hj h1 hjt => ?_, fun k hk6 hz => iz k hk6 (fun j a b c d => hz j a b c (by omega))⟩
      · obtain ⟨o, ho, e⟩ := im x
        refine ⟨o, ?_, e⟩
        cases o with
        | none =>
          intro i a b c d
          rcases hs1 i a d with z | z
          · exact ho i a b c z
          · rw [z, c2] at b; omega
        | some s =>
          obtain ⟨a1, a2, a3, a4, a5⟩ := ho
          refine ⟨a1, a2, a3, by omega, fun i a b c d => ?_⟩
          rcases hs1 i a d with z | z
          · exact a5 i a b c z
          · rw [z, c2] at b; omega
      · rcases hs1 j hj hjt with z | z
        · exact il j hj h1 z
        · rw [z, c2] at h1; omega
    · rw [if_neg c2]
      by_cases c0 : kd g = 0
      · have esl : sq_sl kd vr g = 6 + vr g := by
          show (if kd g = 1 then _ else _) = _
          rw [if_neg (by omega)]
        rw [if_pos c0, esl]
        refine ⟨fun x => ?_, fun j hj h1 hjt => ?_, fun k hk6 hz => ?_⟩
        · by_cases ex : x = vr g
          · refine ⟨some g, ⟨hi, c0, ex.symm, by omega, fun i a b c d => by omega⟩, ?_⟩
            rw [ex, sq_up_s]; rfl
          · obtain ⟨o, ho, e⟩ := im x
            refine ⟨o, ?_, ?_⟩
            · cases o with
              | none =>
                intro i a b c d
                rcases hs1 i a d with z | z
                · exact ho i a b c z
                · rw [z] at c; exact ex c.symm
              | some s =>
                obtain ⟨a1, a2, a3, a4, a5⟩ := ho
                refine ⟨a1, a2, a3, by omega, fun i a b c d => ?_⟩
                rcases hs1 i a d with z | z
                · exact a5 i a b c z
                · rw [z] at c; exact absurd c.symm ex
            · rw [sq_up_n _ _ (by omega)]; exact e
        · rcases hs1 j hj hjt with z | z
          · obtain ⟨o, ho, e⟩ := il j hj h1 z
            have h6 := hsl j hj h1
            exact ⟨o, ho, by rw [sq_up_n _ _ (by omega)]; exact e⟩
          · rw [z, c0] at h1; omega
        · rw [sq_up_n _ _ (by omega)]
          exact iz k hk6 (fun j a b c d => hz j a b c (by omega))
      · have c1 : kd g = 1 := by omega
        have esl : sq_sl kd vr g = sq_cn (sq_ll kd) g := if_pos c1
        have h6 := hsl g hi c1
        rw [if_neg c0]
        refine ⟨fun x => ?_, fun j hj h1 hjt => ?_, fun k hk6 hz => ?_⟩
        · obtain ⟨o, ho, e⟩ := im x
          refine ⟨o, ?_, ?_⟩
          · cases o with
            | none =>
              intro i a b c d
              rcases hs1 i a d with z | z
              · exact ho i a b c z
              · rw [z] at b; omega
            | some s =>
              obtain ⟨a1, a2, a3, a4, a5⟩ := ho
              refine ⟨a1, a2, a3, by omega, fun i a b c d => ?_⟩
              rcases hs1 i a d with z | z
              · exact a5 i a b c z
              · rw [z] at b; omega
          · rw [sq_up_n _ _ (by omega)]; exact e
        · by_cases ej : j = g
          · subst ej
            rw [sq_up_s]
            obtain ⟨o, ho, e⟩ := im (vr j)
            rw [e]
            rcases sq_fb_sp ow kd vr vl (sq_dn q t) j (sq_vo vl o) j with ⟨s, hs, ⟨m1, m2, m3, m4⟩, hl, ev⟩ | ⟨hl, ev⟩
            · refine ⟨some s, ⟨by omega, m2, m3, Or.inl ⟨hs, m1, ?_, ?_⟩⟩, ev⟩
              · have h1 : ¬ pos s < t := fun z => by
                  have := (hdn s (by omega)).mpr z
                  rw [m4] at this
                  exact absurd this (by decide)
                have h2 : pos s ≠ t := fun z => by
                  have := (hp s (by omega)).2
                  rw [z, hg] at this
                  omega
                omega
              · intro i ⟨o1, o2, o3, o4⟩ hsi
                have h1 := hl i hsi o1
                cases hd : sq_dn q t i
                · exact absurd ⟨o4, o2, o3, hd⟩ h1
                · rw [ei]; exact (hdn i (by omega)).mp hd
            · have hown : ∀ i, sq_own ow kd vr j i → pos i < pos j := by
                intro i ⟨o1, o2, o3, o4⟩
                have h1 := hl i o1
                cases hd : sq_dn q t i
                · exact absurd ⟨o4, o2, o3, hd⟩ h1
                · rw [ei]; exact (hdn i (by omega)).mp hd
              refine ⟨o, ?_, ev⟩
              cases o with
              | none =>
                refine ⟨fun i a b c => ?_, hown⟩
                rw [ei]; exact ho i a b c
              | some s =>
                obtain ⟨a1, a2, a3, a4, a5⟩ := ho
                refine ⟨a1, a2, a3, Or.inr ⟨by rw [ei]; exact a4, hown, fun i a b c d => a5 i a b c (by rw [ei] at d; exact d)⟩⟩
          · rcases hs1 j hj hjt with z | z
            · obtain ⟨o, ho, e⟩ := il j hj h1 z
              refine ⟨o, ho, ?_⟩
              rw [sq_up_n]
              · exact e
              · intro z2
                have z3 : sq_sl kd vr j = sq_cn (sq_ll kd) j := if_pos h1
                rw [z3, esl] at z2
                exact ej (sq_cn_inj (p := sq_ll kd) (decide_eq_true h1) (decide_eq_true c1) z2)
            · exact absurd z ej
        · have hne : k ≠ sq_sl kd vr g := fun z => hz g hi c1 z.symm (by omega)
          rw [sq_up_n _ _ hne]
          exact iz k hk6 (fun j a b c d => hz j a b c (by omega))
theorem sq_src_uniq {n : Nat} {ow kd vr pos : Nat → Nat} {j : Nat} (hj : j < n) (hinj : ∀ a b, a < n → b < n → pos a = pos b → a = b) {o1 o2 : Option Nat} (h1 : sq_src n ow kd vr pos j o1) (h2 : sq_src n ow kd vr pos j o2) : o1 = o2 := by
  have key : ∀ s, sq_src n ow kd vr pos j none → sq_src n ow kd vr pos j (some s) → False := by
    intro s ⟨a1, a2⟩ ⟨b1, b2, b3, b4⟩
    rcases b4 with ⟨c1, c2, c3, c4⟩ | ⟨c1, c2, c3⟩
    · have := a2 s ⟨c1, b2, b3, c2⟩; omega
    · exact a1 s b1 b2 b3 c1
  cases o1 with
  | none =>
    cases o2 with
    | none => rfl
    | some s => exact (key s h1 h2).elim
  | some s =>
    cases o2 with
    | none => exact (key s h2 h1).elim
    | some r =>
      obtain ⟨a1, a2, a3, a4⟩ := h1
      obtain ⟨b1, b2, b3, b4⟩ := h2
      have : s = r := by
        rcases a4 with ⟨c1, c2, c3, c4⟩ | ⟨c1, c2, c3⟩
        · rcases b4 with ⟨d1, d2, d3, d4⟩ | ⟨d1, d2, d3⟩
          · rcases Nat.lt_trichotomy s r with z | z | z
            · have := c4 r ⟨d1, b2, b3, d2⟩ z; omega
            · exact z
            · have := d4 s ⟨c1, a2, a3, c2⟩ z; omega
          · have := d2 s ⟨c1, a2, a3, c2⟩; omega
        · rcases b4 with ⟨d1, d2, d3, d4⟩ | ⟨d1, d2, d3⟩
          · have := c2 r ⟨d1, b2, b3, d2⟩; omega
          · have e1 := c3 r b1 b2 b3 d1
            have e2 := d3 s a1 a2 a3 c1
            exact hinj s r a1 b1 (by omega)
      rw [this]
theorem sq_mem_uniq {n : Nat} {kd vr pos : Nat → Nat} {t x : Nat} (hinj : ∀ a b, a < n → b < n → pos a = pos b → a = b) {o1 o2 : Option Nat} (h1 : sq_mem n kd vr pos t x o1) (h2 : sq_mem n kd vr pos t x o2) : o1 = o2 := by
  cases o1 with
  | none =>
    cases o2 with
    | none => rfl
    | some s => obtain ⟨a1, a2, a3, a4, a5⟩ := h2; exact (h1 s a1 a2 a3 a4).elim
  | some s =>
    obtain ⟨a1, a2, a3, a4, a5⟩ := h1
    cases o2 with
    | none => exact (h2 s a1 a2 a3 a4).elim
    | some r =>
      obtain ⟨b1, b2, b3, b4, b5⟩ := h2
      have e1 := a5 r b1 b2 b3 b4
      have e2 := b5 s a1 a2 a3 a4
      rw [hinj s r a1 b1 (by omega)]
/-! the reference's conditions, by instructions -/
def sq_MF (n : Nat) (ow kd vr P : Nat → Nat) (j : Nat) : Option Nat → Prop
  | none => ∀ i, ¬ sq_own ow kd vr j i
  | some s => s < n ∧ kd s = 0 ∧ vr s = vr j ∧ ¬ (ow s = ow j ∧ j < s) ∧ ∀ i, sq_own ow kd vr j i → (∀ l, sq_own ow kd vr j l → l ≤ i) → P i ≤ P s
def sq_R0 (n : Nat) (ow kd : Nat → Nat) (S : Bool) (F : Nat → Bool) (a b : Nat) : Prop := a < b ∧ b < n ∧ ow a = ow b ∧ ¬ (kd a = 0 ∧ kd b = 1 ∧ S = false ∧ ∀ i, a ≤ i → i < b → F i = false ∧ kd i ≠ 2)
def sq_R (n : Nat) (ow kd vr P : Nat → Nat) (Fo : Nat → Option Nat) (S : Bool) (F : Nat → Bool) (a b : Nat) : Prop :=
  sq_R0 n ow kd S F a b ∨ (a < n ∧ b < n ∧ kd a = 0 ∧ kd b = 0 ∧ vr a = vr b ∧ P a < P b) ∨ (b < n ∧ kd b = 1 ∧ Fo b = some a ∧ (S = true ∨ ow a ≠ ow b)) ∨ (a < n ∧ kd a = 1 ∧ b < n ∧ kd b = 0 ∧ vr b = vr a ∧ ∀ s, Fo a = some s → P s < P b)
def sq_mx (n : Nat) (kd vr P : Nat → Nat) (x : Nat) : Option Nat → Prop
  | none => ∀ i, i < n → kd i = 0 → vr i ≠ x
  | some s => s < n ∧ kd s = 0 ∧ vr s = x ∧ ∀ i, i < n → kd i = 0 → vr i = x → P i ≤ P s
def sq_dg (n : Nat) (kd vr vl P : Nat → Nat) (Fo : Nat → Option Nat) (f : Nat → Nat) : Prop :=
  (∀ j, j < n → kd j = 1 → f (sq_sl kd vr j) = sq_vo vl (Fo j)) ∧ (∀ k, k < 6 → (∀ j, j < n → kd j = 1 → sq_sl kd vr j ≠ k) → f k = 0) ∧ (∀ x, x < 3 → ∃ o, sq_mx n kd vr P x o ∧ f (6 + x) = sq_vo vl o)
/-- what the reference asks of places and sources -/
def sq_ok (n : Nat) (ow kd vr : Nat → Nat) (S : Bool) (F : Nat → Bool) (P : Nat → Nat) (Fo : Nat → Option Nat) : Prop :=
  (∀ j, j < n → kd j = 1 → sq_MF n ow kd vr P j (Fo j)) ∧ ∃ pos, sq_pm n pos ∧ ∀ a b, a < n → b < n → sq_R n ow kd vr P Fo S F a b → pos a < pos b
/-- nothing is said where there is no store, no load -/
def sq_cl (n : Nat) (kd P : Nat → Nat) (Fo : Nat → Option Nat) : Prop := (∀ a, ¬ (a < n ∧ kd a = 0) → P a = 0) ∧ (∀ j, ¬ (j < n ∧ kd j = 1) → Fo j = none)
def sq_PY (n : Nat) (ow kd vr vl : Nat → Nat) (S : Bool) (F : Nat → Bool) (o : Nat) : Prop :=
  ∃ P Fo f, sq_cl n kd P Fo ∧ (∀ a, a < n → kd a = 0 → P a < sq_cn (sq_ls kd) n) ∧ (∀ a b, a < n → b < n → kd a = 0 → kd b = 0 → P a = P b → a = b) ∧ sq_ok n ow kd vr S F P Fo ∧ sq_dg n kd vr vl P Fo f ∧ o = sq_sm f 9
theorem sq_last (p : Nat → Prop) : ∀ j, (∃ i, i < j ∧ p i) → ∃ i, i < j ∧ p i ∧ ∀ l, l < j → p l → l ≤ i := by
  intro j
  induction j with
  | zero => rintro ⟨i, h, _⟩; omega
  | succ j ih =>
    rintro ⟨i, h, hp⟩
    by_cases hj : p j
    · exact ⟨j, by omega, hj, fun l hl _ => by omega⟩
    · have hij : i ≠ j := fun e => hj (e ▸ hp)
      obtain ⟨r, a, b, c⟩ := ih ⟨i, by omega, hp⟩
      refine ⟨r, by omega, b, fun l hl hpl => ?_⟩
      have : l ≠ j := fun e => hj (e ▸ hpl)
      exact c l (by omega) hpl
theorem sq_pm_inj {n : Nat} {pos : Nat → Nat} (h : sq_pm n pos) : ∀ a b, a < n → b < n → pos a = pos b → a = b := by
  intro a b ha hb e
  rcases Nat.lt_trichotomy a b with z | z | z
  · exact absurd e (sq_pm_ne h z hb)
  · exact z
  · exact absurd e.symm (sq_pm_ne h z ha)
theorem sq_back {n : Nat} {ow kd vr P pos : Nat → Nat} {Fo : Nat → Option Nat} {S : Bool} {F : Nat → Bool} (hm : sq_pm n pos) (hP : ∀ a b, a < n → b < n → kd a = 0 → kd b = 0 → P a = P b → a = b) (hR : ∀ a b, a < n → b < n → sq_R n ow kd vr P Fo S F a b → pos a < pos b) {j : Nat} (hj : j < n) (h1 : kd j = 1) (hF : sq_MF n ow kd vr P j (Fo j)) : sq_src n ow kd vr pos j (Fo j) := by
  have hinj := sq_pm_inj hm
  have hss : ∀ a b, a < b → b < n → ow a = ow b → kd b = 0 → pos a < pos b := by
    intro a b x1 x2 x3 x4
    exact hR a b (by omega) x2 (Or.inl ⟨x1, x2, x3, fun z => by omega⟩)
  have hco : ∀ a b, a < n → b < n → kd a = 0 → kd b = 0 → vr a = vr b → P a < P b → pos a < pos b := by
    intro a b x1 x2 x3 x4 x5 x6
    exact hR a b x1 x2 (Or.inr (Or.inl ⟨x1, x2, x3, x4, x5, x6⟩))
  have hfr : ∀ b, b < n → kd b = 0 → vr b = vr j → (∀ s, Fo j = some s → P s < P b) → pos j < pos b := by
    intro b x1 x2 x3 x4
    exact hR j b hj x1 (Or.inr (Or.inr (Or.inr ⟨hj, h1, x1, x2, x3, x4⟩)))
  cases hf : Fo j with
  | none =>
    rw [hf] at hF
    refine ⟨fun i a b c d => ?_, fun i z => absurd z (hF i)⟩
    have := hfr i a b c (fun s z => by rw [hf] at z; exact absurd z (by simp))
    omega
  | some s =>
    rw [hf] at hF
    obtain ⟨f1, f2, f3, f4, f5⟩ := hF
    have hmax : ∀ i, i < n → kd i = 0 → vr i = vr j → pos i < pos j → pos i ≤ pos s := by
      intro i a b c d
      rcases Nat.lt_trichotomy (P i) (P s) with z | z | z
      · exact Nat.le_of_lt (hco i s a f1 b f2 (by omega) z)
      · rw [hP i s a f1 b f2 z]; exact Nat.le_refl _
      · have := hfr i a b c (fun r hr => by
          have e := hf.symm.trans hr
          injection e with e'
          rw [← e']; exact z)
        omega
    have hsj : s ≠ j := fun e => by rw [e] at f2; omega
    refine ⟨f1, f2, f3, ?_⟩
    by_cases ho : ow s = ow j
    · have hs : s < j := by
        have : ¬ j < s := fun z => f4 ⟨ho, z⟩
        omega
      have own_s : sq_own ow kd vr j s := ⟨hs, f2, f3, ho⟩
      obtain ⟨l, l1, l2, l3⟩ := sq_last (sq_own ow kd vr j) j ⟨s, hs, own_s⟩
      have l4 : ∀ i, sq_own ow kd vr j i → i ≤ l := fun i hi => l3 i hi.1 hi
      have l5 := f5 l l2 l4
      have l6 := l4 s own_s
      have e : s = l := by
        rcases Nat.lt_or_ge s l with z | z
        · have p1 := hss s l z (by omega) (by rw [ho, l2.2.2.2]) l2.2.1
          rcases Nat.lt_or_ge (P l) (P s) with y | y
          · have := hco l s (by omega) f1 l2.2.1 f2 (by rw [l2.2.2.1, f3]) y
            omega
          · exact hP s l f1 (by omega) f2 l2.2.1 (by omega)
        · omega
      rcases Nat.lt_trichotomy (pos s) (pos j) with z | z | z
      · right
        refine ⟨z, fun i hi => ?_, hmax⟩
        have h2 := l4 i hi
        by_cases ei : i = s
        · rw [ei]; exact z
        · have := hss i s (by omega) f1 (by rw [hi.2.2.2, ho]) f2
          omega
      · exact absurd (hinj s j f1 hj z) hsj
      · left
        refine ⟨hs, ho, z, fun i hi hsi => ?_⟩
        have := l4 i hi
        omega
    · right
      have hrf : pos s < pos j := hR s j f1 hj (Or.inr (Or.inr (Or.inl ⟨hj, h1, hf, Or.inr ho⟩)))
      refine ⟨hrf, fun i hi => ?_, hmax⟩
      obtain ⟨l, l1, l2, l3⟩ := sq_last (sq_own ow kd vr j) j ⟨i, hi.1, hi⟩
      have l4 : ∀ i, sq_own ow kd vr j i → i ≤ l := fun i hi => l3 i hi.1 hi
      have l5 := f5 l l2 l4
      have hls : l ≠ s := fun e => ho (by rw [← e]; exact l2.2.2.2)
      have l7 : P l ≠ P s := fun e => hls (hP l s (by omega) f1 l2.2.1 f2 e)
      have l6 := hco l s (by omega) f1 l2.2.1 f2 (by rw [l2.2.2.1, f3]) (by omega)
      have l8 := l4 i hi
      by_cases ei : i = l
      · rw [ei]; omega
      · have := hss i l (by omega) (by omega) (by rw [hi.2.2.2, l2.2.2.2]) l2.2.1
        omega
theorem sq_forw {n : Nat} {ow kd vr P pos : Nat → Nat} {Fo : Nat → Option Nat} {S : Bool} {F : Nat → Bool} (hk3 : ∀ i, kd i < 3) (hm : sq_pm n pos) (hPo : ∀ a b, a < n → b < n → kd a = 0 → kd b = 0 → (P a < P b ↔ pos a < pos b)) (hR0 : ∀ a b, sq_R0 n ow kd S F a b → pos a < pos b) (hs : ∀ j, j < n → kd j = 1 → sq_src n ow kd vr pos j (Fo j)) : sq_ok n ow kd vr S F P Fo := by
  have hinj := sq_pm_inj hm
  have hss : ∀ a b, a < b → b < n → ow a = ow b → (kd a ≠ 0 ∨ kd b ≠ 1 ∨ S = true) → pos a < pos b := by
    intro a b x1 x2 x3 x4
    refine hR0 a b ⟨x1, x2, x3, fun z => ?_⟩
    rcases x4 with y | y | y
    · exact y z.1
    · exact y z.2.1
    · rw [y] at z; exact absurd z.2.2.1 (by decide)
  refine ⟨?_, pos, hm, ?_⟩
  · intro j hj h1
    have h := hs j hj h1
    cases hf : Fo j with
    | none =>
      rw [hf] at h
      intro i hi
      exact h.1 i (by have := hi.1; omega) hi.2.1 hi.2.2.1 (h.2 i hi)
    | some s =>
      rw [hf] at h
      obtain ⟨f1, f2, f3, f4⟩ := h
      refine ⟨f1, f2, f3, ?_, ?_⟩
      · rintro ⟨y1, y2⟩
        have := hss j s y2 f1 y1.symm (Or.inl (by omega))
        rcases f4 with ⟨c1, _⟩ | ⟨c1, _⟩ <;> omega
      · intro i hi _
        have hle : pos i ≤ pos s := by
          rcases f4 with ⟨c1, c2, c3, c4⟩ | ⟨c1, c2, c3⟩
          · rcases Nat.lt_trichotomy i s with z | z | z
            · exact Nat.le_of_lt (hss i s z f1 (by rw [hi.2.2.2, c2]) (Or.inr (Or.inl (by omega))))
            · rw [z]; exact Nat.le_refl _
            · have := c4 i hi z; omega
          · exact c3 i (by have := hi.1; omega) hi.2.1 hi.2.2.1 (c2 i hi)
        have := hPo s i f1 (by have := hi.1; omega) f2 hi.2.1
        omega
  · intro a b ha hb hr
    rcases hr with h | ⟨_, _, x3, x4, x5, x6⟩ | ⟨_, x2, x3, x4⟩ | ⟨_, x2, _, x4, x5, x6⟩
    · exact hR0 a b h
    · exact (hPo a b ha hb x3 x4).mp x6
    · have h := hs b hb x2
      rw [x3] at h
      obtain ⟨f1, f2, f3, f4⟩ := h
      rcases f4 with ⟨c1, c2, c3, c4⟩ | ⟨c1, c2, c3⟩
      · rcases x4 with y | y
        · exact hss a b c1 hb c2 (Or.inr (Or.inr y))
        · exact absurd c2 y
      · exact c1
    · have h := hs a ha x2
      have hne : pos a ≠ pos b := fun e => by
        have := hinj a b ha hb e
        rw [this] at x2; omega
      cases hf : Fo a with
      | none =>
        rw [hf] at h
        have := h.1 b hb x4 x5
        omega
      | some s =>
        rw [hf] at h
        obtain ⟨f1, f2, f3, f4⟩ := h
        have h3 := (hPo s b f1 hb f2 x4).mp (x6 s hf)
        rcases f4 with ⟨c1, c2, c3, c4⟩ | ⟨c1, c2, c3⟩
        · omega
        · rcases Nat.lt_or_ge (pos b) (pos a) with z | z
          · have := c3 b hb x4 x5 z; omega
          · omega
theorem sq_same {n : Nat} {ow kd vr vl P q pos f : Nat → Nat} {Fo : Nat → Option Nat} (hn : n ≤ 6) (hk3 : ∀ i, kd i < 3) (hm : sq_pm n q) (hp : ∀ i, i < n → pos i < n ∧ q (pos i) = i) (hq : ∀ t, t < n → pos (q t) = t) (hinj : ∀ a b, a < n → b < n → pos a = pos b → a = b)
    (hPo : ∀ a b, a < n → b < n → kd a = 0 → kd b = 0 → vr a = vr b → pos a < pos b → P a < P b) (hs : ∀ j, j < n → kd j = 1 → sq_src n ow kd vr pos j (Fo j)) (hd : sq_dg n kd vr vl P Fo f) : ∀ d, d < 9 → sq_fx ow kd vr vl q n d = f d := by
  obtain ⟨dm, dl, dz⟩ := sq_dig (ow := ow) (vr := vr) (vl := vl) hn hk3 hm hp hq n (Nat.le_refl _)
  obtain ⟨g1, g2, g3⟩ := hd
  intro d h9
  by_cases h6 : d < 6
  · by_cases hx : ∃ j, j < n ∧ kd j = 1 ∧ sq_sl kd vr j = d
    · obtain ⟨j, hj, h1, e⟩ := hx
      obtain ⟨o, ho, eo⟩ := dl j hj h1 (hp j hj).1
      have := sq_src_uniq hj hinj ho (hs j hj h1)
      rw [← e, eo, g1 j hj h1, this]
    · have hx' : ∀ j, j < n → kd j = 1 → sq_sl kd vr j ≠ d := fun j a b c => hx ⟨j, a, b, c⟩
      rw [dz d h6 (fun j a b c => absurd c (hx' j a b)), g2 d h6 hx']
  · have ed : d = 6 + (d - 6) := by omega
    rw [ed]
    generalize hx : d - 6 = x
    obtain ⟨o, ho, eo⟩ := dm x
    obtain ⟨o', ho', eo'⟩ := g3 x (by omega)
    have : sq_mem n kd vr pos n x o' := by
      cases o' with
      | none => exact fun i a b c => absurd c (ho' i a b)
      | some s =>
        obtain ⟨b1, b2, b3, b4⟩ := ho'
        refine ⟨b1, b2, b3, (hp s b1).1, fun i a b c _ => ?_⟩
        rcases Nat.lt_or_ge (pos s) (pos i) with z | z
        · have h2 := hPo s i b1 a b2 b (by rw [b3, c]) z
          have h3 := b4 i a b c
          omega
        · exact z
    rw [eo, eo', sq_mem_uniq hinj ho this]
theorem sq_bridge {n : Nat} {ow kd vr vl : Nat → Nat} (hW : sq_W n ow kd vr vl) {S : Bool} {F X : Nat → Bool} (hX : (S = true ∧ ∀ b, b < 5 → X b = true) ∨ (S = false ∧ ∀ b, b < 5 → X b = F b)) : ∀ o, sq_PX n ow kd vr vl X o ↔ sq_PY n ow kd vr vl S F o := by
  obtain ⟨hn, _, hk3, hv3, _, hso⟩ := hW
  intro o
  constructor
  · rintro ⟨q, hm, hva, eo⟩
    obtain ⟨pos, hpm, hqp, hpq⟩ := sq_pm_inv hm
    have hp : ∀ i, i < n → pos i < n ∧ q (pos i) = i := fun i hi => ⟨(hpm i hi).1, hqp i hi⟩
    have hinj := sq_pm_inj hpm
    have hE : ∀ i j, j < n → sq_E ow kd X i j → pos i < pos j := by
      intro i j hj h
      have h1 := hva (pos j) (hp j hj).1 i (by rw [(hp j hj).2]; exact h)
      obtain ⟨s, hs, e⟩ := (sq_dn_iff q (pos j) i).mp h1
      have := (hp j hj).1
      rw [← e, hpq s (by omega)]
      exact hs
    have hR0 : ∀ a b, sq_R0 n ow kd S F a b → pos a < pos b := by
      intro a b ⟨x1, x2, x3, x4⟩
      by_cases c : kd a ≠ 0 ∨ kd b ≠ 1
      · refine hE a b x2 ⟨x1, x3, ?_⟩
        rcases c with y | y
        · exact Or.inl y
        · exact Or.inr (Or.inl y)
      · have ca : kd a = 0 := by omega
        have cb : kd b = 1 := by omega
        rcases hX with ⟨hS, hb⟩ | ⟨hS, hb⟩
        · exact hE a b x2 ⟨x1, x3, Or.inr (Or.inr ⟨a, by omega, x1, hb a (by omega)⟩)⟩
        · by_cases hz : ∃ i, a ≤ i ∧ i < b ∧ X i = true
          · exact hE a b x2 ⟨x1, x3, Or.inr (Or.inr hz)⟩
          · have hy : ∃ i, a ≤ i ∧ i < b ∧ kd i = 2 := by
              refine Classical.byContradiction fun hno => x4 ⟨ca, cb, hS, fun i y1 y2 => ⟨?_, ?_⟩⟩
              · cases hf : F i
                · rfl
                · exact absurd ⟨i, y1, y2, by rw [hb i (by omega)]; exact hf⟩ hz
              · exact fun e => hno ⟨i, y1, y2, e⟩
            obtain ⟨i, y1, y2, y3⟩ := hy
            have hai : a ≠ i := fun e => by rw [e] at ca; omega
            have o1 := hso a i (by omega) (by omega)
            have o2 := hso i b y2 x2
            have p1 := hE a i (by omega) ⟨by omega, by omega, Or.inr (Or.inl (by omega))⟩
            have p2 := hE i b x2 ⟨y2, by omega, Or.inl (by omega)⟩
            omega
    obtain ⟨dm, dl, dz⟩ := sq_dig (ow := ow) (vr := vr) (vl := vl) hn hk3 hm hp hpq n (Nat.le_refl _)
    have hch : ∀ j, ∃ o, (j < n → kd j = 1 → sq_src n ow kd vr pos j o ∧ sq_fx ow kd vr vl q n (sq_sl kd vr j) = sq_vo vl o) ∧ (¬ (j < n ∧ kd j = 1) → o = none) := by
      intro j
      by_cases c : j < n ∧ kd j = 1
      · obtain ⟨o, h⟩ := dl j c.1 c.2 (hp j c.1).1
        exact ⟨o, fun _ _ => h, fun z => absurd c z⟩
      · exact ⟨none, fun a b => absurd ⟨a, b⟩ c, fun _ => rfl⟩
    have hFo := fun j => (Classical.choose_spec (hch j)).1
    have hFc := fun j => (Classical.choose_spec (hch j)).2
    have hrk := sq_rank (N := n) (key := pos) (p := sq_ls kd) (fun i j a b _ _ e => hinj i j a b e)
    have hls : ∀ a, kd a = 0 → sq_ls kd a = true := fun a h => decide_eq_true h
    obtain ⟨P, hPc, hPv⟩ : ∃ P : Nat → Nat, (∀ a, ¬ (a < n ∧ kd a = 0) → P a = 0) ∧ ∀ a, a < n → kd a = 0 → P a = sq_cn (fun j => sq_ls kd j && decide (pos j < pos a)) n :=
      ⟨fun a => if a < n ∧ kd a = 0 then sq_cn (fun j => sq_ls kd j && decide (pos j < pos a)) n else 0, fun a h => if_neg h, fun a x y => if_pos ⟨x, y⟩⟩
    have hPo : ∀ a b, a < n → b < n → kd a = 0 → kd b = 0 → (P a < P b ↔ pos a < pos b) := by
      intro a b x y z w
      rw [hPv a x z, hPv b y w]
      exact hrk.2 a b x y (hls a z) (hls b w)
    have hPi : ∀ a b, a < n → b < n → kd a = 0 → kd b = 0 → P a = P b → a = b := by
      intro a b x y z w e
      have h1 := hPo a b x y z w
      have h2 := hPo b a y x w z
      exact hinj a b x y (by omega)
    refine ⟨P, fun j => Classical.choose (hch j), sq_fx ow kd vr vl q n, ⟨hPc, hFc⟩, fun a x y => by rw [hPv a x y]; exact hrk.1 a x (hls a y), hPi, ?_, ⟨fun j x y => (hFo j x y).2, fun k hk hz => dz k hk (fun j x y z => absurd z (hz j x y)), fun x hx => ?_⟩, eo⟩
    · exact sq_forw hk3 hpm hPo hR0 (fun j x y => (hFo j x y).1)
    · obtain ⟨o, ho, e⟩ := dm x
      refine ⟨o, ?_, e⟩
      cases o with
      | none => exact fun i a b c => ho i a b c (hp i a).1
      | some s =>
        obtain ⟨b1, b2, b3, b4, b5⟩ := ho
        refine ⟨b1, b2, b3, fun i a b c => ?_⟩
        have h1 := b5 i a b c (hp i a).1
        have h2 := hPo s i b1 a b2 b
        omega
  · rintro ⟨P, Fo, f, _, hP1, hP2, ⟨hMF, pos, hpm, hR⟩, hd, eo⟩
    obtain ⟨q, hm, hpq, hqp⟩ := sq_pm_inv hpm
    have hp : ∀ i, i < n → pos i < n ∧ q (pos i) = i := fun i hi => ⟨(hpm i hi).1, hqp i hi⟩
    have hinj := sq_pm_inj hpm
    refine ⟨q, hm, ?_, ?_⟩
    · intro t ht i hE
      have hqt := (hm t ht).1
      obtain ⟨x1, x2, x3⟩ := hE
      have h1 : pos i < pos (q t) := by
        refine hR i (q t) (by omega) hqt (Or.inl ⟨x1, hqt, x2, fun z => ?_⟩)
        rcases x3 with y | y | ⟨b, y1, y2, y3⟩
        · exact y z.1
        · exact y z.2.1
        · rcases hX with ⟨hS, _⟩ | ⟨hS, hb⟩
          · rw [hS] at z; exact absurd z.2.2.1 (by decide)
          · have h2 := (z.2.2.2 b y1 y2).1
            rw [hb b (by omega), h2] at y3
            exact absurd y3 (by decide)
      rw [hpq t ht] at h1
      exact (sq_dn_iff q t i).mpr ⟨pos i, h1, (hp i (by omega)).2⟩
    · rw [eo]
      apply sq_sm_ext
      intro d hd9
      refine (sq_same hn hk3 hm hp hpq hinj ?_ (fun j x y => sq_back hpm hP2 hR x y (hMF j x y)) hd d hd9).symm
      intro a b x y z w v h
      rcases Nat.lt_trichotomy (P a) (P b) with c | c | c
      · exact c
      · have := hP2 a b x y z w c
        rw [this] at h; omega
      · have := hR b a y x (Or.inr (Or.inl ⟨y, x, w, z, v.symm, c⟩))
        omega
end
section
/-! the component: append and drop -/
theorem sq_cpy (f : Nat → Nat) {a b : Nat} (ha : a < 2 ^ 31) (hb : b < 2 ^ 31) : upd (sq_nA f) (nI b).toNatClampNeg (sq_nA f (nI a).toNatClampNeg) = sq_nA (sq_up f b (f a)) := by
  rw [sq_at f ha, nI_clamp hb, sq_upd]
theorem sq_sto (f : Nat → Nat) {b : Nat} (v : Nat) (hb : b < 2 ^ 31) : upd (sq_nA f) (nI b).toNatClampNeg (nI v) = sq_nA (sq_up f b v) := by
  rw [nI_clamp hb, sq_upd]
/-- f while the instruction at d goes and the copying stands at i -/
def sq_pd (f : Nat → Nat) (d i : Nat) : Nat → Nat := fun j => if d ≤ j ∧ j < i then f (j + 1) else f j
theorem sq_pd_0 (f : Nat → Nat) (d : Nat) : sq_pd f d d = f := by
  funext j
  show (if d ≤ j ∧ j < d then f (j + 1) else f j) = f j
  rw [if_neg (by omega)]
theorem sq_pd_s (f : Nat → Nat) {d i : Nat} (h : d ≤ i) : sq_up (sq_pd f d i) i (sq_pd f d i (i + 1)) = sq_pd f d (i + 1) := by
  have e0 : sq_pd f d i (i + 1) = f (i + 1) := by show (if _ then _ else _) = _; rw [if_neg (by omega)]
  funext j
  rw [e0]
  show (if j = i then f (i + 1) else (if d ≤ j ∧ j < i then f (j + 1) else f j)) = (if d ≤ j ∧ j < i + 1 then f (j + 1) else f j)
  by_cases e : j = i
  · rw [if_pos e, if_pos (by omega), e]
  · rw [if_neg e]
    by_cases h2 : d ≤ j ∧ j < i
    · rw [if_pos h2, if_pos (by omega)]
    · rw [if_neg h2, if_neg (by omega)]
theorem sq_pd_c {p : Nat → Nat} {t d : Nat} (hd : p d = t) {n : Nat} : ∀ m, m ≤ n → (m ≤ d → sq_cn (fun i => decide (sq_pd p d n i = t)) m = sq_cn (fun i => decide (p i = t)) m) ∧ (d ≤ m → sq_cn (fun i => decide (sq_pd p d n i = t)) m + 1 = sq_cn (fun i => decide (p i = t)) (m + 1)) := by
  have v1 : ∀ j, j < d → sq_pd p d n j = p j := by
    intro j hj
    show (if d ≤ j ∧ j < n then p (j + 1) else p j) = _
    rw [if_neg (by omega)]
  have v2 : ∀ j, d ≤ j → j < n → sq_pd p d n j = p (j + 1) := fun j hj h2 => if_pos ⟨hj, h2⟩
  have a1 : ∀ m, m ≤ d → sq_cn (fun i => decide (sq_pd p d n i = t)) m = sq_cn (fun i => decide (p i = t)) m := by
    intro m hm
    exact sq_cn_ext (fun i hi => by rw [v1 i (by omega)])
  intro m hmn
  refine ⟨a1 m, ?_⟩
  induction m with
  | zero =>
    intro h
    rw [sq_cn_t (p := fun i => decide (p i = t)) (n := 0) (decide_eq_true (by rw [← hd]; congr 1; omega))]
    rfl
  | succ m ih =>
    intro h
    by_cases e : d = m + 1
    · rw [sq_cn_t (p := fun i => decide (p i = t)) (n := m + 1) (decide_eq_true (by rw [← hd, e])), a1 (m + 1) (by omega)]
    · have h1 := ih (by omega) (by omega)
      rw [sq_cn_s, sq_cn_s (fun i => decide (p i = t)) (m + 1), ← h1, v2 m (by omega) (by omega)]
      omega
section
variable {n : Nat} {ow kd vr vl : Nat → Nat} {f_explored f_loadCount f_orderCount f_lateCount f_strictCount : Int32} {a_lateSet a_strictSet a_place a_earlier : Nat → Int32}
theorem sq_xEnd {t e : Nat} (hn : n ≤ 6) (ht : t < 4) (hw : ∀ i, ow i < 4) (he : e ≤ n) (hlo : ∀ i, i < e → ow i ≤ t) (hhi : ∀ i, e ≤ i → i < n → t < ow i) {post : Int32 → Prop} (h : post (nI e)) : wpX_endOf post ((nI n), f_explored, f_loadCount, f_orderCount, f_lateCount, f_strictCount, (sq_nA ow), (sq_nA kd), (sq_nA vr), (sq_nA vl), a_lateSet, a_strictSet, a_place, a_earlier) (nI t) := by
  have key : ∀ N i m, n - i < N → i ≤ n → m = (if i ≤ e then i else e) → wX_endOf_4 post (nI t) (nI n) f_explored f_loadCount f_orderCount f_lateCount f_strictCount (sq_nA ow) (sq_nA kd) (sq_nA vr) (sq_nA vl) a_lateSet a_strictSet a_place a_earlier N (nI m) (nI i) := by
    intro N
    induction N with
    | zero => intro i m h1; omega
    | succ N ih =>
      intro i m h1 h2 hm
      have hwi := hw i
      refine pk_le n i (fun h3 => ?_) (fun h3 => ⟨pk_in i 6 (by omega), pk_lt t (ow i) (fun h4 => nm_r (nI_1 i) (ih (i + 1) m (by omega) (by omega) ?_)) (fun h4 => nm_r (nI_1 i) (nm_r (nI_1 i) (ih (i + 1) (i + 1) (by omega) (by omega) ?_))) rfl (sq_at ow (by omega)) (by omega) (by omega)⟩)
      · have : m = e := by
          rw [hm]; split <;> omega
        rw [this]; exact h
      · have h5 : ¬ i < e := fun z => by have := hlo i z; omega
        rw [hm, if_neg (by omega : ¬ i + 1 ≤ e)]
        split <;> omega
      · have h5 : i < e := by
          rcases Nat.lt_or_ge i e with z | z
          · exact z
          · have := hhi i z h3; omega
        rw [if_pos (by omega)]
  exact Exists.intro (n + 1) (key (n + 1) 0 0 (by omega) (by omega) (by rw [if_pos (Nat.zero_le _)]))
theorem sq_xIns {t : Nat} (hn : n ≤ 6) (ht : t < 4) (hw : ∀ i, ow i < 4) {post : Int32 → Prop} (h : post (nI (sq_cn (fun i => decide (ow i = t)) n))) : wpX_instructionsOf post ((nI n), f_explored, f_loadCount, f_orderCount, f_lateCount, f_strictCount, (sq_nA ow), (sq_nA kd), (sq_nA vr), (sq_nA vl), a_lateSet, a_strictSet, a_place, a_earlier) (nI t) := by
  have key : ∀ N i, n - i < N → i ≤ n → wX_instructionsOf_4 post (nI t) (nI n) f_explored f_loadCount f_orderCount f_lateCount f_strictCount (sq_nA ow) (sq_nA kd) (sq_nA vr) (sq_nA vl) a_lateSet a_strictSet a_place a_earlier N (nI (sq_cn (fun i => decide (ow i = t)) i)) (nI i) := by
    intro N
    induction N with
    | zero => intro i h1; omega
    | succ N ih =>
      intro i h1 h2
      have hwi := hw i
      refine pk_le n i (fun h3 => ?_) (fun h3 => ⟨pk_in i 6 (by omega), pk_eq (ow i) t (fun h4 => nm_r ?_ (nm_r (nI_1 i) (ih (i + 1) (by omega) (by omega)))) (fun h4 => nm_r (nI_1 i) ?_) (sq_at ow (by omega)) rfl (by omega) (by omega)⟩)
      · have : i = n := by omega
        rw [this]; exact h
      · rw [sq_cn_t (p := fun i => decide (ow i = t)) (decide_eq_true h4), nI_1]
      · have := ih (i + 1) (by omega) (by omega)
        rw [sq_cn_f (p := fun i => decide (ow i = t)) (decide_eq_false h4)] at this
        exact this
  exact Exists.intro (n + 1) (key (n + 1) 0 (by omega) (by omega))
theorem sq_xCopyW {fl : Int32} {a b : Nat} {x y : Int32} {post : SX → Prop} (ha : a < 6) (hb : b < 6) (hx : x = nI a) (hy : y = nI b) (h : post (fl, f_explored, f_loadCount, f_orderCount, f_lateCount, f_strictCount, (sq_nA (sq_up ow b (ow a))), (sq_nA (sq_up kd b (kd a))), (sq_nA (sq_up vr b (vr a))), (sq_nA (sq_up vl b (vl a))), a_lateSet, a_strictSet, a_place, a_earlier)) : wpX_copyInstruction post (fl, f_explored, f_loadCount, f_orderCount, f_lateCount, f_strictCount, (sq_nA ow), (sq_nA kd), (sq_nA vr), (sq_nA vl), a_lateSet, a_strictSet, a_place, a_earlier) x y := by
  subst hx hy
  exact ⟨pk_in a 6 ha, pk_in b 6 hb, nm_r (sq_cpy ow (by omega) (by omega)) ⟨pk_in a 6 ha, pk_in b 6 hb, nm_r (sq_cpy kd (by omega) (by omega)) ⟨pk_in a 6 ha, pk_in b 6 hb, nm_r (sq_cpy vr (by omega) (by omega)) ⟨pk_in a 6 ha, pk_in b 6 hb, nm_r (sq_cpy vl (by omega) (by omega)) h⟩⟩⟩⟩
theorem sq_xAppL {t k x v e : Nat} (ow0 kd0 vr0 vl0 : Nat → Nat) {post : Int32 → SX → Prop} (hn : n < 6) (he : e ≤ n) (ht : t < 4) (hw : ∀ i, sq_pu ow0 n e t i < 4)
    (h : post (nI (sq_cn (fun i => decide (sq_pu ow0 n e t i = t)) (n + 1))) ((nI (n + 1)), 0, f_loadCount, f_orderCount, f_lateCount, f_strictCount, (sq_nA (sq_pu ow0 n e t)), (sq_nA (sq_pu kd0 n e k)), (sq_nA (sq_pu vr0 n e x)), (sq_nA (sq_pu vl0 n e v)), a_lateSet, a_strictSet, a_place, a_earlier)) :
    ∀ N i, i < N → e ≤ i → i ≤ n → wX_append_25 post (nI t) (nI k) (nI x) (nI v) (nI e) N (nI i) (nI n) f_explored f_loadCount f_orderCount f_lateCount f_strictCount (sq_nA (sq_ps ow0 n i)) (sq_nA (sq_ps kd0 n i)) (sq_nA (sq_ps vr0 n i)) (sq_nA (sq_ps vl0 n i)) a_lateSet a_strictSet a_place a_earlier := by
  intro N
  induction N with
  | zero => intro i h1; omega
  | succ N ih =>
    intro i h1 h2 h3
    refine pk_le i e (fun h4 => ?_) (fun h4 => ?_)
    · have ei : i = e := by omega
      subst ei
      refine ⟨pk_in i 6 (by omega), nm_r (sq_sto _ t (by omega)) ⟨pk_in i 6 (by omega), nm_r (sq_sto _ k (by omega)) ⟨pk_in i 6 (by omega), nm_r (sq_sto _ x (by omega)) ⟨pk_in i 6 (by omega), nm_r (sq_sto _ v (by omega)) (nm_r (nI_1 n) ?_)⟩⟩⟩⟩
      rw [sq_ps_e, sq_ps_e, sq_ps_e, sq_ps_e]
      exact sq_xIns (by omega) ht hw h
    · obtain ⟨j, rfl⟩ : ∃ j, i = j + 1 := ⟨i - 1, by omega⟩
      refine sq_xCopyW (a := j) (b := j + 1) (by omega) (by omega) (nI_pred j) rfl (nm_r (pk_m1 j) ?_)
      rw [sq_ps_s ow0 (by omega), sq_ps_s kd0 (by omega), sq_ps_s vr0 (by omega), sq_ps_s vl0 (by omega)]
      exact ih j (by omega) (by omega) (by omega)
theorem sq_xApp {t k x v e : Nat} {post : Int32 → SX → Prop} (hn : n < 6) (ht : t < 4) (hw : ∀ i, ow i < 4) (he : e ≤ n) (hlo : ∀ i, i < e → ow i ≤ t) (hhi : ∀ i, e ≤ i → i < n → t < ow i) (hw' : ∀ i, sq_pu ow n e t i < 4)
    (h : post (nI (sq_cn (fun i => decide (sq_pu ow n e t i = t)) (n + 1))) ((nI (n + 1)), 0, f_loadCount, f_orderCount, f_lateCount, f_strictCount, (sq_nA (sq_pu ow n e t)), (sq_nA (sq_pu kd n e k)), (sq_nA (sq_pu vr n e x)), (sq_nA (sq_pu vl n e v)), a_lateSet, a_strictSet, a_place, a_earlier)) :
    wpX_append post ((nI n), f_explored, f_loadCount, f_orderCount, f_lateCount, f_strictCount, (sq_nA ow), (sq_nA kd), (sq_nA vr), (sq_nA vl), a_lateSet, a_strictSet, a_place, a_earlier) (nI t) (nI k) (nI x) (nI v) := by
  refine pk_lt n 6 (fun _ => ?_) (fun h2 => by omega)
  refine sq_xEnd (by omega) ht hw he hlo hhi ?_
  refine Exists.intro (n + 1) ?_
  have := sq_xAppL (n := n) (f_explored := f_explored) ow kd vr vl hn he ht hw' h (n + 1) n (by omega) he (Nat.le_refl _)
  rw [sq_ps_0, sq_ps_0, sq_ps_0, sq_ps_0] at this
  exact this
theorem sq_xFull {t k x v : Int32} {post : Int32 → SX → Prop} (hn : n = 6) (h : post (-2) ((nI n), f_explored, f_loadCount, f_orderCount, f_lateCount, f_strictCount, (sq_nA ow), (sq_nA kd), (sq_nA vr), (sq_nA vl), a_lateSet, a_strictSet, a_place, a_earlier)) : wpX_append post ((nI n), f_explored, f_loadCount, f_orderCount, f_lateCount, f_strictCount, (sq_nA ow), (sq_nA kd), (sq_nA vr), (sq_nA vl), a_lateSet, a_strictSet, a_place, a_earlier) t k x v :=
  pk_lt n 6 (fun h2 => by omega) (fun _ => h)
theorem sq_xDropL {c d : Nat} (ow0 kd0 vr0 vl0 : Nat → Nat) {post : Int32 → SX → Prop} (hn : n ≤ 6) (hd : d < n)
    (h : post (nI c - 1) ((nI (n - 1)), 0, f_loadCount, f_orderCount, f_lateCount, f_strictCount, (sq_nA (sq_pd ow0 d (n - 1))), (sq_nA (sq_pd kd0 d (n - 1))), (sq_nA (sq_pd vr0 d (n - 1))), (sq_nA (sq_pd vl0 d (n - 1))), a_lateSet, a_strictSet, a_place, a_earlier)) :
    ∀ N i, n - i < N → d ≤ i → i < n → wX_drop_32 post (nI c) N (nI (i + 1)) (nI n) f_explored f_loadCount f_orderCount f_lateCount f_strictCount (sq_nA (sq_pd ow0 d i)) (sq_nA (sq_pd kd0 d i)) (sq_nA (sq_pd vr0 d i)) (sq_nA (sq_pd vl0 d i)) a_lateSet a_strictSet a_place a_earlier := by
  intro N
  induction N with
  | zero => intro i h1; omega
  | succ N ih =>
    intro i h1 h2 h3
    refine pk_le n (i + 1) (fun h4 => ?_) (fun h4 => ?_)
    · have ei : i = n - 1 := by omega
      subst ei
      have e1 : nI n - 1 = nI (n - 1) := pk_sub (a := n) (b := 1) (by omega)
      exact nm_r e1 h
    · refine sq_xCopyW (a := i + 1) (b := i) (by omega) (by omega) rfl (nI_pred i) (nm_r (nI_1 (i + 1)) ?_)
      rw [sq_pd_s ow0 h2, sq_pd_s kd0 h2, sq_pd_s vr0 h2, sq_pd_s vl0 h2]
      exact ih (i + 1) (by omega) (by omega) (by omega)
theorem sq_xDrop {t d : Nat} {post : Int32 → SX → Prop} (hn : n ≤ 6) (ht : t < 4) (hw : ∀ i, ow i < 4) (hd : d < n) (hdt : ow d = t) (hlo : ∀ i, i < d + 1 → ow i ≤ t) (hhi : ∀ i, d + 1 ≤ i → i < n → t < ow i)
    (h : post (nI (sq_cn (fun i => decide (ow i = t)) n) - 1) ((nI (n - 1)), 0, f_loadCount, f_orderCount, f_lateCount, f_strictCount, (sq_nA (sq_pd ow d (n - 1))), (sq_nA (sq_pd kd d (n - 1))), (sq_nA (sq_pd vr d (n - 1))), (sq_nA (sq_pd vl d (n - 1))), a_lateSet, a_strictSet, a_place, a_earlier)) :
    wpX_drop post ((nI n), f_explored, f_loadCount, f_orderCount, f_lateCount, f_strictCount, (sq_nA ow), (sq_nA kd), (sq_nA vr), (sq_nA vl), a_lateSet, a_strictSet, a_place, a_earlier) (nI t) := by
  have hc : 0 < sq_cn (fun i => decide (ow i = t)) n := by
    have := sq_cn_lo (p := fun i => decide (ow i = t)) (decide_eq_true hdt) hd
    omega
  have hc2 := sq_cn_le (fun i => decide (ow i = t)) n
  refine br_f (nI_pos (by omega)) (pk_le 4 t (fun h1 => by omega) (fun _ => ?_))
  refine br_f (by decide) ?_
  refine sq_xIns hn ht hw ?_
  refine br_f (nI_ne0 hc (by omega)) ?_
  refine sq_xEnd hn ht hw (e := d + 1) (by omega) hlo hhi ?_
  refine Exists.intro (n + 1) ?_
  have := sq_xDropL (n := n) (f_explored := f_explored) (d := d) ow kd vr vl hn hd h (n + 1) d (by omega) (Nat.le_refl _) hd
  rw [sq_pd_0, sq_pd_0, sq_pd_0, sq_pd_0] at this
  exact this
theorem sq_xDrop0 {t : Nat} {post : Int32 → SX → Prop} (hn : n ≤ 6) (ht : t < 4) (hw : ∀ i, ow i < 4) (hno : ∀ i, i < n → ow i ≠ t) (h : post (-4) ((nI n), f_explored, f_loadCount, f_orderCount, f_lateCount, f_strictCount, (sq_nA ow), (sq_nA kd), (sq_nA vr), (sq_nA vl), a_lateSet, a_strictSet, a_place, a_earlier)) : wpX_drop post ((nI n), f_explored, f_loadCount, f_orderCount, f_lateCount, f_strictCount, (sq_nA ow), (sq_nA kd), (sq_nA vr), (sq_nA vl), a_lateSet, a_strictSet, a_place, a_earlier) (nI t) := by
  refine br_f (nI_pos (by omega)) (pk_le 4 t (fun h1 => by omega) (fun _ => ?_))
  refine br_f (by decide) ?_
  refine sq_xIns hn ht hw ?_
  have : sq_cn (fun i => decide (ow i = t)) n = 0 := by
    rcases Nat.eq_zero_or_pos (sq_cn (fun i => decide (ow i = t)) n) with z | z
    · exact z
    · obtain ⟨i, hi, h2, _⟩ := sq_cn_at z
      exact absurd (of_decide_eq_true h2) (hno i hi)
  rw [this]
  exact br_t rfl h
end
end
section
/-! the reference: insert and drop -/
section
variable {n : Nat} {ow kd vr vl : Nat → Nat} {yf_fences yf_storeCount yf_loadCount yf_listed yf_strictListed : Int32} {ya_stores ya_loads ya_found ya_place ya_after ya_list ya_strictList : Nat → Int32}
theorem sq_yCnt {t : Nat} (hn : n ≤ 6) (ht : t < 4) (hw : ∀ i, ow i < 4) {post : Int32 → Prop} (h : post (nI (sq_cn (fun i => decide (ow i = t)) n))) : wpY_countOf post ((nI n), yf_fences, yf_storeCount, yf_loadCount, yf_listed, yf_strictListed, (sq_nA kd), (sq_nA ow), (sq_nA vr), (sq_nA vl), ya_stores, ya_loads, ya_found, ya_place, ya_after, ya_list, ya_strictList) (nI t) := by
  have key : ∀ N i, n - i < N → i ≤ n → wY_countOf_4 post (nI t) (nI n) yf_fences yf_storeCount yf_loadCount yf_listed yf_strictListed (sq_nA kd) (sq_nA ow) (sq_nA vr) (sq_nA vl) ya_stores ya_loads ya_found ya_place ya_after ya_list ya_strictList N (nI (sq_cn (fun i => decide (ow i = t)) i)) (nI i) := by
    intro N
    induction N with
    | zero => intro i h1; omega
    | succ N ih =>
      intro i h1 h2
      have hwi := hw i
      refine pk_le n i (fun h3 => ?_) (fun h3 => ⟨pk_in i 6 (by omega), pk_eq (ow i) t (fun h4 => nm_r ?_ (nm_r (nI_1 i) (ih (i + 1) (by omega) (by omega)))) (fun h4 => nm_r (nI_1 i) ?_) (sq_at ow (by omega)) rfl (by omega) (by omega)⟩)
      · have : i = n := by omega
        rw [this]; exact h
      · rw [sq_cn_t (p := fun i => decide (ow i = t)) (decide_eq_true h4), nI_1]
      · have := ih (i + 1) (by omega) (by omega)
        rw [sq_cn_f (p := fun i => decide (ow i = t)) (decide_eq_false h4)] at this
        exact this
  exact Exists.intro (n + 1) (key (n + 1) 0 (by omega) (by omega))
theorem sq_yInsL {t k x v e : Nat} (ow0 kd0 vr0 vl0 : Nat → Nat) {post : Int32 → SY → Prop} (hn : n < 6) (he : e ≤ n) (ht : t < 4) (hw : ∀ i, sq_pu ow0 n e t i < 4)
    (h : post (nI (sq_cn (fun i => decide (sq_pu ow0 n e t i = t)) (n + 1))) ((nI (n + 1)), yf_fences, yf_storeCount, yf_loadCount, yf_listed, yf_strictListed, (sq_nA (sq_pu kd0 n e k)), (sq_nA (sq_pu ow0 n e t)), (sq_nA (sq_pu vr0 n e x)), (sq_nA (sq_pu vl0 n e v)), ya_stores, ya_loads, ya_found, ya_place, ya_after, ya_list, ya_strictList)) :
    ∀ N i, i < N → e ≤ i → i ≤ n → wY_insert_47 post (nI k) (nI t) (nI x) (nI v) (nI e) (nI n) yf_fences yf_storeCount yf_loadCount yf_listed yf_strictListed N (nI i) (sq_nA (sq_ps kd0 n i)) (sq_nA (sq_ps ow0 n i)) (sq_nA (sq_ps vr0 n i)) (sq_nA (sq_ps vl0 n i)) ya_stores ya_loads ya_found ya_place ya_after ya_list ya_strictList := by
  intro N
  induction N with
  | zero => intro i h1; omega
  | succ N ih =>
    intro i h1 h2 h3
    refine pk_le i e (fun h4 => ?_) (fun h4 => ?_)
    · have ei : i = e := by omega
      subst ei
      refine ⟨pk_in i 6 (by omega), nm_r (sq_sto _ k (by omega)) ⟨pk_in i 6 (by omega), nm_r (sq_sto _ t (by omega)) ⟨pk_in i 6 (by omega), nm_r (sq_sto _ x (by omega)) ⟨pk_in i 6 (by omega), nm_r (sq_sto _ v (by omega)) (nm_r (nI_1 n) ?_)⟩⟩⟩⟩
      rw [sq_ps_e, sq_ps_e, sq_ps_e, sq_ps_e]
      exact sq_yCnt (by omega) ht hw h
    · obtain ⟨j, rfl⟩ : ∃ j, i = j + 1 := ⟨i - 1, by omega⟩
      have hp : nI (j + 1) - 1 = nI j := nI_pred j
      have cp : ∀ f : Nat → Nat, upd (sq_nA f) (nI (j + 1)).toNatClampNeg (sq_nA f (nI (j + 1) - 1).toNatClampNeg) = sq_nA (sq_up f (j + 1) (f j)) := by
        intro f
        rw [hp]; exact sq_cpy f (by omega) (by omega)
      refine ⟨pk_in j 6 (by omega) hp, pk_in (j + 1) 6 (by omega), nm_r (cp _) ⟨pk_in j 6 (by omega) hp, pk_in (j + 1) 6 (by omega), nm_r (cp _) ⟨pk_in j 6 (by omega) hp, pk_in (j + 1) 6 (by omega), nm_r (cp _) ⟨pk_in j 6 (by omega) hp, pk_in (j + 1) 6 (by omega), nm_r (cp _) (nm_r (pk_m1 j) ?_)⟩⟩⟩⟩
      rw [sq_ps_s ow0 (by omega), sq_ps_s kd0 (by omega), sq_ps_s vr0 (by omega), sq_ps_s vl0 (by omega)]
      exact ih j (by omega) (by omega) (by omega)
theorem sq_yIns {t k x v e : Nat} {post : Int32 → SY → Prop} (hn : n < 6) (ht : t < 4) (hw : ∀ i, ow i < 4) (he : e ≤ n) (hlo : ∀ i, i < e → ow i ≤ t) (hhi : ∀ i, e ≤ i → i < n → t < ow i) (hw' : ∀ i, sq_pu ow n e t i < 4)
    (h : post (nI (sq_cn (fun i => decide (sq_pu ow n e t i = t)) (n + 1))) ((nI (n + 1)), yf_fences, yf_storeCount, yf_loadCount, yf_listed, yf_strictListed, (sq_nA (sq_pu kd n e k)), (sq_nA (sq_pu ow n e t)), (sq_nA (sq_pu vr n e x)), (sq_nA (sq_pu vl n e v)), ya_stores, ya_loads, ya_found, ya_place, ya_after, ya_list, ya_strictList)) :
    wpY_insert post ((nI n), yf_fences, yf_storeCount, yf_loadCount, yf_listed, yf_strictListed, (sq_nA kd), (sq_nA ow), (sq_nA vr), (sq_nA vl), ya_stores, ya_loads, ya_found, ya_place, ya_after, ya_list, ya_strictList) (nI k) (nI t) (nI x) (nI v) := by
  have fin : ∃ N, wY_insert_47 post (nI k) (nI t) (nI x) (nI v) (nI e) (nI n) yf_fences yf_storeCount yf_loadCount yf_listed yf_strictListed N (nI n) (sq_nA kd) (sq_nA ow) (sq_nA vr) (sq_nA vl) ya_stores ya_loads ya_found ya_place ya_after ya_list ya_strictList := by
    refine ⟨n + 1, ?_⟩
    have := sq_yInsL (n := n) ow kd vr vl hn he ht hw' h (n + 1) n (by omega) he (Nat.le_refl _)
    rw [sq_ps_0, sq_ps_0, sq_ps_0, sq_ps_0] at this
    exact this
  have key : ∀ N i, e - i < N → i ≤ e → wY_insert_15 post (nI k) (nI t) (nI x) (nI v) (nI n) yf_fences yf_storeCount yf_loadCount yf_listed yf_strictListed (sq_nA kd) (sq_nA ow) (sq_nA vr) (sq_nA vl) ya_stores ya_loads ya_found ya_place ya_after ya_list ya_strictList N (nI i) := by
    intro N
    induction N with
    | zero => intro i h1; omega
    | succ N ih =>
      intro i h1 h2
      have hwi := hw i
      refine pk_le n i (fun h3 => ?_) (fun h3 => ⟨pk_in i 6 (by omega), pk_lt t (ow i) (fun h4 => ?_) (fun h4 => nm_r (nI_1 i) (ih (i + 1) ?_ ?_)) rfl (sq_at ow (by omega)) (by omega) (by omega)⟩)
      · have : i = e := by omega
        rw [this]; exact fin
      · have : i = e := by
          rcases Nat.lt_or_ge i e with z | z
          · have := hlo i z; omega
          · omega
        rw [this]; exact fin
      · have : i ≠ e := fun z => by have := hhi i (by omega) h3; omega
        omega
      · have : i ≠ e := fun z => by have := hhi i (by omega) h3; omega
        omega
  refine pk_eq n 6 (fun h2 => by omega) (fun _ => ?_)
  exact Exists.intro (e + 1) (key (e + 1) 0 (by omega) (Nat.zero_le _))
theorem sq_yFull {t k x v : Int32} {post : Int32 → SY → Prop} (hn : n = 6) (h : post (-2) ((nI n), yf_fences, yf_storeCount, yf_loadCount, yf_listed, yf_strictListed, (sq_nA kd), (sq_nA ow), (sq_nA vr), (sq_nA vl), ya_stores, ya_loads, ya_found, ya_place, ya_after, ya_list, ya_strictList)) : wpY_insert post ((nI n), yf_fences, yf_storeCount, yf_loadCount, yf_listed, yf_strictListed, (sq_nA kd), (sq_nA ow), (sq_nA vr), (sq_nA vl), ya_stores, ya_loads, ya_found, ya_place, ya_after, ya_list, ya_strictList) k t x v :=
  pk_eq n 6 (fun _ => h) (fun h2 => absurd hn h2)
theorem sq_yDropL {t d : Nat} (ow0 kd0 vr0 vl0 : Nat → Nat) {post : Int32 → SY → Prop} (hn : n ≤ 6) (ht : t < 4) (hd : d < n) (hw : ∀ i, sq_pd ow0 d (n - 1) i < 4)
    (h : post (nI (sq_cn (fun i => decide (sq_pd ow0 d (n - 1) i = t)) (n - 1))) ((nI (n - 1)), yf_fences, yf_storeCount, yf_loadCount, yf_listed, yf_strictListed, (sq_nA (sq_pd kd0 d (n - 1))), (sq_nA (sq_pd ow0 d (n - 1))), (sq_nA (sq_pd vr0 d (n - 1))), (sq_nA (sq_pd vl0 d (n - 1))), ya_stores, ya_loads, ya_found, ya_place, ya_after, ya_list, ya_strictList)) :
    ∀ N i, n - i < N → d ≤ i → i < n → wY_drop_64 post (nI t) (nI (n - 1)) yf_fences yf_storeCount yf_loadCount yf_listed yf_strictListed N (nI i) (sq_nA (sq_pd kd0 d i)) (sq_nA (sq_pd ow0 d i)) (sq_nA (sq_pd vr0 d i)) (sq_nA (sq_pd vl0 d i)) ya_stores ya_loads ya_found ya_place ya_after ya_list ya_strictList := by
  intro N
  induction N with
  | zero => intro i h1; omega
  | succ N ih =>
    intro i h1 h2 h3
    refine pk_le (n - 1) i (fun h4 => ?_) (fun h4 => ?_)
    · have ei : i = n - 1 := by omega
      subst ei
      exact sq_yCnt (by omega) ht hw h
    · have hp : nI i + 1 = nI (i + 1) := nI_1 i
      have cp : ∀ f : Nat → Nat, upd (sq_nA f) (nI i).toNatClampNeg (sq_nA f (nI i + 1).toNatClampNeg) = sq_nA (sq_up f i (f (i + 1))) := by
        intro f
        rw [hp]; exact sq_cpy f (by omega) (by omega)
      refine ⟨pk_in (i + 1) 6 (by omega) hp, pk_in i 6 (by omega), nm_r (cp _) ⟨pk_in (i + 1) 6 (by omega) hp, pk_in i 6 (by omega), nm_r (cp _) ⟨pk_in (i + 1) 6 (by omega) hp, pk_in i 6 (by omega), nm_r (cp _) ⟨pk_in (i + 1) 6 (by omega) hp, pk_in i 6 (by omega), nm_r (cp _) (nm_r hp ?_)⟩⟩⟩⟩
      rw [sq_pd_s ow0 h2, sq_pd_s kd0 h2, sq_pd_s vr0 h2, sq_pd_s vl0 h2]
      exact ih (i + 1) (by omega) (by omega) (by omega)
theorem sq_yDropS {t : Nat} {post : Int32 → SY → Prop} (hn : n ≤ 6) (ht : t < 4) (hw : ∀ i, ow i < 4) (h0 : (∀ i, i < n → ow i ≠ t) → post (-4) ((nI n), yf_fences, yf_storeCount, yf_loadCount, yf_listed, yf_strictListed, (sq_nA kd), (sq_nA ow), (sq_nA vr), (sq_nA vl), ya_stores, ya_loads, ya_found, ya_place, ya_after, ya_list, ya_strictList))
    (h1 : ∀ d, d < n → ow d = t → (∀ i, d < i → i < n → ow i ≠ t) → ∃ N, wY_drop_64 post (nI t) (nI (n - 1)) yf_fences yf_storeCount yf_loadCount yf_listed yf_strictListed N (nI d) (sq_nA kd) (sq_nA ow) (sq_nA vr) (sq_nA vl) ya_stores ya_loads ya_found ya_place ya_after ya_list ya_strictList) : wpY_drop post ((nI n), yf_fences, yf_storeCount, yf_loadCount, yf_listed, yf_strictListed, (sq_nA kd), (sq_nA ow), (sq_nA vr), (sq_nA vl), ya_stores, ya_loads, ya_found, ya_place, ya_after, ya_list, ya_strictList) (nI t) := by
  have key : ∀ N i (x : Int32), n - i < N → i ≤ n → ((x = -1 ∧ ∀ j, j < i → ow j ≠ t) ∨ ∃ d, x = nI d ∧ d < i ∧ ow d = t ∧ ∀ j, d < j → j < i → ow j ≠ t) → wY_drop_15 post (nI t) (nI n) yf_fences yf_storeCount yf_loadCount yf_listed yf_strictListed (sq_nA kd) (sq_nA ow) (sq_nA vr) (sq_nA vl) ya_stores ya_loads ya_found ya_place ya_after ya_list ya_strictList N x (nI i) := by
    intro N
    induction N with
    | zero => intro i x h1; omega
    | succ N ih =>
      intro i x h2 h3 hx
      have hwi := hw i
      refine pk_le n i (fun h4 => ?_) (fun h4 => ⟨pk_in i 6 (by omega), pk_eq (ow i) t (fun h5 => nm_r (nI_1 i) (ih (i + 1) (nI i) (by omega) (by omega) (Or.inr ⟨i, rfl, by omega, h5, fun j a b => by omega⟩))) (fun h5 => nm_r (nI_1 i) (ih (i + 1) x (by omega) (by omega) ?_)) (sq_at ow (by omega)) rfl (by omega) (by omega)⟩)
      · rcases hx with ⟨e, hx⟩ | ⟨d, e, hd, hx, hl⟩
        · subst e
          exact br_f (by decide) (h0 (fun j hj => hx j (by omega)))
        · subst e
          refine br_t (nI_pos' (by omega)) (nm_r (pk_sub (a := n) (b := 1) (by omega)) (h1 d (by omega) hx (fun j a b => hl j a (by omega))))
      · rcases hx with ⟨e, hx⟩ | ⟨d, e, hd, hx, hl⟩
        · left
          refine ⟨e, fun j hj => ?_⟩
          by_cases ej : j = i
          · rw [ej]; exact h5
          · exact hx j (by omega)
        · right
          refine ⟨d, e, by omega, hx, fun j a b => ?_⟩
          by_cases ej : j = i
          · rw [ej]; exact h5
          · exact hl j a (by omega)
  refine br_f (nI_pos (by omega)) (pk_le t 3 (fun _ => ?_) (fun h1 => by omega))
  exact Exists.intro (n + 1) (key (n + 1) 0 (-1) (by omega) (by omega) (Or.inl ⟨rfl, fun j hj => by omega⟩))
end
end
section
/-! the relation; the calls that change the program -/
def sq_XE (n : Nat) (ow kd vr vl : Nat → Nat) (f_loadCount f_orderCount f_lateCount f_strictCount : Int32) (a_lateSet a_strictSet a_place : Nat → Int32) : Prop :=
  f_loadCount = nI (sq_cn (sq_ll kd) n) ∧ f_orderCount = nI (sq_fac n) ∧ (∀ i, i < n → a_place i = nI (2 * sq_sl kd vr i)) ∧ ∃ L S la ss, f_lateCount = nI L ∧ f_strictCount = nI S ∧ a_lateSet = sq_nA la ∧ a_strictSet = sq_nA ss ∧ L ≤ 720 ∧ S ≤ 720 ∧ sq_SS la L (sq_PX n ow kd vr vl (bt 0)) ∧ sq_SS ss S (sq_PX n ow kd vr vl (bt 31))
def sq_RX (u : SX) (n : Nat) (ow kd vr vl : Nat → Nat) : Prop := ∃ f_explored f_loadCount f_orderCount f_lateCount f_strictCount a_lateSet a_strictSet a_place a_earlier, u = ((nI n), f_explored, f_loadCount, f_orderCount, f_lateCount, f_strictCount, (sq_nA ow), (sq_nA kd), (sq_nA vr), (sq_nA vl), a_lateSet, a_strictSet, a_place, a_earlier) ∧ (f_explored = 0 ∨ sq_XE n ow kd vr vl f_loadCount f_orderCount f_lateCount f_strictCount a_lateSet a_strictSet a_place)
def sq_RY (v : SY) (n : Nat) (ow kd vr vl : Nat → Nat) : Prop := ∃ yf_storeCount yf_loadCount yf_listed yf_strictListed ya_stores ya_loads ya_found ya_place ya_after ya_list ya_strictList, v = ((nI n), 0, yf_storeCount, yf_loadCount, yf_listed, yf_strictListed, (sq_nA kd), (sq_nA ow), (sq_nA vr), (sq_nA vl), ya_stores, ya_loads, ya_found, ya_place, ya_after, ya_list, ya_strictList)
def i_Rel (k : Nat) (u : SX) (v : SY) : Prop := k = k ∧ ∃ n ow kd vr vl, sq_W n ow kd vr vl ∧ sq_RX u n ow kd vr vl ∧ sq_RY v n ow kd vr vl
theorem i_up {k : Nat} {u : SX} {v : SY} (h : i_Rel k u v) : i_Rel (k + 5) u v := ⟨rfl, h.2⟩
theorem sq_W0 : sq_W 0 (fun _ => 0) (fun _ => 0) (fun _ => 0) (fun _ => 0) := ⟨by omega, fun _ => Nat.zero_lt_succ _, fun _ => Nat.zero_lt_succ _, fun _ => Nat.zero_lt_succ _, fun _ => Nat.zero_lt_succ _, fun i j _ h => by omega⟩
theorem i_vc0 : wpX_init (fun u => wpY_init (fun v => i_Rel 0 u v)) :=
  ⟨rfl, 0, fun _ => 0, fun _ => 0, fun _ => 0, fun _ => 0, sq_W0, ⟨0, 0, 0, 0, 0, fun _ => 0, fun _ => 0, fun _ => 0, fun _ => 0, rfl, Or.inl rfl⟩, ⟨0, 0, 0, 0, fun _ => 0, fun _ => 0, fun _ => 0, fun _ => 0, fun _ => 0, fun _ => 0, fun _ => 0, rfl⟩⟩
theorem sq_arg (x : Int32) {N : Nat} (h0 : 0 < N) (hN : N < 1000) : x < 0 ∨ (¬ x < 0 ∧ nI N ≤ x ∧ nI (N - 1) < x ∧ ¬ x ≤ nI (N - 1)) ∨ ∃ j, j < N ∧ x = nI j := by
  rcases pk_ix x (n := N) (by omega) with h | h | h
  · left; exact h
  · right; left
    have h1 := h
    rw [Int32.le_iff_toInt_le, nI_toInt (by omega)] at h1
    have z : (0 : Int32).toInt = 0 := by decide
    refine ⟨?_, h, ?_, ?_⟩
    · rw [Int32.lt_iff_toInt_lt, z]; omega
    · rw [Int32.lt_iff_toInt_lt, nI_toInt (by omega)]; omega
    · rw [Int32.le_iff_toInt_le, nI_toInt (by omega)]; omega
  · right; right; exact h
theorem sq_pu_b {f : Nat → Nat} {B c a v : Nat} (h : ∀ i, f i < B) (hv : v < B) : ∀ i, sq_pu f c a v i < B := by
  intro i
  show (if i < a then f i else if i = a then v else if i ≤ c then f (i - 1) else f i) < B
  split
  · exact h _
  · split
    · exact hv
    · split <;> exact h _
theorem sq_pd_b {f : Nat → Nat} {B d m : Nat} (h : ∀ i, f i < B) : ∀ i, sq_pd f d m i < B := by
  intro i
  show (if d ≤ i ∧ i < m then f (i + 1) else f i) < B
  split <;> exact h _
theorem sq_split {ow : Nat → Nat} {n : Nat} (t : Nat) (hso : ∀ i j, i < j → j < n → ow i ≤ ow j) : ∃ e, e ≤ n ∧ (∀ i, i < e → ow i ≤ t) ∧ (∀ i, e ≤ i → i < n → t < ow i) := by
  have key : ∀ m, m ≤ n → ∃ e, e ≤ m ∧ (∀ i, i < e → ow i ≤ t) ∧ (∀ i, e ≤ i → i < m → t < ow i) := by
    intro m
    induction m with
    | zero => intro _; exact ⟨0, by omega, fun i h => by omega, fun i _ h => by omega⟩
    | succ m ih =>
      intro hm
      obtain ⟨e, h1, h2, h3⟩ := ih (by omega)
      by_cases c : ow m ≤ t
      · refine ⟨m + 1, by omega, fun i hi => ?_, fun i a b => by omega⟩
        by_cases ei : i = m
        · rw [ei]; exact c
        · have := hso i m (by omega) (by omega); omega
      · refine ⟨e, by omega, h2, fun i a b => ?_⟩
        by_cases ei : i = m
        · rw [ei]; omega
        · exact h3 i a (by omega)
  exact key n (Nat.le_refl _)
theorem sq_Wadd {n : Nat} {ow kd vr vl : Nat → Nat} {t k x v e : Nat} (hW : sq_W n ow kd vr vl) (hn : n < 6) (ht : t < 4) (hk : k < 3) (hx : x < 3) (hv : v < 4) (he : e ≤ n) (hlo : ∀ i, i < e → ow i ≤ t) (hhi : ∀ i, e ≤ i → i < n → t < ow i) :
    sq_W (n + 1) (sq_pu ow n e t) (sq_pu kd n e k) (sq_pu vr n e x) (sq_pu vl n e v) := by
  obtain ⟨_, h1, h2, h3, h4, h5⟩ := hW
  refine ⟨by omega, sq_pu_b h1 ht, sq_pu_b h2 hk, sq_pu_b h3 hx, sq_pu_b h4 hv, fun i j hij hj => ?_⟩
  have v1 : ∀ i, i < e → sq_pu ow n e t i = ow i := fun i hi => if_pos hi
  have v2 : sq_pu ow n e t e = t := by show (if e < e then _ else if e = e then t else _) = t; rw [if_neg (by omega), if_pos rfl]
  have v3 : ∀ i, e < i → i ≤ n → sq_pu ow n e t i = ow (i - 1) := by
    intro i a b
    show (if i < e then _ else if i = e then t else if i ≤ n then ow (i - 1) else _) = _
    rw [if_neg (by omega), if_neg (by omega), if_pos b]
  by_cases ci : i < e
  · rw [v1 i ci]
    by_cases cj : j < e
    · rw [v1 j cj]; exact h5 i j hij (by omega)
    · by_cases ej : j = e
      · rw [ej, v2]; exact hlo i ci
      · rw [v3 j (by omega) (by omega)]
        have a := hlo i ci
        have b := hhi (j - 1) (by omega) (by omega)
        omega
  · by_cases ei : i = e
    · rw [ei, v2, v3 j (by omega) (by omega)]
      exact Nat.le_of_lt (hhi (j - 1) (by omega) (by omega))
    · rw [v3 i (by omega) (by omega), v3 j (by omega) (by omega)]
      exact h5 (i - 1) (j - 1) (by omega) (by omega)
theorem sq_Wdrop {n : Nat} {ow kd vr vl : Nat → Nat} {d : Nat} (hW : sq_W n ow kd vr vl) (hd : d < n) : sq_W (n - 1) (sq_pd ow d (n - 1)) (sq_pd kd d (n - 1)) (sq_pd vr d (n - 1)) (sq_pd vl d (n - 1)) := by
  obtain ⟨h0, h1, h2, h3, h4, h5⟩ := hW
  refine ⟨by omega, sq_pd_b h1, sq_pd_b h2, sq_pd_b h3, sq_pd_b h4, fun i j hij hj => ?_⟩
  have v1 : ∀ i, i < d → sq_pd ow d (n - 1) i = ow i := by
    intro i hi
    show (if d ≤ i ∧ i < n - 1 then _ else _) = _
    rw [if_neg (by omega)]
  have v2 : ∀ i, d ≤ i → i < n - 1 → sq_pd ow d (n - 1) i = ow (i + 1) := fun i a b => if_pos ⟨a, b⟩
  by_cases ci : i < d
  · rw [v1 i ci]
    by_cases cj : j < d
    · rw [v1 j cj]; exact h5 i j hij (by omega)
    · rw [v2 j (by omega) hj]; exact h5 i (j + 1) (by omega) (by omega)
  · rw [v2 i (by omega) (by omega), v2 j (by omega) hj]; exact h5 (i + 1) (j + 1) (by omega) (by omega)
theorem i_vc_store {k : Nat} {u : SX} {v : SY} (I : i_Rel k u v) (hk : k + 5 ≤ 2560) (v1 : Int32) (v2 : Int32) (v3 : Int32) : wpX_store (fun r u' => wpY_store (fun r' v' => r' = r ∧ i_Rel (k + 5) u' v') v v1 v2 v3) u v1 v2 v3 := by
  have I' := i_up I
  obtain ⟨_, n, ow, kd, vr, vl, hW, ⟨f_explored, f_loadCount, f_orderCount, f_lateCount, f_strictCount, a_lateSet, a_strictSet, a_place, a_earlier, rfl, hX⟩, ⟨y1, y2, y3, y4, y5, y6, y7, y8, y9, y10, y11, rfl⟩⟩ := I
  rcases sq_arg v1 (N := 4) (by decide) (by decide) with a | ⟨a0, a1, a2, a3⟩ | ⟨t, ht, rfl⟩
  · exact br_t a (br_t rfl (br_t a (br_t rfl ⟨rfl, I'⟩)))
  · exact br_f a0 (br_t a1 (br_t rfl (br_f a0 (br_t a2 (br_t rfl ⟨rfl, I'⟩)))))
  have t0 : ¬ nI t < 0 := nI_pos (by omega)
  have t4 : ¬ (4 : Int32) ≤ nI t := nI_ge (b := 4) ht (by decide)
  have t3 : ¬ (3 : Int32) < nI t := nI_nlt (a := 3) (by omega) (by decide)
  refine br_f t0 (br_f t4 (br_f (by decide) ?_))
  rcases sq_arg v2 (N := 3) (by decide) (by decide) with b | ⟨b0, b1, b2, b3⟩ | ⟨x, hx, rfl⟩
  · exact br_t b (br_t rfl (br_f t0 (br_f t3 (br_t b (br_t rfl ⟨rfl, I'⟩)))))
  · exact br_f b0 (br_t b1 (br_t rfl (br_f t0 (br_f t3 (br_f b0 (br_t b2 (br_t rfl ⟨rfl, I'⟩)))))))
  have x0 : ¬ nI x < 0 := nI_pos (by omega)
  have x3 : ¬ (3 : Int32) ≤ nI x := nI_ge (b := 3) hx (by decide)
  have x2 : ¬ (2 : Int32) < nI x := nI_nlt (a := 2) (by omega) (by decide)
  refine br_f x0 (br_f x3 (br_f (by decide) ?_))
  by_cases c1 : v3 < 1
  · exact br_t c1 (br_f t0 (br_f t3 (br_f x0 (br_f x2 (br_t c1 (br_t rfl ⟨rfl, I'⟩))))))
  refine br_f c1 ?_
  rcases sq_arg v3 (N := 4) (by decide) (by decide) with c | ⟨c0, c3, c4, c5⟩ | ⟨w, hw, rfl⟩
  · exact absurd (Int32.lt_trans c (by decide)) c1
  · exact br_f c5 (br_f t0 (br_f t3 (br_f x0 (br_f x2 (br_f c1 (br_t c4 (br_t rfl ⟨rfl, I'⟩)))))))
  have w3 : nI w ≤ (3 : Int32) := nI_le (b := 3) (by omega) (by decide)
  have w4 : ¬ (3 : Int32) < nI w := nI_nlt (a := 3) (by omega) (by decide)
  refine br_t w3 ?_
  obtain ⟨hn, ho, _, _, _, hso⟩ := id hW
  by_cases h6 : n = 6
  · refine sq_xFull h6 ?_
    refine br_f t0 (br_f t3 (br_f x0 (br_f x2 (br_f c1 (br_f w4 (br_f (by decide) ?_))))))
    exact sq_yFull h6 ⟨rfl, I'⟩
  · obtain ⟨e, he, hlo, hhi⟩ := sq_split t hso
    refine sq_xApp (k := 0) (by omega) ht ho he hlo hhi (sq_pu_b ho ht) ?_
    refine br_f t0 (br_f t3 (br_f x0 (br_f x2 (br_f c1 (br_f w4 (br_f (by decide) ?_))))))
    refine sq_yIns (k := 0) (by omega) ht ho he hlo hhi (sq_pu_b ho ht) ⟨rfl, rfl, n + 1, _, _, _, _, sq_Wadd hW (by omega) ht (by omega) hx hw he hlo hhi, ⟨_, _, _, _, _, _, _, _, _, rfl, Or.inl rfl⟩, ⟨_, _, _, _, _, _, _, _, _, _, _, rfl⟩⟩
theorem i_vc_load {k : Nat} {u : SX} {v : SY} (I : i_Rel k u v) (hk : k + 5 ≤ 2560) (v1 : Int32) (v2 : Int32) : wpX_load (fun r u' => wpY_load (fun r' v' => r' = r ∧ i_Rel (k + 5) u' v') v v1 v2) u v1 v2 := by
  have I' := i_up I
  obtain ⟨_, n, ow, kd, vr, vl, hW, ⟨f_explored, f_loadCount, f_orderCount, f_lateCount, f_strictCount, a_lateSet, a_strictSet, a_place, a_earlier, rfl, hX⟩, ⟨y1, y2, y3, y4, y5, y6, y7, y8, y9, y10, y11, rfl⟩⟩ := I
  rcases sq_arg v1 (N := 4) (by decide) (by decide) with a | ⟨a0, a1, a2, a3⟩ | ⟨t, ht, rfl⟩
  · exact br_t a (br_t rfl (br_t a (br_t rfl ⟨rfl, I'⟩)))
  · exact br_f a0 (br_t a1 (br_t rfl (br_f a0 (br_t a2 (br_t rfl ⟨rfl, I'⟩)))))
  have t0 : ¬ nI t < 0 := nI_pos (by omega)
  have t4 : ¬ (4 : Int32) ≤ nI t := nI_ge (b := 4) ht (by decide)
  have t3 : ¬ (3 : Int32) < nI t := nI_nlt (a := 3) (by omega) (by decide)
  refine br_f t0 (br_f t4 (br_f (by decide) ?_))
  rcases sq_arg v2 (N := 3) (by decide) (by decide) with b | ⟨b0, b1, b2, b3⟩ | ⟨x, hx, rfl⟩
  · exact br_t b (br_t rfl (br_f t0 (br_f t3 (br_t b (br_t rfl ⟨rfl, I'⟩)))))
  · exact br_f b0 (br_t b1 (br_t rfl (br_f t0 (br_f t3 (br_f b0 (br_t b2 (br_t rfl ⟨rfl, I'⟩)))))))
  have x0 : ¬ nI x < 0 := nI_pos (by omega)
  have x3 : ¬ (3 : Int32) ≤ nI x := nI_ge (b := 3) hx (by decide)
  have x2 : ¬ (2 : Int32) < nI x := nI_nlt (a := 2) (by omega) (by decide)
  refine br_f x0 (br_f x3 (br_f (by decide) ?_))
  obtain ⟨hn, ho, _, _, _, hso⟩ := id hW
  by_cases h6 : n = 6
  · refine sq_xFull h6 ?_
    refine br_f t0 (br_f t3 (br_f x0 (br_f x2 (br_f (by decide) ?_))))
    exact sq_yFull h6 ⟨rfl, I'⟩
  · obtain ⟨e, he, hlo, hhi⟩ := sq_split t hso
    refine sq_xApp (k := 1) (v := 0) (by omega) ht ho he hlo hhi (sq_pu_b ho ht) ?_
    refine br_f t0 (br_f t3 (br_f x0 (br_f x2 (br_f (by decide) ?_))))
    refine sq_yIns (k := 1) (v := 0) (by omega) ht ho he hlo hhi (sq_pu_b ho ht) ⟨rfl, rfl, n + 1, _, _, _, _, sq_Wadd hW (by omega) ht (by omega) hx (by omega) he hlo hhi, ⟨_, _, _, _, _, _, _, _, _, rfl, Or.inl rfl⟩, ⟨_, _, _, _, _, _, _, _, _, _, _, rfl⟩⟩
theorem i_vc_fence {k : Nat} {u : SX} {v : SY} (I : i_Rel k u v) (hk : k + 5 ≤ 2560) (v1 : Int32) : wpX_fence (fun r u' => wpY_fence (fun r' v' => r' = r ∧ i_Rel (k + 5) u' v') v v1) u v1 := by
  have I' := i_up I
  obtain ⟨_, n, ow, kd, vr, vl, hW, ⟨f_explored, f_loadCount, f_orderCount, f_lateCount, f_strictCount, a_lateSet, a_strictSet, a_place, a_earlier, rfl, hX⟩, ⟨y1, y2, y3, y4, y5, y6, y7, y8, y9, y10, y11, rfl⟩⟩ := I
  rcases sq_arg v1 (N := 4) (by decide) (by decide) with a | ⟨a0, a1, a2, a3⟩ | ⟨t, ht, rfl⟩
  · exact br_t a (br_t rfl (br_t a ⟨rfl, I'⟩))
  · exact br_f a0 (br_t a1 (br_t rfl (br_f a0 (br_t a2 ⟨rfl, I'⟩))))
  have t0 : ¬ nI t < 0 := nI_pos (by omega)
  have t4 : ¬ (4 : Int32) ≤ nI t := nI_ge (b := 4) ht (by decide)
  have t3 : ¬ (3 : Int32) < nI t := nI_nlt (a := 3) (by omega) (by decide)
  refine br_f t0 (br_f t4 (br_f (by decide) ?_))
  obtain ⟨hn, ho, _, _, _, hso⟩ := id hW
  by_cases h6 : n = 6
  · refine sq_xFull h6 ?_
    refine br_f t0 (br_f t3 ?_)
    exact sq_yFull h6 ⟨rfl, I'⟩
  · obtain ⟨e, he, hlo, hhi⟩ := sq_split t hso
    refine sq_xApp (k := 2) (x := 0) (v := 0) (by omega) ht ho he hlo hhi (sq_pu_b ho ht) ?_
    refine br_f t0 (br_f t3 ?_)
    refine sq_yIns (k := 2) (x := 0) (v := 0) (by omega) ht ho he hlo hhi (sq_pu_b ho ht) ⟨rfl, rfl, n + 1, _, _, _, _, sq_Wadd hW (by omega) ht (by omega) (by omega) (by omega) he hlo hhi, ⟨_, _, _, _, _, _, _, _, _, rfl, Or.inl rfl⟩, ⟨_, _, _, _, _, _, _, _, _, _, _, rfl⟩⟩
theorem i_vc_drop {k : Nat} {u : SX} {v : SY} (I : i_Rel k u v) (hk : k + 5 ≤ 2560) (v1 : Int32) : wpX_drop (fun r u' => wpY_drop (fun r' v' => r' = r ∧ i_Rel (k + 5) u' v') v v1) u v1 := by
  have I' := i_up I
  obtain ⟨_, n, ow, kd, vr, vl, hW, ⟨f_explored, f_loadCount, f_orderCount, f_lateCount, f_strictCount, a_lateSet, a_strictSet, a_place, a_earlier, rfl, hX⟩, ⟨y1, y2, y3, y4, y5, y6, y7, y8, y9, y10, y11, rfl⟩⟩ := I
  rcases sq_arg v1 (N := 4) (by decide) (by decide) with a | ⟨a0, a1, a2, a3⟩ | ⟨t, ht, rfl⟩
  · exact br_t a (br_t rfl (br_t a ⟨rfl, I'⟩))
  · exact br_f a0 (br_t a1 (br_t rfl (br_f a0 (br_f a3 ⟨rfl, I'⟩))))
  obtain ⟨hn, ho, _, _, _, hso⟩ := id hW
  by_cases hex : ∃ i, i < n ∧ ow i = t
  · obtain ⟨d, hd, hdt, hl⟩ := sq_last (fun i => ow i = t) n hex
    have hlo : ∀ i, i < d + 1 → ow i ≤ t := by
      intro i hi
      by_cases e : i = d
      · rw [e, hdt]; exact Nat.le_refl _
      · have := hso i d (by omega) hd; omega
    have hhi : ∀ i, d + 1 ≤ i → i < n → t < ow i := by
      intro i h1 h2
      have a := hso d i (by omega) h2
      have b : ow i ≠ t := fun z => by have := hl i h2 z; omega
      omega
    have hcn := (sq_pd_c (p := ow) (n := n - 1) hdt (n - 1) (Nat.le_refl _)).2 (by omega)
    have e1 : n - 1 + 1 = n := by omega
    rw [e1] at hcn
    refine sq_xDrop hn ht ho hd hdt hlo hhi ?_
    refine sq_yDropS hn ht ho (fun z => absurd hdt (z d hd)) (fun d' hd' hdt' hl' => ?_)
    have ed : d' = d := by
      have a := hl d' hd' hdt'
      rcases Nat.lt_or_ge d' d with z | z
      · exact absurd hdt (hl' d z hd)
      · omega
    subst ed
    refine ⟨n + 1, ?_⟩
    have key := fun h => sq_yDropL (n := n) (t := t) (d := d') (yf_fences := 0) (yf_storeCount := y1) (yf_loadCount := y2) (yf_listed := y3) (yf_strictListed := y4) (ya_stores := y5) (ya_loads := y6) (ya_found := y7) (ya_place := y8) (ya_after := y9) (ya_list := y10) (ya_strictList := y11) (post := fun r' v' => r' = nI (sq_cn (fun i => decide (ow i = t)) n) - 1 ∧ i_Rel (k + 5) ((nI (n - 1)), 0, f_loadCount, f_orderCount, f_lateCount, f_strictCount, (sq_nA (sq_pd ow d' (n - 1))), (sq_nA (sq_pd kd d' (n - 1))), (sq_nA (sq_pd vr d' (n - 1))), (sq_nA (sq_pd vl d' (n - 1))), a_lateSet, a_strictSet, a_place, a_earlier) v') ow kd vr vl hn ht hd' (sq_pd_b ho) h (n + 1) d' (by omega) (Nat.le_refl _) hd'
    rw [sq_pd_0, sq_pd_0, sq_pd_0, sq_pd_0] at key
    refine key ⟨?_, rfl, n - 1, _, _, _, _, sq_Wdrop hW hd', ⟨_, _, _, _, _, _, _, _, _, rfl, Or.inl rfl⟩, ⟨_, _, _, _, _, _, _, _, _, _, _, rfl⟩⟩
    rw [← hcn, nI_pred]
  · have hno : ∀ i, i < n → ow i ≠ t := fun i a b => hex ⟨i, a, b⟩
    refine sq_xDrop0 hn ht ho hno ?_
    exact sq_yDropS hn ht ho (fun _ => ⟨rfl, I'⟩) (fun d hd hdt _ => absurd hdt (hno d hd))
theorem i_vc_clear {k : Nat} {u : SX} {v : SY} (I : i_Rel k u v) (hk : k + 5 ≤ 2560) : wpX_clear (fun u' => wpY_clear (fun v' => i_Rel (k + 5) u' v') v) u := by
  obtain ⟨_, n, ow, kd, vr, vl, hW, ⟨f_explored, f_loadCount, f_orderCount, f_lateCount, f_strictCount, a_lateSet, a_strictSet, a_place, a_earlier, rfl, hX⟩, ⟨y1, y2, y3, y4, y5, y6, y7, y8, y9, y10, y11, rfl⟩⟩ := I
  obtain ⟨h0, h1, h2, h3, h4, h5⟩ := hW
  exact ⟨rfl, 0, ow, kd, vr, vl, ⟨by omega, h1, h2, h3, h4, fun i j _ h => by omega⟩, ⟨_, _, _, _, _, _, _, _, _, rfl, Or.inl rfl⟩, ⟨_, _, _, _, _, _, _, _, _, _, _, rfl⟩⟩
theorem i_vc_size {k : Nat} {u : SX} {v : SY} (I : i_Rel k u v) (hk : k + 5 ≤ 2560) : wpX_size (fun r => wpY_size (fun r' => r' = r ∧ i_Rel (k + 5) u v) v) u := by
  have I' := i_up I
  obtain ⟨_, n, ow, kd, vr, vl, hW, ⟨f_explored, f_loadCount, f_orderCount, f_lateCount, f_strictCount, a_lateSet, a_strictSet, a_place, a_earlier, rfl, hX⟩, ⟨y1, y2, y3, y4, y5, y6, y7, y8, y9, y10, y11, rfl⟩⟩ := I
  exact ⟨rfl, I'⟩
end
section
/-! the component: places, the number of orders, what must come earlier, one order's outcome -/
section
variable {n : Nat} {ow kd vr vl : Nat → Nat} {f_explored f_loadCount f_orderCount f_lateCount f_strictCount : Int32} {a_lateSet a_strictSet a_place a_earlier : Nat → Int32}
theorem sq_xPlaces {post : SX → Prop} (hn : n ≤ 6) (hk3 : ∀ i, kd i < 3) (hv3 : ∀ i, vr i < 3) (h : ∀ p' : Nat → Int32, (∀ i, i < n → p' i = nI (2 * sq_sl kd vr i)) → post ((nI n), f_explored, (nI (sq_cn (sq_ll kd) n)), f_orderCount, f_lateCount, f_strictCount, (sq_nA ow), (sq_nA kd), (sq_nA vr), (sq_nA vl), a_lateSet, a_strictSet, p', a_earlier)) : wpX_decidePlaces post ((nI n), f_explored, f_loadCount, f_orderCount, f_lateCount, f_strictCount, (sq_nA ow), (sq_nA kd), (sq_nA vr), (sq_nA vl), a_lateSet, a_strictSet, a_place, a_earlier) := by
  have key : ∀ N i (p : Nat → Int32), n - i < N → i ≤ n → (∀ j, j < i → p j = nI (2 * sq_sl kd vr j)) → wX_decidePlaces_7 post (nI n) f_explored f_orderCount f_lateCount f_strictCount N (nI i) (nI (sq_cn (sq_ll kd) i)) (sq_nA ow) (sq_nA kd) (sq_nA vr) (sq_nA vl) a_lateSet a_strictSet p a_earlier := by
    intro N
    induction N with
    | zero => intro i p h1; omega
    | succ N ih =>
      intro i p h1 h2 hp
      have hki := hk3 i
      have hvi := hv3 i
      have hcl := sq_cn_le (sq_ll kd) i
      have step : ∀ x : Int32, x = nI (2 * sq_sl kd vr i) → ∀ j, j < i + 1 → upd p (nI i).toNatClampNeg x j = nI (2 * sq_sl kd vr j) := by
        intro x hx j hj
        rw [nI_clamp (by omega)]
        by_cases e : j = i
        · rw [e, pk_us, hx]
        · rw [pk_un e]; exact hp j (by omega)
      refine pk_le n i (fun h3 => ?_) (fun h3 => ⟨pk_in i 6 (by omega), pk_eq (kd i) 1 (fun h4 => ?_) (fun h4 => ?_) (sq_at kd (by omega)) rfl (by omega) (by omega)⟩)
      · have ei : i = n := by omega
        subst ei
        exact h p hp
      · refine ⟨pk_in i 6 (by omega), nm_e (nm_r (nI_1 _) (nm_r (nI_1 i) ?_))⟩
        have h5 := ih (i + 1) (upd p (nI i).toNatClampNeg (2 * nI (sq_cn (sq_ll kd) i))) (by omega) (by omega) (step _ (by
          have : sq_sl kd vr i = sq_cn (sq_ll kd) i := if_pos h4
          rw [this]; exact pk_mul 2 _))
        rw [sq_cn_t (p := sq_ll kd) (decide_eq_true h4)] at h5
        exact h5
      · refine ⟨pk_in i 6 (by omega), pk_in i 6 (by omega), nm_e (nm_r (nI_1 i) ?_)⟩
        have h5 := ih (i + 1) (upd p (nI i).toNatClampNeg (12 + (2 * (sq_nA vr (nI i).toNatClampNeg)))) (by omega) (by omega) (step _ (by
          have : sq_sl kd vr i = 6 + vr i := if_neg h4
          rw [this, sq_at vr (by omega), show 2 * (6 + vr i) = 12 + 2 * vr i from by omega]
          have h6 : (2 : Int32) * nI (vr i) = nI (2 * vr i) := pk_mul 2 _
          rw [h6]
          exact nI_add 12 _))
        rw [sq_cn_f (p := sq_ll kd) (decide_eq_false h4)] at h5
        exact h5
  exact Exists.intro (n + 1) (key (n + 1) 0 a_place (by omega) (by omega) (fun j hj => by omega))
theorem sq_xCount {post : SX → Prop} (hn : n ≤ 6) (h : post ((nI n), f_explored, f_loadCount, (nI (sq_fac n)), f_lateCount, f_strictCount, (sq_nA ow), (sq_nA kd), (sq_nA vr), (sq_nA vl), a_lateSet, a_strictSet, a_place, a_earlier)) : wpX_countOrders post ((nI n), f_explored, f_loadCount, f_orderCount, f_lateCount, f_strictCount, (sq_nA ow), (sq_nA kd), (sq_nA vr), (sq_nA vl), a_lateSet, a_strictSet, a_place, a_earlier) := by
  have key : ∀ N i, n + 1 - i < N → 1 ≤ i → (i = 1 ∨ i ≤ n) → wX_countOrders_7 post (nI n) f_explored f_loadCount f_lateCount f_strictCount (sq_nA ow) (sq_nA kd) (sq_nA vr) (sq_nA vl) a_lateSet a_strictSet a_place a_earlier N (nI (i + 1)) (nI (sq_fac i)) := by
    intro N
    induction N with
    | zero => intro i h1; omega
    | succ N ih =>
      intro i h1 h2 hi
      refine pk_lt n (i + 1) (fun h3 => ?_) (fun h3 => ?_)
      · have e : sq_fac i = sq_fac n := by
          by_cases e : n = 0
          · have : i = 1 := by omega
            rw [this, e]; decide
          · have : i = n := by omega
            rw [this]
        rw [e]; exact h
      · refine nm_r ?_ (nm_r (nI_1 (i + 1)) (ih (i + 1) (by omega) (by omega) (Or.inr h3)))
        rw [pk_mul]
        show nI (sq_fac i * (i + 1)) = nI ((i + 1) * sq_fac i)
        rw [Nat.mul_comm]
  exact Exists.intro (n + 2) (key (n + 2) 1 (by omega) (by omega) (Or.inl rfl))
theorem sq_xStays {F : Int32} {i j : Nat} {post : Int32 → Prop} (hij : i < j) (hj : j < 6) (hk3 : ∀ i, kd i < 3) (h1 : (kd i ≠ 0 ∨ kd j ≠ 1 ∨ ∃ b, i ≤ b ∧ b < j ∧ bt F b = true) → post 1) (h0 : ¬ (kd i ≠ 0 ∨ kd j ≠ 1 ∨ ∃ b, i ≤ b ∧ b < j ∧ bt F b = true) → post 0) : wpX_staysBefore post ((nI n), f_explored, f_loadCount, f_orderCount, f_lateCount, f_strictCount, (sq_nA ow), (sq_nA kd), (sq_nA vr), (sq_nA vl), a_lateSet, a_strictSet, a_place, a_earlier) (nI i) (nI j) F := by
  have hki := hk3 i
  have hkj := hk3 j
  refine nm_e ⟨pk_in i 6 (by omega), pk_eq (kd i) 0 (fun c0 => ⟨pk_in j 6 (by omega), pk_eq (kd j) 1 (fun c1 => ?_) (fun c1 => h1 (Or.inr (Or.inl c1))) (sq_at kd (by omega)) rfl (by omega) (by omega)⟩) (fun c0 => h1 (Or.inl c0)) (sq_at kd (by omega)) rfl (by omega) (by omega)⟩
  refine ek_if (sq_fen F hij hj) (fun hz => h0 ?_) (fun hz => h1 ?_)
  · rintro (y | y | ⟨b, y1, y2, y3⟩)
    · exact y c0
    · exact y c1
    · rw [hz b y1 y2] at y3; exact absurd y3 (by decide)
  · right; right
    refine Classical.byContradiction fun hno => hz fun b y1 y2 => ?_
    cases hb : bt F b
    · rfl
    · exact absurd ⟨b, y1, y2, hb⟩ hno
theorem sq_xEarI {F : Int32} {j : Nat} {post : SX → Prop} {J2 : Int32 → (Nat → Int32) → (Nat → Int32) → (Nat → Int32) → (Nat → Int32) → (Nat → Int32) → (Nat → Int32) → (Nat → Int32) → (Nat → Int32) → Prop} (hn : n ≤ 6) (hj : j < n) (hw : ∀ i, ow i < 4) (hk3 : ∀ i, kd i < 3) (A0 : Nat → Int32)
    (hJ : ∀ A' : Nat → Int32, (∀ l, l ≠ j → A' l = A0 l) → (∀ b, b < 32 → (bt (A' j) b = true ↔ sq_E ow kd (bt F) b j)) → J2 (nI (j + 1)) (sq_nA ow) (sq_nA kd) (sq_nA vr) (sq_nA vl) a_lateSet a_strictSet a_place A') :
    ∀ N i (A : Nat → Int32), j - i < N → i ≤ j → (∀ l, l ≠ j → A l = A0 l) → (∀ b, b < 32 → (bt (A j) b = true ↔ b < i ∧ sq_E ow kd (bt F) b j)) → wX_decideEarlier_19 post J2 F (nI j) (nI n) f_explored f_loadCount f_orderCount f_lateCount f_strictCount N (nI i) (sq_nA ow) (sq_nA kd) (sq_nA vr) (sq_nA vl) a_lateSet a_strictSet a_place A := by
  intro N
  induction N with
  | zero => intro i A h1; omega
  | succ N ih =>
    intro i A h1 h2 hA hb
    have hwi := hw i
    have hwj := hw j
    refine pk_le j i (fun h3 => nm_r (nI_1 j) (hJ A hA (fun b hb32 => ?_))) (fun h3 => ⟨pk_in i 6 (by omega), pk_in j 6 (by omega), pk_eq (ow i) (ow j) (fun h4 => ?_) (fun h4 => nm_r (nI_1 i) (ih (i + 1) A (by omega) (by omega) hA (fun b hb32 => ?_))) (sq_at ow (by omega)) (sq_at ow (by omega)) (by omega) (by omega)⟩)
    · rw [hb b hb32]
      exact ⟨fun z => z.2, fun z => ⟨by have := z.1; omega, z⟩⟩
    · refine sq_xStays (by omega) (by omega) hk3 (fun hc => br_f (by decide) ⟨pk_in j 6 (by omega), pk_in j 6 (by omega), nm_e (nm_r (nI_1 i) (ih (i + 1) _ (by omega) (by omega) (fun l hl => ?_) (fun b hb32 => ?_)))⟩) (fun hc => br_t rfl (nm_r (nI_1 i) (ih (i + 1) A (by omega) (by omega) hA (fun b hb32 => ?_))))
      · rw [nI_clamp (by omega), pk_un hl]; exact hA l hl
      · rw [nI_clamp (by omega), pk_us, sq_set _ (by omega) hb32, Bool.or_eq_true, hb b hb32, decide_eq_true_eq]
        constructor
        · rintro (z | z)
          · exact ⟨by omega, z.2⟩
          · rw [z]; exact ⟨by omega, h3, h4, hc⟩
        · rintro ⟨z1, z2⟩
          by_cases e : b = i
          · right; exact e
          · left; exact ⟨by omega, z2⟩
      · rw [hb b hb32]
        constructor
        · rintro ⟨z1, z2⟩; exact ⟨by omega, z2⟩
        · rintro ⟨z1, z2⟩
          refine ⟨?_, z2⟩
          by_cases e : b = i
          · rw [e] at z2; exact absurd z2.2.2 hc
          · omega
    · rw [hb b hb32]
      constructor
      · rintro ⟨z1, z2⟩; exact ⟨by omega, z2⟩
      · rintro ⟨z1, z2⟩
        refine ⟨?_, z2⟩
        by_cases e : b = i
        · rw [e] at z2; exact absurd z2.2.1 h4
        · omega
theorem sq_xEar {F : Int32} {post : SX → Prop} (hn : n ≤ 6) (hw : ∀ i, ow i < 4) (hk3 : ∀ i, kd i < 3)
    (h : ∀ A : Nat → Int32, (∀ j, j < n → ∀ b, b < 32 → (bt (A j) b = true ↔ sq_E ow kd (bt F) b j)) → post ((nI n), f_explored, f_loadCount, f_orderCount, f_lateCount, f_strictCount, (sq_nA ow), (sq_nA kd), (sq_nA vr), (sq_nA vl), a_lateSet, a_strictSet, a_place, A)) : wpX_decideEarlier post ((nI n), f_explored, f_loadCount, f_orderCount, f_lateCount, f_strictCount, (sq_nA ow), (sq_nA kd), (sq_nA vr), (sq_nA vl), a_lateSet, a_strictSet, a_place, a_earlier) F := by
  have key : ∀ N j (A : Nat → Int32), n - j < N → j ≤ n → (∀ l, l < j → ∀ b, b < 32 → (bt (A l) b = true ↔ sq_E ow kd (bt F) b l)) → wX_decideEarlier_2 post F (nI n) f_explored f_loadCount f_orderCount f_lateCount f_strictCount N (nI j) (sq_nA ow) (sq_nA kd) (sq_nA vr) (sq_nA vl) a_lateSet a_strictSet a_place A := by
    intro N
    induction N with
    | zero => intro j A h1; omega
    | succ N ih =>
      intro j A h1 h2 hA
      refine pk_le n j (fun h3 => ?_) (fun h3 => ⟨pk_in j 6 (by omega), nm_e (Exists.intro (j + 1) ?_)⟩)
      · have ej : j = n := by omega
        subst ej
        exact h A hA
      · refine sq_xEarI hn h3 hw hk3 (upd A (nI j).toNatClampNeg 0) (fun A' g1 g2 => ih (j + 1) A' (by omega) (by omega) (fun l hl => ?_)) (j + 1) 0 _ (by omega) (by omega) (fun l _ => rfl) (fun b hb32 => ?_)
        · by_cases e : l = j
          · rw [e]; exact g2
          · rw [g1 l e, nI_clamp (by omega), pk_un e]; exact hA l (by omega)
        · rw [nI_clamp (by omega), pk_us, b_0]
          exact ⟨fun z => absurd z (by decide), fun z => absurd z.1 (by omega)⟩
  exact Exists.intro (n + 1) (key (n + 1) 0 a_earlier (by omega) (by omega) (fun l hl => by omega))
theorem sq_xPick {x : Int32} {d : Nat → Bool} {i : Nat} {post : Int32 → Prop} (hn : n ≤ 6) (hx : ∀ b, b < 32 → bt x b = d b) (hi : i < n) (hd : d i = false) (h : post (nI i)) : wpX_pickUndone post ((nI n), f_explored, f_loadCount, f_orderCount, f_lateCount, f_strictCount, (sq_nA ow), (sq_nA kd), (sq_nA vr), (sq_nA vl), a_lateSet, a_strictSet, a_place, a_earlier) x (nI (sq_cn (fun b => !d b) i)) := by
  have key : ∀ N l c, i - l < N → l ≤ i → c + sq_cn (fun b => !d b) l = sq_cn (fun b => !d b) i → wX_pickUndone_5 post x (nI n) f_explored f_loadCount f_orderCount f_lateCount f_strictCount (sq_nA ow) (sq_nA kd) (sq_nA vr) (sq_nA vl) a_lateSet a_strictSet a_place a_earlier N (nI c) (nI l) := by
    intro N
    induction N with
    | zero => intro l c h1; omega
    | succ N ih =>
      intro l c h1 h2 hc
      have hci := sq_cn_le (fun b => !d b) i
      refine pk_le n l (fun h3 => by omega) (fun h3 => ek_if (sq_tst x (k := l) (by omega)) (fun h4 => ?_) (fun h4 => ?_))
      · rw [hx l (by omega)] at h4
        refine pk_eq c 0 (fun c0 => ?_) (fun c0 => ?_)
        · have : l = i := by
            rcases Nat.lt_or_ge l i with z | z
            · have := sq_cn_lo (p := fun b => !d b) (i := l) (j := i) (by show (!d l) = true; rw [h4]; rfl) z
              omega
            · omega
          rw [this]; exact h
        · obtain ⟨c', rfl⟩ : ∃ c', c = c' + 1 := ⟨c - 1, by omega⟩
          have hl : l ≠ i := fun e => by rw [e] at hc; omega
          refine nm_r (pk_m1 c') (nm_r (nI_1 l) (ih (l + 1) c' (by omega) (by omega) ?_))
          rw [sq_cn_t (p := fun b => !d b) (by show (!d l) = true; rw [h4]; rfl)]
          omega
      · have h5 : d l = true := by
          rw [hx l (by omega)] at h4
          cases hh : d l
          · exact absurd hh h4
          · rfl
        have hl : l ≠ i := fun e => by rw [e, hd] at h5; exact absurd h5 (by decide)
        refine nm_r (nI_1 l) (ih (l + 1) c (by omega) (by omega) ?_)
        rw [sq_cn_f (p := fun b => !d b) (by show (!d l) = false; rw [h5]; rfl)]
        exact hc
  exact Exists.intro (i + 1) (key (i + 1) 0 _ (by omega) (by omega) rfl)
theorem sq_xFound {x : Int32} {d : Nat → Bool} {j : Nat} {f : Nat → Nat} {post : Int32 → Prop} (hn : n ≤ 6) (hw : ∀ i, ow i < 4) (hk3 : ∀ i, kd i < 3) (hv3 : ∀ i, vr i < 3) (hf : ∀ d, f d < 4) (hx : ∀ b, b < 32 → bt x b = d b) (hj : j < n) (h : post (nI (sq_fb ow kd vr vl d j (f (6 + vr j)) j))) : wpX_foundBy post ((nI n), f_explored, f_loadCount, f_orderCount, f_lateCount, f_strictCount, (sq_nA ow), (sq_nA kd), (sq_nA vr), (sq_nA vl), a_lateSet, a_strictSet, a_place, a_earlier) (nI j) x (nI (sq_sm f 9)) := by
  have hvj := hv3 j
  have hwj := hw j
  have key : ∀ N i, j - i < N → i ≤ j → wX_foundBy_24 post (nI j) x (nI n) f_explored f_loadCount f_orderCount f_lateCount f_strictCount (sq_nA ow) (sq_nA kd) (sq_nA vr) (sq_nA vl) a_lateSet a_strictSet a_place a_earlier N (nI (sq_fb ow kd vr vl d j (f (6 + vr j)) i)) (nI i) := by
    intro N
    induction N with
    | zero => intro i h1; omega
    | succ N ih =>
      intro i h1 h2
      have hwi := hw i
      have hki := hk3 i
      have hvi := hv3 i
      have hno : ¬ (ow i = ow j ∧ kd i = 0 ∧ vr i = vr j ∧ d i = false) → i < j → wX_foundBy_24 post (nI j) x (nI n) f_explored f_loadCount f_orderCount f_lateCount f_strictCount (sq_nA ow) (sq_nA kd) (sq_nA vr) (sq_nA vl) a_lateSet a_strictSet a_place a_earlier N (nI (sq_fb ow kd vr vl d j (f (6 + vr j)) i)) (nI (i + 1)) := by
        intro c hc
        have := ih (i + 1) (by omega) (by omega)
        rw [sq_fb_s, if_neg c] at this
        exact this
      refine pk_le j i (fun h3 => ?_) (fun h3 => ⟨pk_in i 6 (by omega), pk_in j 6 (by omega), pk_eq (ow i) (ow j) (fun c1 => ⟨pk_in i 6 (by omega), pk_eq (kd i) 0 (fun c2 => ⟨pk_in i 6 (by omega), pk_in j 6 (by omega), pk_eq (vr i) (vr j) (fun c3 => ek_if (sq_tst x (k := i) (by omega)) (fun c4 => ⟨pk_in i 6 (by omega), nm_r (sq_at vl (by omega)) (nm_r (nI_1 i) ?_)⟩) (fun c4 => nm_r (nI_1 i) (hno ?_ h3))) (fun c3 => nm_r (nI_1 i) (hno (fun z => c3 z.2.2.1) h3)) (sq_at vr (by omega)) (sq_at vr (by omega)) (by omega) (by omega)⟩) (fun c2 => nm_r (nI_1 i) (hno (fun z => c2 z.2.1) h3)) (sq_at kd (by omega)) rfl (by omega) (by omega)⟩) (fun c1 => nm_r (nI_1 i) (hno (fun z => c1 z.1) h3)) (sq_at ow (by omega)) (sq_at ow (by omega)) (by omega) (by omega)⟩)
      · have : i = j := by omega
        rw [this]; exact h
      · rw [hx i (by omega)] at c4
        have := ih (i + 1) (by omega) (by omega)
        rw [sq_fb_s, if_pos ⟨c1, c2, c3, c4⟩] at this
        exact this
      · rw [hx i (by omega)] at c4
        exact fun z => c4 z.2.2.2
  refine ⟨pk_in j 6 (by omega), Exists.intro (j + 1) ?_⟩
  have e1 : (12 : Int32) + 2 * sq_nA vr (nI j).toNatClampNeg = nI (2 * (6 + vr j)) := by
    rw [sq_at vr (by omega), show 2 * (6 + vr j) = 12 + 2 * vr j from by omega]
    have h6 : (2 : Int32) * nI (vr j) = nI (2 * vr j) := pk_mul 2 _
    rw [h6]
    exact nI_add 12 _
  rw [e1, sq_get hf (by omega)]
  exact key (j + 1) 0 (by omega) (by omega)
theorem sq_xOut {F : Int32} {m : Nat} {q : Nat → Nat} {post : Int32 → Prop} (hW : sq_W n ow kd vr vl) (hm : m < 2 ^ 31) (hq : sq_cd n m q) (hE : ∀ j, j < n → ∀ b, b < 32 → (bt (a_earlier j) b = true ↔ sq_E ow kd (bt F) b j)) (hP : ∀ i, i < n → a_place i = nI (2 * sq_sl kd vr i))
    (h1 : sq_va n ow kd (bt F) q → post (nI (sq_sm (sq_fx ow kd vr vl q n) 9))) (h0 : ¬ sq_va n ow kd (bt F) q → post (-4)) : wpX_outcomeOf post ((nI n), f_explored, f_loadCount, f_orderCount, f_lateCount, f_strictCount, (sq_nA ow), (sq_nA kd), (sq_nA vr), (sq_nA vl), a_lateSet, a_strictSet, a_place, a_earlier) (nI m) := by
  obtain ⟨hn, hw, hk3, hv3, hl4, _⟩ := hW
  have hf4 := sq_fx4 (ow := ow) (kd := kd) (vr := vr) (vl := vl) hl4 q
  have key : ∀ N t (x : Int32), n - t < N → t ≤ n → (∀ b, b < 32 → bt x b = sq_dn q t b) → (∀ s, s < t → ∀ i, sq_E ow kd (bt F) i (q s) → sq_dn q s i = true) → wX_outcomeOf_13 post (nI n) f_explored f_loadCount f_orderCount f_lateCount f_strictCount (sq_nA ow) (sq_nA kd) (sq_nA vr) (sq_nA vl) a_lateSet a_strictSet a_place a_earlier N (nI (sq_rs n m t)) x (nI (sq_sm (sq_fx ow kd vr vl q t) 9)) (nI (n - t)) := by
    intro N
    induction N with
    | zero => intro t x h1; omega
    | succ N ih =>
      intro t x g1 g2 hx hv
      refine pk_le (n - t) 0 (fun g3 => ?_) (fun g3 => ?_)
      · have et : t = n := by omega
        subst et
        exact h1 hv
      · obtain ⟨q1, q2, q3⟩ := hq t (by omega)
        have hrs := sq_rs_le n m t
        have hne : ¬ nI (n - t) = 0 := nI_ne0 (by omega) (by omega)
        have hrem : nI (sq_rs n m t) - nI (sq_rs n m t) / nI (n - t) * nI (n - t) = nI (sq_cn (fun b => !sq_dn q t b) (q t)) := by
          rw [pk_rem (by omega) (by omega) (by omega), ← q3]
          rfl
        have hdiv : nI (sq_rs n m t) / nI (n - t) = nI (sq_rs n m (t + 1)) := by
          rw [pk_div (by omega) (by omega) (by omega)]
          rfl
        refine ⟨hne, ?_⟩
        rw [hrem]
        refine sq_xPick hn hx q1 q2 ⟨hne, nm_r hdiv ⟨pk_in (q t) 6 (by omega), ?_⟩⟩
        have hear : ((a_earlier (nI (q t)).toNatClampNeg &&& (x ^^^ (-1))) = 0) ↔ ∀ i, sq_E ow kd (bt F) i (q t) → sq_dn q t i = true := by
          rw [nI_clamp (by omega), sq_subm]
          constructor
          · intro z i hi
            have hi32 : i < 32 := by have := hi.1; omega
            rw [← hx i hi32]
            exact z i hi32 ((hE (q t) q1 i hi32).mpr hi)
          · intro z b hb hbt
            rw [hx b hb]
            exact z b ((hE (q t) q1 b hb).mp hbt)
        have hx' : ∀ b, b < 32 → bt (x ||| ((1 : Int32) <<< (nI (q t) &&& 31))) b = sq_dn q (t + 1) b := by
          intro b hb
          rw [sq_set x (by omega) hb, hx b hb]
          rfl
        have hm1 : nI (n - t) + (-1) = nI (n - (t + 1)) := by
          rw [show n - t = (n - (t + 1)) + 1 from by omega, pk_m1]
        have hk := hk3 (q t)
        have hvq := hv3 (q t)
        have h9 : sq_sl kd vr (q t) < 9 := by
          show (if kd (q t) = 1 then sq_cn (sq_ll kd) (q t) else 6 + vr (q t)) < 9
          have := sq_cn_le (sq_ll kd) (q t)
          split <;> omega
        refine ek_if hear (fun hok => ?_) (fun hno => h0 (fun z => hno (z t (by omega))))
        have hv' : ∀ s, s < t + 1 → ∀ i, sq_E ow kd (bt F) i (q s) → sq_dn q s i = true := by
          intro s hs
          by_cases e : s = t
          · rw [e]; exact hok
          · exact hv s (by omega)
        have hgo := ih (t + 1) _ (by omega) (by omega) hx' hv'
        rw [sq_fx_s] at hgo
        have hput : ∀ v, v < 4 → (nI (sq_sm (sq_fx ow kd vr vl q t) 9) &&& (((3 : Int32) <<< ((a_place (nI (q t)).toNatClampNeg) &&& 31)) ^^^ (-1))) ||| (nI v <<< ((a_place (nI (q t)).toNatClampNeg) &&& 31)) = nI (sq_sm (sq_up (sq_fx ow kd vr vl q t) (sq_sl kd vr (q t)) v) 9) := by
          intro v hv4
          rw [nI_clamp (by omega), hP (q t) q1]
          exact sq_put (hf4 t) h9 hv4
        refine ⟨pk_in (q t) 6 (by omega), pk_eq (kd (q t)) 2 (fun c2 => ?_) (fun c2 => ⟨pk_in (q t) 6 (by omega), pk_eq (kd (q t)) 0 (fun c0 => ?_) (fun c0 => ?_) (sq_at kd (by omega)) rfl (by omega) (by omega)⟩) (sq_at kd (by omega)) rfl (by omega) (by omega)⟩
        · rw [if_pos c2] at hgo
          exact nm_e (nm_r hm1 hgo)
        · rw [if_neg c2, if_pos c0] at hgo
          refine ⟨pk_in (q t) 6 (by omega), pk_in (q t) 6 (by omega), pk_in (q t) 6 (by omega), nm_r ?_ (nm_e (nm_r hm1 hgo))⟩
          rw [sq_at vl (by omega)]
          exact hput _ (hl4 _)
        · rw [if_neg c2, if_neg c0] at hgo
          refine sq_xFound hn hw hk3 hv3 (hf4 t) hx q1 ?_
          exact ⟨pk_in (q t) 6 (by omega), pk_in (q t) 6 (by omega), nm_r (hput _ (sq_fb4 hl4 _ _ (hf4 t _) _)) (nm_e (nm_r hm1 hgo))⟩
  have h00 : nI (sq_sm (sq_fx ow kd vr vl q 0) 9) = 0 := by
    have : sq_sm (sq_fx ow kd vr vl q 0) 9 = 0 := by
      have : ∀ k, sq_sm (fun _ => 0) k = 0 := by
        intro k
        induction k with
        | zero => rfl
        | succ k ih => rw [sq_sm_s, ih]; omega
      exact this 9
    rw [this]; rfl
  have := key (n + 1) 0 0 (by omega) (by omega) (fun b _ => b_0 b) (fun s hs => by omega)
  rw [h00] at this
  exact Exists.intro (n + 1) this
end
end
section
/-! the component: the rising sets; explore -/
theorem sq_rep (a : Nat → Int32) : ∃ f : Nat → Nat, a = sq_nA f := by
  refine ⟨fun i => (a i).toBitVec.toNat, ?_⟩
  funext i
  apply Int32.toBitVec_inj.1
  show (a i).toBitVec = BitVec.ofNat 32 (a i).toBitVec.toNat
  simp
theorem sq_fac6 : ∀ n, n ≤ 6 → sq_fac n ≤ 720 := by decide +kernel
theorem sq_cd_det {n m : Nat} {q p : Nat → Nat} (hq : sq_cd n m q) (hp : sq_cd n m p) : ∀ t, t < n → q t = p t := by
  intro t
  induction t using Nat.strongRecOn with
  | ind t ih =>
    intro ht
    have e : sq_dn q t = sq_dn p t := sq_dn_ext (fun s hs => ih s hs (by omega))
    have eu : sq_ud q t = sq_ud p t := by
      funext i
      show (!sq_dn q t i) = (!sq_dn p t i)
      rw [e]
    obtain ⟨a1, a2, a3⟩ := hq t ht
    obtain ⟨b1, b2, b3⟩ := hp t ht
    rw [← b3, eu] at a3
    refine sq_cn_inj (p := sq_ud p t) ?_ ?_ a3
    · show (!sq_dn p t (q t)) = true
      rw [← e, a2]; rfl
    · show (!sq_dn p t (p t)) = true
      rw [b2]; rfl
theorem sq_fx_ext {ow kd vr vl q p : Nat → Nat} : ∀ {t : Nat}, (∀ s, s < t → q s = p s) → sq_fx ow kd vr vl q t = sq_fx ow kd vr vl p t := by
  intro t
  induction t with
  | zero => intro _; rfl
  | succ t ih =>
    intro h
    rw [sq_fx_s, sq_fx_s, ih (fun s hs => h s (by omega)), h t (by omega), sq_dn_ext (fun s hs => h s (by omega) : ∀ s, s < t → q s = p s)]
theorem sq_va_ext {n : Nat} {ow kd q p : Nat → Nat} {F : Nat → Bool} (h : ∀ s, s < n → q s = p s) (hv : sq_va n ow kd F q) : sq_va n ow kd F p := by
  intro t ht i hi
  rw [← h t ht] at hi
  have := hv t ht i hi
  rw [sq_dn_ext (fun s hs => h s (by omega) : ∀ s, s < t → q s = p s)] at this
  exact this
noncomputable def sq_Q (n m : Nat) : Nat → Nat := Classical.choose (sq_cd_ex n m)
theorem sq_Qc (n m : Nat) : sq_cd n m (sq_Q n m) := Classical.choose_spec (sq_cd_ex n m)
def sq_Pk (n : Nat) (ow kd vr vl : Nat → Nat) (F : Nat → Bool) (k o : Nat) : Prop := ∃ m, m < k ∧ sq_va n ow kd F (sq_Q n m) ∧ o = sq_sm (sq_fx ow kd vr vl (sq_Q n m) n) 9
theorem sq_Pk_all {n : Nat} {ow kd vr vl : Nat → Nat} {F : Nat → Bool} (o : Nat) : sq_Pk n ow kd vr vl F (sq_fac n) o ↔ sq_PX n ow kd vr vl F o := by
  constructor
  · rintro ⟨m, _, hv, e⟩
    exact ⟨sq_Q n m, sq_cd_pm (sq_Qc n m), hv, e⟩
  · rintro ⟨q, hm, hv, e⟩
    obtain ⟨m, hmf, hc⟩ := sq_cd_all hm
    have hd := sq_cd_det hc (sq_Qc n m)
    exact ⟨m, hmf, sq_va_ext hd hv, by rw [e, sq_fx_ext hd]⟩
theorem sq_PX_lt {n : Nat} {ow kd vr vl : Nat → Nat} {F : Nat → Bool} (hl : ∀ i, vl i < 4) {o : Nat} (h : sq_PX n ow kd vr vl F o) : o < 262144 := by
  obtain ⟨q, _, _, e⟩ := h
  rw [e]
  exact sq_sm_lt (sq_fx4 hl q n) 9
section
variable {n : Nat} {ow kd vr vl : Nat → Nat} {f_explored f_loadCount f_orderCount f_lateCount f_strictCount : Int32} {a_lateSet a_strictSet a_place a_earlier : Nat → Int32}
theorem sq_xFnl_lateSet {f : Nat → Nat} {c : Nat} {x : Int32} {post : Int32 → Prop} (hc : c ≤ 720) (h : ∀ a, a ≤ c → (∀ i, i < a → ¬ x ≤ nI (f i)) → (a < c → x ≤ nI (f a)) → post (nI a)) : wpX_firstNotLess__lateSet post ((nI n), f_explored, f_loadCount, f_orderCount, f_lateCount, f_strictCount, (sq_nA ow), (sq_nA kd), (sq_nA vr), (sq_nA vl), (sq_nA f), a_strictSet, a_place, a_earlier) (nI c) x := by
  have key : ∀ N a, c - a < N → a ≤ c → (∀ i, i < a → ¬ x ≤ nI (f i)) → wX_firstNotLess__lateSet_3 post (nI c) x (nI n) f_explored f_loadCount f_orderCount f_lateCount f_strictCount (sq_nA ow) (sq_nA kd) (sq_nA vr) (sq_nA vl) (sq_nA f) a_strictSet a_place a_earlier N (nI a) := by
    intro N
    induction N with
    | zero => intro a h1; omega
    | succ N ih =>
      intro a h1 h2 ha
      refine pk_le c a (fun h3 => h a h2 ha (fun z => by omega)) (fun h3 => ⟨pk_in a 720 (by omega), ?_⟩)
      rw [sq_at f (by omega)]
      refine br_c (fun h4 => h a h2 ha (fun _ => h4)) (fun h4 => nm_r (nI_1 a) (ih (a + 1) (by omega) (by omega) (fun i hi => ?_)))
      by_cases e : i = a
      · rw [e]; exact h4
      · exact ha i (by omega)
  exact Exists.intro (c + 1) (key (c + 1) 0 (by omega) (by omega) (fun i hi => by omega))
theorem sq_xHas_lateSet {f : Nat → Nat} {c : Nat} {x : Int32} {post : Int32 → Prop} (hc : c ≤ 720) (hf : ∀ i, i < c → f i < 262144) (hup : ∀ i j, i < j → j < c → f i < f j) (h1 : (∃ i, i < c ∧ nI (f i) = x) → post 1) (h0 : (¬ ∃ i, i < c ∧ nI (f i) = x) → post 0) : wpX_contains__lateSet post ((nI n), f_explored, f_loadCount, f_orderCount, f_lateCount, f_strictCount, (sq_nA ow), (sq_nA kd), (sq_nA vr), (sq_nA vl), (sq_nA f), a_strictSet, a_place, a_earlier) (nI c) x := by
  refine sq_xFnl_lateSet hc (fun a ha hlo hhi => ?_)
  refine pk_le c a (fun h3 => h0 ?_) (fun h3 => ⟨pk_in a 720 (by omega), ?_⟩)
  · rintro ⟨i, hi, e⟩
    exact hlo i (by omega) (by rw [e]; exact Int32.le_refl _)
  · rw [sq_at f (by omega)]
    refine br_c (fun h4 => h1 ⟨a, h3, h4⟩) (fun h4 => h0 ?_)
    rintro ⟨i, hi, e⟩
    rcases Nat.lt_trichotomy i a with z | z | z
    · exact hlo i z (by rw [e]; exact Int32.le_refl _)
    · rw [z] at e; exact h4 e
    · have h5 := hhi h3
      have h6 := hup a i z hi
      have h7 := hf i hi
      rw [← e] at h5
      exact nI_ge h6 (by omega) h5
theorem sq_xPutL_lateSet {f : Nat → Nat} {c a o : Nat} {post : Int32 → SX → Prop} (hc : c < 720) (h : post (nI (c + 1)) ((nI n), f_explored, f_loadCount, f_orderCount, f_lateCount, f_strictCount, (sq_nA ow), (sq_nA kd), (sq_nA vr), (sq_nA vl), (sq_nA (sq_pu f c a o)), a_strictSet, a_place, a_earlier)) : ∀ N i, i < N → a ≤ i → i ≤ c → wX_insert__lateSet_47 post (nI c) (nI o) (nI a) (nI n) f_explored f_loadCount f_orderCount f_lateCount f_strictCount N (nI i) (sq_nA ow) (sq_nA kd) (sq_nA vr) (sq_nA vl) (sq_nA (sq_ps f c i)) a_strictSet a_place a_earlier := by
  intro N
  induction N with
  | zero => intro i h1; omega
  | succ N ih =>
    intro i h1 h2 h3
    refine pk_le i a (fun h4 => ?_) (fun h4 => ?_)
    · have ei : i = a := by omega
      subst ei
      refine ⟨pk_in i 720 (by omega), nm_r (sq_sto _ o (by omega)) ?_⟩
      rw [sq_ps_e, nI_1]
      exact h
    · obtain ⟨j, rfl⟩ : ∃ j, i = j + 1 := ⟨i - 1, by omega⟩
      have hp : nI (j + 1) - 1 = nI j := nI_pred j
      have cp : upd (sq_nA (sq_ps f c (j + 1))) (nI (j + 1)).toNatClampNeg (sq_nA (sq_ps f c (j + 1)) (nI (j + 1) - 1).toNatClampNeg) = sq_nA (sq_ps f c j) := by
        rw [hp, sq_cpy _ (by omega) (by omega), sq_ps_s f (by omega)]
      exact ⟨pk_in j 720 (by omega) hp, pk_in (j + 1) 720 (by omega), nm_r cp (nm_r (pk_m1 j) (ih j (by omega) (by omega) (by omega)))⟩
theorem sq_xPut_lateSet {f : Nat → Nat} {c o : Nat} {P : Nat → Prop} {post : Int32 → SX → Prop} (hc : c < 720) (ho : o < 262144) (hP : ∀ o, P o → o < 262144) (hS : sq_SS f c P) (h : ∀ f' c', c' ≤ c + 1 → sq_SS f' c' (fun x => P x ∨ x = o) → post (nI c') ((nI n), f_explored, f_loadCount, f_orderCount, f_lateCount, f_strictCount, (sq_nA ow), (sq_nA kd), (sq_nA vr), (sq_nA vl), (sq_nA f'), a_strictSet, a_place, a_earlier)) : wpX_insert__lateSet post ((nI n), f_explored, f_loadCount, f_orderCount, f_lateCount, f_strictCount, (sq_nA ow), (sq_nA kd), (sq_nA vr), (sq_nA vl), (sq_nA f), a_strictSet, a_place, a_earlier) (nI c) (nI o) := by
  have hf : ∀ i, i < c → f i < 262144 := fun i hi => hP _ ((hS.2 _).mpr ⟨i, hi, rfl⟩)
  refine sq_xFnl_lateSet (by omega) (fun a ha hlo hhi => ?_)
  have hlo' : ∀ i, i < a → f i < o := by
    intro i hi
    have h1 := hlo i hi
    have h2 := hf i (by omega)
    rw [nI_leI (by omega) (by omega)] at h1
    omega
  have fin : (a < c → o < f a) → wX_insert__lateSet_28 post (nI c) (nI o) (nI a) 0 (nI n) f_explored f_loadCount f_orderCount f_lateCount f_strictCount (sq_nA ow) (sq_nA kd) (sq_nA vr) (sq_nA vl) (sq_nA f) a_strictSet a_place a_earlier := by
    intro hne
    refine br_t rfl (pk_lt c 720 (fun _ => Exists.intro (c + 1) ?_) (fun z => by omega))
    have := sq_xPutL_lateSet (n := n) (ow := ow) (kd := kd) (vr := vr) (vl := vl) hc (h _ _ (Nat.le_refl _) (sq_SS_in hS ha hlo' hne)) (c + 1) c (by omega) ha (Nat.le_refl _)
    rw [sq_ps_0] at this
    exact this
  refine pk_le c a (fun h3 => fin (fun z => by omega)) (fun h3 => ⟨pk_in a 720 (by omega), ?_⟩)
  have h5 := hhi h3
  have h6 := hf a h3
  rw [nI_leI (by omega) (by omega)] at h5
  refine pk_eq (f a) o (fun h4 => ?_) (fun h4 => fin (fun _ => by omega)) (sq_at f (by omega)) rfl (by omega) (by omega)
  exact br_f (by decide) (h f c (by omega) (sq_SS_old hS ((hS.2 o).mpr ⟨a, h3, h4⟩)))
theorem sq_xCol_lateSet {F : Int32} {la0 : Nat → Nat} {post : Int32 → SX → Prop} (hW : sq_W n ow kd vr vl) (hP : ∀ i, i < n → a_place i = nI (2 * sq_sl kd vr i)) (h : ∀ (la : Nat → Nat) (L : Nat) (A : Nat → Int32), L ≤ 720 → sq_SS la L (sq_PX n ow kd vr vl (bt F)) → post (nI L) ((nI n), f_explored, f_loadCount, (nI (sq_fac n)), f_lateCount, f_strictCount, (sq_nA ow), (sq_nA kd), (sq_nA vr), (sq_nA vl), (sq_nA la), a_strictSet, a_place, A)) : wpX_collect__lateSet post ((nI n), f_explored, f_loadCount, (nI (sq_fac n)), f_lateCount, f_strictCount, (sq_nA ow), (sq_nA kd), (sq_nA vr), (sq_nA vl), (sq_nA la0), a_strictSet, a_place, a_earlier) F := by
  obtain ⟨hn, hw, hk3, hv3, hl4, _⟩ := id hW
  have h720 := sq_fac6 n hn
  refine sq_xEar hn hw hk3 (fun A hA => ?_)
  have key : ∀ N k c (la : Nat → Nat), sq_fac n - k < N → k ≤ sq_fac n → c ≤ k → sq_SS la c (sq_Pk n ow kd vr vl (bt F) k) → wX_collect__lateSet_10 post N (nI c) (nI k) (nI n) f_explored f_loadCount (nI (sq_fac n)) f_lateCount f_strictCount (sq_nA ow) (sq_nA kd) (sq_nA vr) (sq_nA vl) (sq_nA la) a_strictSet a_place A := by
    intro N
    induction N with
    | zero => intro k c la h1; omega
    | succ N ih =>
      intro k c la h1 h2 h3 hS
      refine pk_le (sq_fac n) k (fun h4 => ?_) (fun h4 => ?_)
      · have ek : k = sq_fac n := by omega
        subst ek
        exact h la c A (by omega) (sq_SS_c hS (fun o => sq_Pk_all o))
      · refine sq_xOut (F := F) hW (by omega) (sq_Qc n k) hA hP (fun hv => ?_) (fun hv => ?_)
        · have hlt := sq_sm_lt (sq_fx4 (ow := ow) (kd := kd) (vr := vr) (vl := vl) hl4 (sq_Q n k) n) 9
          have hlt' : sq_sm (sq_fx ow kd vr vl (sq_Q n k) n) 9 < 262144 := hlt
          have hne : ¬ nI (sq_sm (sq_fx ow kd vr vl (sq_Q n k) n) 9) = -4 := by
            intro z
            have := nI_pos (n := sq_sm (sq_fx ow kd vr vl (sq_Q n k) n) 9) (by omega)
            rw [z] at this
            exact this (by decide)
          refine br_f hne ?_
          refine sq_xPut_lateSet (P := sq_Pk n ow kd vr vl (bt F) k) (by omega) hlt' ?_ hS (fun f' c' hc' hS' => nm_r (nI_1 k) (ih (k + 1) c' f' (by omega) (by omega) (by omega) (sq_SS_c hS' (fun o => ?_))))
          · rintro o ⟨m, _, _, e⟩
            rw [e]
            exact sq_sm_lt (sq_fx4 hl4 _ n) 9
          · constructor
            · rintro (⟨m, hm, a, b⟩ | e)
              · exact ⟨m, by omega, a, b⟩
              · exact ⟨k, by omega, hv, e⟩
            · rintro ⟨m, hm, a, b⟩
              by_cases e : m = k
              · right; rw [b, e]
              · left; exact ⟨m, by omega, a, b⟩
        · refine br_t rfl (nm_r (nI_1 k) (ih (k + 1) c la (by omega) (by omega) (by omega) (sq_SS_c hS (fun o => ?_))))
          constructor
          · rintro ⟨m, hm, a, b⟩
            exact ⟨m, by omega, a, b⟩
          · rintro ⟨m, hm, a, b⟩
            by_cases e : m = k
            · rw [e] at a; exact absurd a hv
            · exact ⟨m, by omega, a, b⟩
  exact Exists.intro (sq_fac n + 1) (key (sq_fac n + 1) 0 0 la0 (by omega) (by omega) (by omega) (sq_SS_0 _ (fun o z => by obtain ⟨m, hm, _⟩ := z; omega)))
theorem sq_xFnl_strictSet {f : Nat → Nat} {c : Nat} {x : Int32} {post : Int32 → Prop} (hc : c ≤ 720) (h : ∀ a, a ≤ c → (∀ i, i < a → ¬ x ≤ nI (f i)) → (a < c → x ≤ nI (f a)) → post (nI a)) : wpX_firstNotLess__strictSet post ((nI n), f_explored, f_loadCount, f_orderCount, f_lateCount, f_strictCount, (sq_nA ow), (sq_nA kd), (sq_nA vr), (sq_nA vl), a_lateSet, (sq_nA f), a_place, a_earlier) (nI c) x := by
  have key : ∀ N a, c - a < N → a ≤ c → (∀ i, i < a → ¬ x ≤ nI (f i)) → wX_firstNotLess__strictSet_3 post (nI c) x (nI n) f_explored f_loadCount f_orderCount f_lateCount f_strictCount (sq_nA ow) (sq_nA kd) (sq_nA vr) (sq_nA vl) a_lateSet (sq_nA f) a_place a_earlier N (nI a) := by
    intro N
    induction N with
    | zero => intro a h1; omega
    | succ N ih =>
      intro a h1 h2 ha
      refine pk_le c a (fun h3 => h a h2 ha (fun z => by omega)) (fun h3 => ⟨pk_in a 720 (by omega), ?_⟩)
      rw [sq_at f (by omega)]
      refine br_c (fun h4 => h a h2 ha (fun _ => h4)) (fun h4 => nm_r (nI_1 a) (ih (a + 1) (by omega) (by omega) (fun i hi => ?_)))
      by_cases e : i = a
      · rw [e]; exact h4
      · exact ha i (by omega)
  exact Exists.intro (c + 1) (key (c + 1) 0 (by omega) (by omega) (fun i hi => by omega))
theorem sq_xHas_strictSet {f : Nat → Nat} {c : Nat} {x : Int32} {post : Int32 → Prop} (hc : c ≤ 720) (hf : ∀ i, i < c → f i < 262144) (hup : ∀ i j, i < j → j < c → f i < f j) (h1 : (∃ i, i < c ∧ nI (f i) = x) → post 1) (h0 : (¬ ∃ i, i < c ∧ nI (f i) = x) → post 0) : wpX_contains__strictSet post ((nI n), f_explored, f_loadCount, f_orderCount, f_lateCount, f_strictCount, (sq_nA ow), (sq_nA kd), (sq_nA vr), (sq_nA vl), a_lateSet, (sq_nA f), a_place, a_earlier) (nI c) x := by
  refine sq_xFnl_strictSet hc (fun a ha hlo hhi => ?_)
  refine pk_le c a (fun h3 => h0 ?_) (fun h3 => ⟨pk_in a 720 (by omega), ?_⟩)
  · rintro ⟨i, hi, e⟩
    exact hlo i (by omega) (by rw [e]; exact Int32.le_refl _)
  · rw [sq_at f (by omega)]
    refine br_c (fun h4 => h1 ⟨a, h3, h4⟩) (fun h4 => h0 ?_)
    rintro ⟨i, hi, e⟩
    rcases Nat.lt_trichotomy i a with z | z | z
    · exact hlo i z (by rw [e]; exact Int32.le_refl _)
    · rw [z] at e; exact h4 e
    · have h5 := hhi h3
      have h6 := hup a i z hi
      have h7 := hf i hi
      rw [← e] at h5
      exact nI_ge h6 (by omega) h5
theorem sq_xPutL_strictSet {f : Nat → Nat} {c a o : Nat} {post : Int32 → SX → Prop} (hc : c < 720) (h : post (nI (c + 1)) ((nI n), f_explored, f_loadCount, f_orderCount, f_lateCount, f_strictCount, (sq_nA ow), (sq_nA kd), (sq_nA vr), (sq_nA vl), a_lateSet, (sq_nA (sq_pu f c a o)), a_place, a_earlier)) : ∀ N i, i < N → a ≤ i → i ≤ c → wX_insert__strictSet_47 post (nI c) (nI o) (nI a) (nI n) f_explored f_loadCount f_orderCount f_lateCount f_strictCount N (nI i) (sq_nA ow) (sq_nA kd) (sq_nA vr) (sq_nA vl) a_lateSet (sq_nA (sq_ps f c i)) a_place a_earlier := by
  intro N
  induction N with
  | zero => intro i h1; omega
  | succ N ih =>
    intro i h1 h2 h3
    refine pk_le i a (fun h4 => ?_) (fun h4 => ?_)
    · have ei : i = a := by omega
      subst ei
      refine ⟨pk_in i 720 (by omega), nm_r (sq_sto _ o (by omega)) ?_⟩
      rw [sq_ps_e, nI_1]
      exact h
    · obtain ⟨j, rfl⟩ : ∃ j, i = j + 1 := ⟨i - 1, by omega⟩
      have hp : nI (j + 1) - 1 = nI j := nI_pred j
      have cp : upd (sq_nA (sq_ps f c (j + 1))) (nI (j + 1)).toNatClampNeg (sq_nA (sq_ps f c (j + 1)) (nI (j + 1) - 1).toNatClampNeg) = sq_nA (sq_ps f c j) := by
        rw [hp, sq_cpy _ (by omega) (by omega), sq_ps_s f (by omega)]
      exact ⟨pk_in j 720 (by omega) hp, pk_in (j + 1) 720 (by omega), nm_r cp (nm_r (pk_m1 j) (ih j (by omega) (by omega) (by omega)))⟩
theorem sq_xPut_strictSet {f : Nat → Nat} {c o : Nat} {P : Nat → Prop} {post : Int32 → SX → Prop} (hc : c < 720) (ho : o < 262144) (hP : ∀ o, P o → o < 262144) (hS : sq_SS f c P) (h : ∀ f' c', c' ≤ c + 1 → sq_SS f' c' (fun x => P x ∨ x = o) → post (nI c') ((nI n), f_explored, f_loadCount, f_orderCount, f_lateCount, f_strictCount, (sq_nA ow), (sq_nA kd), (sq_nA vr), (sq_nA vl), a_lateSet, (sq_nA f'), a_place, a_earlier)) : wpX_insert__strictSet post ((nI n), f_explored, f_loadCount, f_orderCount, f_lateCount, f_strictCount, (sq_nA ow), (sq_nA kd), (sq_nA vr), (sq_nA vl), a_lateSet, (sq_nA f), a_place, a_earlier) (nI c) (nI o) := by
  have hf : ∀ i, i < c → f i < 262144 := fun i hi => hP _ ((hS.2 _).mpr ⟨i, hi, rfl⟩)
  refine sq_xFnl_strictSet (by omega) (fun a ha hlo hhi => ?_)
  have hlo' : ∀ i, i < a → f i < o := by
    intro i hi
    have h1 := hlo i hi
    have h2 := hf i (by omega)
    rw [nI_leI (by omega) (by omega)] at h1
    omega
  have fin : (a < c → o < f a) → wX_insert__strictSet_28 post (nI c) (nI o) (nI a) 0 (nI n) f_explored f_loadCount f_orderCount f_lateCount f_strictCount (sq_nA ow) (sq_nA kd) (sq_nA vr) (sq_nA vl) a_lateSet (sq_nA f) a_place a_earlier := by
    intro hne
    refine br_t rfl (pk_lt c 720 (fun _ => Exists.intro (c + 1) ?_) (fun z => by omega))
    have := sq_xPutL_strictSet (n := n) (ow := ow) (kd := kd) (vr := vr) (vl := vl) hc (h _ _ (Nat.le_refl _) (sq_SS_in hS ha hlo' hne)) (c + 1) c (by omega) ha (Nat.le_refl _)
    rw [sq_ps_0] at this
    exact this
  refine pk_le c a (fun h3 => fin (fun z => by omega)) (fun h3 => ⟨pk_in a 720 (by omega), ?_⟩)
  have h5 := hhi h3
  have h6 := hf a h3
  rw [nI_leI (by omega) (by omega)] at h5
  refine pk_eq (f a) o (fun h4 => ?_) (fun h4 => fin (fun _ => by omega)) (sq_at f (by omega)) rfl (by omega) (by omega)
  exact br_f (by decide) (h f c (by omega) (sq_SS_old hS ((hS.2 o).mpr ⟨a, h3, h4⟩)))
theorem sq_xCol_strictSet {F : Int32} {la0 : Nat → Nat} {post : Int32 → SX → Prop} (hW : sq_W n ow kd vr vl) (hP : ∀ i, i < n → a_place i = nI (2 * sq_sl kd vr i)) (h : ∀ (la : Nat → Nat) (L : Nat) (A : Nat → Int32), L ≤ 720 → sq_SS la L (sq_PX n ow kd vr vl (bt F)) → post (nI L) ((nI n), f_explored, f_loadCount, (nI (sq_fac n)), f_lateCount, f_strictCount, (sq_nA ow), (sq_nA kd), (sq_nA vr), (sq_nA vl), a_lateSet, (sq_nA la), a_place, A)) : wpX_collect__strictSet post ((nI n), f_explored, f_loadCount, (nI (sq_fac n)), f_lateCount, f_strictCount, (sq_nA ow), (sq_nA kd), (sq_nA vr), (sq_nA vl), a_lateSet, (sq_nA la0), a_place, a_earlier) F := by
  obtain ⟨hn, hw, hk3, hv3, hl4, _⟩ := id hW
  have h720 := sq_fac6 n hn
  refine sq_xEar hn hw hk3 (fun A hA => ?_)
  have key : ∀ N k c (la : Nat → Nat), sq_fac n - k < N → k ≤ sq_fac n → c ≤ k → sq_SS la c (sq_Pk n ow kd vr vl (bt F) k) → wX_collect__strictSet_10 post N (nI c) (nI k) (nI n) f_explored f_loadCount (nI (sq_fac n)) f_lateCount f_strictCount (sq_nA ow) (sq_nA kd) (sq_nA vr) (sq_nA vl) a_lateSet (sq_nA la) a_place A := by
    intro N
    induction N with
    | zero => intro k c la h1; omega
    | succ N ih =>
      intro k c la h1 h2 h3 hS
      refine pk_le (sq_fac n) k (fun h4 => ?_) (fun h4 => ?_)
      · have ek : k = sq_fac n := by omega
        subst ek
        exact h la c A (by omega) (sq_SS_c hS (fun o => sq_Pk_all o))
      · refine sq_xOut (F := F) hW (by omega) (sq_Qc n k) hA hP (fun hv => ?_) (fun hv => ?_)
        · have hlt := sq_sm_lt (sq_fx4 (ow := ow) (kd := kd) (vr := vr) (vl := vl) hl4 (sq_Q n k) n) 9
          have hlt' : sq_sm (sq_fx ow kd vr vl (sq_Q n k) n) 9 < 262144 := hlt
          have hne : ¬ nI (sq_sm (sq_fx ow kd vr vl (sq_Q n k) n) 9) = -4 := by
            intro z
            have := nI_pos (n := sq_sm (sq_fx ow kd vr vl (sq_Q n k) n) 9) (by omega)
            rw [z] at this
            exact this (by decide)
          refine br_f hne ?_
          refine sq_xPut_strictSet (P := sq_Pk n ow kd vr vl (bt F) k) (by omega) hlt' ?_ hS (fun f' c' hc' hS' => nm_r (nI_1 k) (ih (k + 1) c' f' (by omega) (by omega) (by omega) (sq_SS_c hS' (fun o => ?_))))
          · rintro o ⟨m, _, _, e⟩
            rw [e]
            exact sq_sm_lt (sq_fx4 hl4 _ n) 9
          · constructor
            · rintro (⟨m, hm, a, b⟩ | e)
              · exact ⟨m, by omega, a, b⟩
              · exact ⟨k, by omega, hv, e⟩
            · rintro ⟨m, hm, a, b⟩
              by_cases e : m = k
              · right; rw [b, e]
              · left; exact ⟨m, by omega, a, b⟩
        · refine br_t rfl (nm_r (nI_1 k) (ih (k + 1) c la (by omega) (by omega) (by omega) (sq_SS_c hS (fun o => ?_))))
          constructor
          · rintro ⟨m, hm, a, b⟩
            exact ⟨m, by omega, a, b⟩
          · rintro ⟨m, hm, a, b⟩
            by_cases e : m = k
            · rw [e] at a; exact absurd a hv
            · exact ⟨m, by omega, a, b⟩
  exact Exists.intro (sq_fac n + 1) (key (sq_fac n + 1) 0 0 la0 (by omega) (by omega) (by omega) (sq_SS_0 _ (fun o z => by obtain ⟨m, hm, _⟩ := z; omega)))
theorem sq_xExp {post : SX → Prop} (hW : sq_W n ow kd vr vl) (hX : f_explored = 0 ∨ sq_XE n ow kd vr vl f_loadCount f_orderCount f_lateCount f_strictCount a_lateSet a_strictSet a_place)
    (h : ∀ (f_explored f_loadCount f_orderCount f_lateCount f_strictCount : Int32) (a_lateSet a_strictSet a_place a_earlier : Nat → Int32), sq_XE n ow kd vr vl f_loadCount f_orderCount f_lateCount f_strictCount a_lateSet a_strictSet a_place → post ((nI n), f_explored, f_loadCount, f_orderCount, f_lateCount, f_strictCount, (sq_nA ow), (sq_nA kd), (sq_nA vr), (sq_nA vl), a_lateSet, a_strictSet, a_place, a_earlier)) : wpX_explore post ((nI n), f_explored, f_loadCount, f_orderCount, f_lateCount, f_strictCount, (sq_nA ow), (sq_nA kd), (sq_nA vr), (sq_nA vl), a_lateSet, a_strictSet, a_place, a_earlier) := by
  obtain ⟨hn, hw, hk3, hv3, hl4, _⟩ := id hW
  refine br_c (fun _ => ?_) (fun h0 => h _ _ _ _ _ _ _ _ _ (hX.resolve_left h0))
  refine sq_xPlaces hn hk3 hv3 (fun p hp => ?_)
  refine sq_xCount hn ?_
  obtain ⟨la0, rfl⟩ := sq_rep a_lateSet
  obtain ⟨ss0, rfl⟩ := sq_rep a_strictSet
  refine sq_xCol_lateSet hW hp (fun la L A hL hS => ?_)
  refine sq_xCol_strictSet hW hp (fun ss S B hS2 hSS => ?_)
  exact h _ _ _ _ _ _ _ _ _ ⟨rfl, rfl, hp, L, S, la, ss, rfl, rfl, rfl, rfl, hL, hS2, hS, hSS⟩
end
end
section
/-! the reference: which instruction is which store and load, and the relation's bits -/
def sq_St (n : Nat) (kd : Nat → Nat) (st : Nat → Int32) : Prop := ∀ j, j < n → kd j = 0 → st (sq_cn (sq_ls kd) j) = nI j
def sq_Ld (n : Nat) (kd : Nat → Nat) (ld : Nat → Int32) : Prop := ∀ j, j < n → kd j = 1 → ld (sq_cn (sq_ll kd) j) = nI j
theorem sq_lsT {kd : Nat → Nat} {j : Nat} : sq_ls kd j = true ↔ kd j = 0 := by show decide (kd j = 0) = true ↔ _; rw [decide_eq_true_eq]
theorem sq_llT {kd : Nat → Nat} {j : Nat} : sq_ll kd j = true ↔ kd j = 1 := by show decide (kd j = 1) = true ↔ _; rw [decide_eq_true_eq]
theorem sq_lsF {kd : Nat → Nat} {j : Nat} (h : kd j ≠ 0) : sq_ls kd j = false := decide_eq_false h
theorem sq_llF {kd : Nat → Nat} {j : Nat} (h : kd j ≠ 1) : sq_ll kd j = false := decide_eq_false h
section
variable {n : Nat} {ow kd vr vl : Nat → Nat} {yf_fences yf_storeCount yf_loadCount yf_listed yf_strictListed : Int32} {ya_stores ya_loads ya_found ya_place ya_after ya_list ya_strictList : Nat → Int32}
theorem sq_ySort {post : SY → Prop} (hn : n ≤ 6) (hk3 : ∀ i, kd i < 3) (h : ∀ st ld : Nat → Int32, sq_St n kd st → sq_Ld n kd ld → post ((nI n), yf_fences, (nI (sq_cn (sq_ls kd) n)), (nI (sq_cn (sq_ll kd) n)), yf_listed, yf_strictListed, (sq_nA kd), (sq_nA ow), (sq_nA vr), (sq_nA vl), st, ld, ya_found, ya_place, ya_after, ya_list, ya_strictList)) : wpY_sortOut post ((nI n), yf_fences, yf_storeCount, yf_loadCount, yf_listed, yf_strictListed, (sq_nA kd), (sq_nA ow), (sq_nA vr), (sq_nA vl), ya_stores, ya_loads, ya_found, ya_place, ya_after, ya_list, ya_strictList) := by
  have key : ∀ N i (st ld : Nat → Int32), n - i < N → i ≤ n → sq_St i kd st → sq_Ld i kd ld → wY_sortOut_12 post (nI n) yf_fences yf_listed yf_strictListed N (nI i) (nI (sq_cn (sq_ls kd) i)) (nI (sq_cn (sq_ll kd) i)) (sq_nA kd) (sq_nA ow) (sq_nA vr) (sq_nA vl) st ld ya_found ya_place ya_after ya_list ya_strictList := by
    intro N
    induction N with
    | zero => intro i st ld h1; omega
    | succ N ih =>
      intro i st ld h1 h2 hS hL
      have hki := hk3 i
      have c1 := sq_cn_le (sq_ls kd) i
      have c2 := sq_cn_le (sq_ll kd) i
      refine pk_le n i (fun h3 => ?_) (fun h3 => ⟨pk_in i 6 (by omega), pk_eq (kd i) 0 (fun k0 => ?_) (fun k0 => ?_) (sq_at kd (by omega)) rfl (by omega) (by omega)⟩)
      · have ei : i = n := by omega
        subst ei
        exact h st ld hS hL
      · have g := ih (i + 1) (upd st (nI (sq_cn (sq_ls kd) i)).toNatClampNeg (nI i)) ld (by omega) (by omega) (by
          intro j hj hj0
          rw [nI_clamp (by omega)]
          by_cases e : j = i
          · rw [e, pk_us]
          · have := sq_cn_lo (p := sq_ls kd) (i := j) (j := i) (sq_lsT.mpr hj0) (by omega)
            rw [pk_un (by omega)]
            exact hS j (by omega) hj0) (by
          intro j hj hj1
          by_cases e : j = i
          · rw [e] at hj1; omega
          · exact hL j (by omega) hj1)
        rw [sq_cn_t (sq_lsT.mpr k0), sq_cn_f (sq_llF (by omega : kd i ≠ 1))] at g
        exact ⟨pk_in (sq_cn (sq_ls kd) i) 6 (by omega), nm_e (nm_r (nI_1 _) ⟨pk_in i 6 (by omega), pk_eq (kd i) 1 (fun z => by omega) (fun _ => nm_r (nI_1 i) g) (sq_at kd (by omega)) rfl (by omega) (by omega)⟩)⟩
      · refine ⟨pk_in i 6 (by omega), pk_eq (kd i) 1 (fun k1 => ?_) (fun k1 => ?_) (sq_at kd (by omega)) rfl (by omega) (by omega)⟩
        · have g := ih (i + 1) st (upd ld (nI (sq_cn (sq_ll kd) i)).toNatClampNeg (nI i)) (by omega) (by omega) (by
            intro j hj hj0
            by_cases e : j = i
            · rw [e] at hj0; omega
            · exact hS j (by omega) hj0) (by
            intro j hj hj1
            rw [nI_clamp (by omega)]
            by_cases e : j = i
            · rw [e, pk_us]
            · have := sq_cn_lo (p := sq_ll kd) (i := j) (j := i) (sq_llT.mpr hj1) (by omega)
              rw [pk_un (by omega)]
              exact hL j (by omega) hj1)
          rw [sq_cn_f (sq_lsF k0), sq_cn_t (sq_llT.mpr k1)] at g
          exact ⟨pk_in (sq_cn (sq_ll kd) i) 6 (by omega), nm_e (nm_r (nI_1 _) (nm_r (nI_1 i) g))⟩
        · have g := ih (i + 1) st ld (by omega) (by omega) (by
            intro j hj hj0
            by_cases e : j = i
            · rw [e] at hj0; omega
            · exact hS j (by omega) hj0) (by
            intro j hj hj1
            by_cases e : j = i
            · rw [e] at hj1; omega
            · exact hL j (by omega) hj1)
          rw [sq_cn_f (sq_lsF k0), sq_cn_f (sq_llF k1)] at g
          exact nm_r (nI_1 i) g
  exact Exists.intro (n + 1) (key (n + 1) 0 ya_stores ya_loads (by omega) (by omega) (fun j hj => by omega) (fun j hj => by omega))
theorem sq_yFen {a b : Nat} {post : Int32 → Prop} (hb : b ≤ 6) (hab : a ≤ b) (hk3 : ∀ i, kd i < 3) (h1 : (∃ i, a ≤ i ∧ i < b ∧ (bt yf_fences i = true ∨ kd i = 2)) → post 1) (h0 : (∀ i, a ≤ i → i < b → bt yf_fences i = false ∧ kd i ≠ 2) → post 0) : wpY_isFenced post ((nI n), yf_fences, yf_storeCount, yf_loadCount, yf_listed, yf_strictListed, (sq_nA kd), (sq_nA ow), (sq_nA vr), (sq_nA vl), ya_stores, ya_loads, ya_found, ya_place, ya_after, ya_list, ya_strictList) (nI a) (nI b) := by
  have key : ∀ N i, b - i < N → a ≤ i → i ≤ b → (∀ l, a ≤ l → l < i → bt yf_fences l = false ∧ kd l ≠ 2) → wY_isFenced_2 post (nI b) (nI n) yf_fences yf_storeCount yf_loadCount yf_listed yf_strictListed (sq_nA kd) (sq_nA ow) (sq_nA vr) (sq_nA vl) ya_stores ya_loads ya_found ya_place ya_after ya_list ya_strictList N (nI i) := by
    intro N
    induction N with
    | zero => intro i h1; omega
    | succ N ih =>
      intro i g1 g2 g3 hl
      have hki := hk3 i
      refine pk_le b i (fun g4 => h0 (fun l x y => hl l x (by omega))) (fun g4 => ek_if (sq_bit1 yf_fences (k := i) (by omega)) (fun z => h1 ⟨i, g2, g4, Or.inl z⟩) (fun z => ⟨pk_in i 6 (by omega), pk_eq (kd i) 2 (fun k2 => h1 ⟨i, g2, g4, Or.inr k2⟩) (fun k2 => nm_r (nI_1 i) (ih (i + 1) (by omega) (by omega) (by omega) (fun l x y => ?_))) (sq_at kd (by omega)) rfl (by omega) (by omega)⟩))
      by_cases e : l = i
      · rw [e]
        refine ⟨?_, k2⟩
        cases hh : bt yf_fences i
        · rfl
        · exact absurd hh z
      · exact hl l x (by omega)
  exact Exists.intro (b - a + 1) (key (b - a + 1) a (by omega) (by omega) hab (fun l x y => by omega))
theorem sq_yStaI {S : Bool} {x1 : Int32} {a : Nat} {post : SY → Prop} {J2 : Int32 → (Nat → Int32) → (Nat → Int32) → (Nat → Int32) → (Nat → Int32) → (Nat → Int32) → (Nat → Int32) → (Nat → Int32) → (Nat → Int32) → (Nat → Int32) → (Nat → Int32) → (Nat → Int32) → Prop} (hn : n ≤ 6) (ha : a < n) (hw : ∀ i, ow i < 4) (hk3 : ∀ i, kd i < 3) (hS : x1 = 0 ↔ S = false) (A0 : Nat → Int32)
    (hJ : ∀ A' : Nat → Int32, (∀ l, l ≠ a → A' l = A0 l) → (∀ c, c < 32 → (bt (A' a) c = true ↔ sq_R0 n ow kd S (bt yf_fences) a c)) → J2 (nI (a + 1)) (sq_nA kd) (sq_nA ow) (sq_nA vr) (sq_nA vl) ya_stores ya_loads ya_found ya_place A' ya_list ya_strictList) :
    ∀ N b (A : Nat → Int32), n - b < N → a < b → b ≤ n → (∀ l, l ≠ a → A l = A0 l) → (∀ c, c < 32 → (bt (A a) c = true ↔ c < b ∧ sq_R0 n ow kd S (bt yf_fences) a c)) → wY_startRelation_21 post J2 x1 (nI a) (nI n) yf_fences yf_storeCount yf_loadCount yf_listed yf_strictListed N (nI b) (sq_nA kd) (sq_nA ow) (sq_nA vr) (sq_nA vl) ya_stores ya_loads ya_found ya_place A ya_list ya_strictList := by
  intro N
  induction N with
  | zero => intro b A h1; omega
  | succ N ih =>
    intro b A h1 hab h2 hA hb
    have hwa := hw a
    have hwb := hw b
    have hka := hk3 a
    have hkb := hk3 b
    refine pk_le n b (fun h3 => nm_r (nI_1 a) (hJ A hA (fun c hc => ?_))) (fun h3 => ?_)
    · rw [hb c hc]
      exact ⟨fun z => z.2, fun z => ⟨by have := z.2.1; omega, z⟩⟩
    · have hsame : (¬ sq_R0 n ow kd S (bt yf_fences) a b) → wY_startRelation_21 post J2 x1 (nI a) (nI n) yf_fences yf_storeCount yf_loadCount yf_listed yf_strictListed N (nI (b + 1)) (sq_nA kd) (sq_nA ow) (sq_nA vr) (sq_nA vl) ya_stores ya_loads ya_found ya_place (upd A (nI a).toNatClampNeg (A (nI a).toNatClampNeg)) ya_list ya_strictList := by
        intro hno
        rw [sq_updS]
        refine ih (b + 1) A (by omega) (by omega) (by omega) hA (fun c hc => ?_)
        rw [hb c hc]
        constructor
        · rintro ⟨z1, z2⟩; exact ⟨by omega, z2⟩
        · rintro ⟨z1, z2⟩
          refine ⟨?_, z2⟩
          by_cases e : c = b
          · rw [e] at z2; exact absurd z2 hno
          · omega
      have s66 : ∀ z : Int32, ((z = 0 ∧ ¬ (kd a = 0 ∧ kd b = 1 ∧ S = false ∧ ∀ i, a ≤ i → i < b → bt yf_fences i = false ∧ kd i ≠ 2)) ∨ (z = 1 ∧ (kd a = 0 ∧ kd b = 1 ∧ S = false ∧ ∀ i, a ≤ i → i < b → bt yf_fences i = false ∧ kd i ≠ 2))) → wY_startRelation_66 post J2 (wY_startRelation_21 post J2 x1 (nI a) (nI n) yf_fences yf_storeCount yf_loadCount yf_listed yf_strictListed N) x1 (nI a) (nI b) z (nI n) yf_fences yf_storeCount yf_loadCount yf_listed yf_strictListed (sq_nA kd) (sq_nA ow) (sq_nA vr) (sq_nA vl) ya_stores ya_loads ya_found ya_place A ya_list ya_strictList := by
        intro z hz
        refine ⟨pk_in a 6 (by omega), pk_in b 6 (by omega), pk_eq (ow a) (ow b) (fun h4 => ?_) (fun h4 => ?_) (sq_at ow (by omega)) (sq_at ow (by omega)) (by omega) (by omega)⟩
        · rcases hz with ⟨e, hz⟩ | ⟨e, hz⟩
          · subst e
            refine br_t rfl ⟨pk_in a 6 (by omega), pk_in a 6 (by omega), nm_e (nm_r (nI_1 b) (ih (b + 1) _ (by omega) (by omega) (by omega) (fun l hl => ?_) (fun c hc => ?_)))⟩
            · rw [nI_clamp (by omega), pk_un hl]; exact hA l hl
            · rw [nI_clamp (by omega), pk_us, sq_set _ (by omega) hc, Bool.or_eq_true, hb c hc, decide_eq_true_eq]
              constructor
              · rintro (y | y)
                · exact ⟨by omega, y.2⟩
                · rw [y]; exact ⟨by omega, hab, h3, h4, hz⟩
              · rintro ⟨y1, y2⟩
                by_cases e : c = b
                · right; exact e
                · left; exact ⟨by omega, y2⟩
          · subst e
            exact br_f (by decide) ⟨pk_in a 6 (by omega), pk_in a 6 (by omega), nm_e (nm_r (nI_1 b) (hsame (fun y => y.2.2.2 hz)))⟩
        · exact ⟨pk_in a 6 (by omega), pk_in a 6 (by omega), nm_e (nm_r (nI_1 b) (hsame (fun y => h4 y.2.2.1)))⟩
      refine ⟨pk_in a 6 (by omega), pk_eq (kd a) 0 (fun k0 => ⟨pk_in b 6 (by omega), pk_eq (kd b) 1 (fun k1 => ?_) (fun k1 => s66 0 (Or.inl ⟨rfl, fun y => k1 y.2.1⟩)) (sq_at kd (by omega)) rfl (by omega) (by omega)⟩) (fun k0 => s66 0 (Or.inl ⟨rfl, fun y => k0 y.1⟩)) (sq_at kd (by omega)) rfl (by omega) (by omega)⟩
      refine ek_if hS (fun hs => ?_) (fun hs => s66 0 (Or.inl ⟨rfl, fun y => hs y.2.2.1⟩))
      refine sq_yFen (by omega) (by omega) hk3 (fun hf => br_f (by decide) (s66 0 (Or.inl ⟨rfl, fun y => ?_⟩))) (fun hf => br_t rfl (s66 1 (Or.inr ⟨rfl, k0, k1, hs, hf⟩)))
      obtain ⟨i, y1, y2, y3⟩ := hf
      have := y.2.2.2 i y1 y2
      rcases y3 with y3 | y3
      · rw [this.1] at y3; exact absurd y3 (by decide)
      · exact this.2 y3
theorem sq_ySta {S : Bool} {x1 : Int32} {post : SY → Prop} (hn : n ≤ 6) (hw : ∀ i, ow i < 4) (hk3 : ∀ i, kd i < 3) (hS : x1 = 0 ↔ S = false)
    (h : ∀ A : Nat → Int32, (∀ a, a < n → ∀ c, c < 32 → (bt (A a) c = true ↔ sq_R0 n ow kd S (bt yf_fences) a c)) → post ((nI n), yf_fences, yf_storeCount, yf_loadCount, yf_listed, yf_strictListed, (sq_nA kd), (sq_nA ow), (sq_nA vr), (sq_nA vl), ya_stores, ya_loads, ya_found, ya_place, A, ya_list, ya_strictList)) : wpY_startRelation post ((nI n), yf_fences, yf_storeCount, yf_loadCount, yf_listed, yf_strictListed, (sq_nA kd), (sq_nA ow), (sq_nA vr), (sq_nA vl), ya_stores, ya_loads, ya_found, ya_place, ya_after, ya_list, ya_strictList) x1 := by
  have key : ∀ N a (A : Nat → Int32), n - a < N → a ≤ n → (∀ l, l < a → ∀ c, c < 32 → (bt (A l) c = true ↔ sq_R0 n ow kd S (bt yf_fences) l c)) → wY_startRelation_2 post x1 (nI n) yf_fences yf_storeCount yf_loadCount yf_listed yf_strictListed N (nI a) (sq_nA kd) (sq_nA ow) (sq_nA vr) (sq_nA vl) ya_stores ya_loads ya_found ya_place A ya_list ya_strictList := by
    intro N
    induction N with
    | zero => intro a A h1; omega
    | succ N ih =>
      intro a A h1 h2 hA
      refine pk_le n a (fun h3 => ?_) (fun h3 => ⟨pk_in a 6 (by omega), nm_e (nm_r (nI_1 a) (Exists.intro (n + 1) ?_))⟩)
      · have ea : a = n := by omega
        subst ea
        exact h A hA
      · refine sq_yStaI hn h3 hw hk3 hS (upd A (nI a).toNatClampNeg 0) (fun A' g1 g2 => ih (a + 1) A' (by omega) (by omega) (fun l hl => ?_)) (n + 1) (a + 1) _ (by omega) (by omega) (by omega) (fun l _ => rfl) (fun c hc => ?_)
        · by_cases e : l = a
          · rw [e]; exact g2
          · rw [g1 l e, nI_clamp (by omega), pk_un e]; exact hA l (by omega)
        · rw [nI_clamp (by omega), pk_us, b_0]
          exact ⟨fun z => absurd z (by decide), fun z => by have := z.1; have := z.2.1; omega⟩
  exact Exists.intro (n + 1) (key (n + 1) 0 ya_after (by omega) (by omega) (fun l hl => by omega))
end
end
section
/-! the reference: orderStores, mayFind, relateLoad -/
def sq_Pl (n : Nat) (kd P : Nat → Nat) (pl : Nat → Int32) : Prop := ∀ i, i < n → kd i = 0 → pl (sq_cn (sq_ls kd) i) = nI (P i) ∧ P i < 6
def sq_Fd (n : Nat) (kd : Nat → Nat) (Fo : Nat → Option Nat) (fo : Nat → Int32) : Prop := ∀ j, j < n → kd j = 1 → (Fo j = none ∧ fo (sq_cn (sq_ll kd) j) = -1) ∨ ∃ s, s < n ∧ kd s = 0 ∧ Fo j = some s ∧ fo (sq_cn (sq_ll kd) j) = nI (sq_cn (sq_ls kd) s)
theorem sq_stA {n : Nat} {kd : Nat → Nat} {s : Nat} (h : s < sq_cn (sq_ls kd) n) : ∃ i, i < n ∧ kd i = 0 ∧ sq_cn (sq_ls kd) i = s := by
  obtain ⟨i, a, b, c⟩ := sq_cn_at h
  exact ⟨i, a, sq_lsT.mp b, c⟩
theorem sq_ldA {n : Nat} {kd : Nat → Nat} {s : Nat} (h : s < sq_cn (sq_ll kd) n) : ∃ i, i < n ∧ kd i = 1 ∧ sq_cn (sq_ll kd) i = s := by
  obtain ⟨i, a, b, c⟩ := sq_cn_at h
  exact ⟨i, a, sq_llT.mp b, c⟩
theorem sq_stL {n : Nat} {kd : Nat → Nat} {i : Nat} (hi : i < n) (h : kd i = 0) : sq_cn (sq_ls kd) i < sq_cn (sq_ls kd) n := sq_cn_lo (sq_lsT.mpr h) hi
theorem sq_ldL {n : Nat} {kd : Nat → Nat} {i : Nat} (hi : i < n) (h : kd i = 1) : sq_cn (sq_ll kd) i < sq_cn (sq_ll kd) n := sq_cn_lo (sq_llT.mpr h) hi
theorem sq_stI {kd : Nat → Nat} {i j : Nat} (hi : kd i = 0) (hj : kd j = 0) (h : sq_cn (sq_ls kd) i = sq_cn (sq_ls kd) j) : i = j := sq_cn_inj (sq_lsT.mpr hi) (sq_lsT.mpr hj) h
theorem sq_ldI {kd : Nat → Nat} {i j : Nat} (hi : kd i = 1) (hj : kd j = 1) (h : sq_cn (sq_ll kd) i = sq_cn (sq_ll kd) j) : i = j := sq_cn_inj (sq_llT.mpr hi) (sq_llT.mpr hj) h
theorem sq_or1 {A : Nat → Int32} {k c x b : Nat} (hc : c < 32) (hb : b < 32) : bt (upd A k (A k ||| ((1 : Int32) <<< (nI c &&& 31))) x) b = true ↔ bt (A x) b = true ∨ (x = k ∧ b = c) := by
  by_cases e : x = k
  · rw [e, pk_us, sq_set _ hc hb, Bool.or_eq_true, decide_eq_true_eq]
    exact ⟨fun z => z.imp id (fun y => ⟨rfl, y⟩), fun z => z.imp id (fun y => y.2)⟩
  · rw [pk_un e]
    exact ⟨Or.inl, fun z => z.elim id (fun y => absurd y.1 e)⟩
section
variable {n : Nat} {ow kd vr vl : Nat → Nat} {yf_fences yf_storeCount yf_loadCount yf_listed yf_strictListed : Int32} {ya_stores ya_loads ya_found ya_place ya_after ya_list ya_strictList : Nat → Int32}
theorem sq_yOrdI {P : Nat → Nat} {a : Nat} {post : SY → Prop} {J2 : Int32 → (Nat → Int32) → (Nat → Int32) → (Nat → Int32) → (Nat → Int32) → (Nat → Int32) → (Nat → Int32) → (Nat → Int32) → (Nat → Int32) → (Nat → Int32) → (Nat → Int32) → (Nat → Int32) → Prop} (hn : n ≤ 6) (hv3 : ∀ i, vr i < 3) (hSt : sq_St n kd ya_stores) (hPl : sq_Pl n kd P ya_place) (ha : a < n) (ha0 : kd a = 0) (A0 : Nat → Int32)
    (hJ : ∀ A' : Nat → Int32, (∀ x c, x < n → c < 32 → (bt (A' x) c = true ↔ bt (A0 x) c = true ∨ (x = a ∧ c < n ∧ kd c = 0 ∧ vr a = vr c ∧ P a < P c))) → J2 (nI (sq_cn (sq_ls kd) a + 1)) (sq_nA kd) (sq_nA ow) (sq_nA vr) (sq_nA vl) ya_stores ya_loads ya_found ya_place A' ya_list ya_strictList) :
    ∀ N t (A : Nat → Int32), sq_cn (sq_ls kd) n - t < N → t ≤ sq_cn (sq_ls kd) n → (∀ x c, x < n → c < 32 → (bt (A x) c = true ↔ bt (A0 x) c = true ∨ (x = a ∧ sq_cn (sq_ls kd) c < t ∧ c < n ∧ kd c = 0 ∧ vr a = vr c ∧ P a < P c))) → wY_orderStores_12 post J2 (nI (sq_cn (sq_ls kd) a)) (nI n) yf_fences (nI (sq_cn (sq_ls kd) n)) yf_loadCount yf_listed yf_strictListed N (nI t) (sq_nA kd) (sq_nA ow) (sq_nA vr) (sq_nA vl) ya_stores ya_loads ya_found ya_place A ya_list ya_strictList := by
  intro N
  induction N with
  | zero => intro t A h1; omega
  | succ N ih =>
    intro t A h1 h2 hA
    have hsc := sq_cn_le (sq_ls kd) n
    have hsa := sq_stL ha ha0
    have ea : ya_stores (nI (sq_cn (sq_ls kd) a)).toNatClampNeg = nI a := by rw [nI_clamp (by omega)]; exact hSt a ha ha0
    obtain ⟨epa, hpa⟩ := hPl a ha ha0
    have epa' : ya_place (nI (sq_cn (sq_ls kd) a)).toNatClampNeg = nI (P a) := by rw [nI_clamp (by omega)]; exact epa
    refine pk_le (sq_cn (sq_ls kd) n) t (fun h3 => nm_r (nI_1 _) (hJ A (fun x c hx hc => ?_))) (fun h3 => ?_)
    · rw [hA x c hx hc]
      constructor
      · rintro (z | z)
        · exact Or.inl z
        · exact Or.inr ⟨z.1, z.2.2⟩
      · rintro (z | z)
        · exact Or.inl z
        · exact Or.inr ⟨z.1, by have := sq_stL z.2.1 z.2.2.1; omega, z.2⟩
    · obtain ⟨b, hb, hb0, eb⟩ := sq_stA h3
      have eb' : ya_stores (nI t).toNatClampNeg = nI b := by rw [nI_clamp (by omega), ← eb]; exact hSt b hb hb0
      obtain ⟨epb, hpb⟩ := hPl b hb hb0
      have epb' : ya_place (nI t).toNatClampNeg = nI (P b) := by rw [nI_clamp (by omega), ← eb]; exact epb
      have hva := hv3 a
      have hvb := hv3 b
      have evr : ∀ i, i < n → sq_nA vr (nI i).toNatClampNeg = nI (vr i) := fun i hi => sq_at vr (by omega)
      have hstep : ∀ (A' : Nat → Int32), (∀ x c, x < n → c < 32 → (bt (A' x) c = true ↔ bt (A x) c = true ∨ (x = a ∧ c = b ∧ vr a = vr b ∧ P a < P b))) → wY_orderStores_12 post J2 (nI (sq_cn (sq_ls kd) a)) (nI n) yf_fences (nI (sq_cn (sq_ls kd) n)) yf_loadCount yf_listed yf_strictListed N (nI (t + 1)) (sq_nA kd) (sq_nA ow) (sq_nA vr) (sq_nA vl) ya_stores ya_loads ya_found ya_place A' ya_list ya_strictList := by
        intro A' hA'
        refine ih (t + 1) A' (by omega) (by omega) (fun x c hx hc => ?_)
        rw [hA' x c hx hc, hA x c hx hc]
        constructor
        · rintro ((z | z) | ⟨z1, z2, z3⟩)
          · exact Or.inl z
          · exact Or.inr ⟨z.1, by omega, z.2.2⟩
          · rw [z2]; exact Or.inr ⟨z1, by omega, hb, hb0, z3⟩
        · rintro (z | ⟨z1, z2, z3, z4, z5⟩)
          · exact Or.inl (Or.inl z)
          · by_cases e : c = b
            · right; rw [e] at z5; exact ⟨z1, e, z5⟩
            · left; right
              refine ⟨z1, ?_, z3, z4, z5⟩
              have : sq_cn (sq_ls kd) c ≠ t := fun y => e (sq_stI z4 hb0 (by omega))
              omega
      have s103 : ¬ (vr a = vr b ∧ P a < P b) → wY_orderStores_103 post J2 (wY_orderStores_12 post J2 (nI (sq_cn (sq_ls kd) a)) (nI n) yf_fences (nI (sq_cn (sq_ls kd) n)) yf_loadCount yf_listed yf_strictListed N) (nI (sq_cn (sq_ls kd) a)) (nI t) (ya_stores (nI (sq_cn (sq_ls kd) a)).toNatClampNeg) (nI n) yf_fences (nI (sq_cn (sq_ls kd) n)) yf_loadCount yf_listed yf_strictListed (sq_nA kd) (sq_nA ow) (sq_nA vr) (sq_nA vl) ya_stores ya_loads ya_found ya_place A ya_list ya_strictList := by
        intro hno
        refine ⟨pk_in (sq_cn (sq_ls kd) a) 6 (by omega), pk_in a 6 (by omega) ea, pk_in a 6 (by omega) ea, nm_r (sq_updS A _) (nm_r (nI_1 t) (hstep A (fun x c _ _ => ⟨Or.inl, fun z => z.elim id (fun y => absurd y.2.2 hno)⟩)))⟩
      refine ⟨pk_in (sq_cn (sq_ls kd) a) 6 (by omega), pk_in a 6 (by omega) ea, pk_in t 6 (by omega), pk_in b 6 (by omega) eb', pk_eq (vr a) (vr b) (fun g => ?_) (fun g => ?_) (by rw [ea]; exact evr a ha) (by rw [eb']; exact evr b hb) (by omega) (by omega)⟩
      · refine ⟨pk_in (sq_cn (sq_ls kd) a) 6 (by omega), br_f (by decide) ⟨pk_in (sq_cn (sq_ls kd) a) 6 (by omega), pk_in t 6 (by omega), pk_le (P b) (P a) (fun g2 => s103 (fun z => by omega)) (fun g2 => ?_) epb' epa' (by omega) (by omega)⟩⟩
        refine ⟨pk_in (sq_cn (sq_ls kd) a) 6 (by omega), pk_in a 6 (by omega) ea, pk_in t 6 (by omega), pk_in a 6 (by omega) ea, nm_e (nm_r (nI_1 t) (hstep _ (fun x c hx hc => ?_)))⟩
        rw [ea, eb', nI_clamp (by omega), sq_or1 (by omega) hc]
        exact ⟨fun z => z.imp id (fun y => ⟨y.1, y.2, g, g2⟩), fun z => z.imp id (fun y => ⟨y.1, y.2.1⟩)⟩
      · exact ⟨pk_in (sq_cn (sq_ls kd) a) 6 (by omega), br_t rfl (s103 (fun z => g z.1))⟩
theorem sq_yOrd {P : Nat → Nat} {post : SY → Prop} (hn : n ≤ 6) (hv3 : ∀ i, vr i < 3) (hSt : sq_St n kd ya_stores) (hPl : sq_Pl n kd P ya_place)
    (h : ∀ A' : Nat → Int32, (∀ x c, x < n → c < 32 → (bt (A' x) c = true ↔ bt (ya_after x) c = true ∨ (kd x = 0 ∧ c < n ∧ kd c = 0 ∧ vr x = vr c ∧ P x < P c))) → post ((nI n), yf_fences, (nI (sq_cn (sq_ls kd) n)), yf_loadCount, yf_listed, yf_strictListed, (sq_nA kd), (sq_nA ow), (sq_nA vr), (sq_nA vl), ya_stores, ya_loads, ya_found, ya_place, A', ya_list, ya_strictList)) : wpY_orderStores post ((nI n), yf_fences, (nI (sq_cn (sq_ls kd) n)), yf_loadCount, yf_listed, yf_strictListed, (sq_nA kd), (sq_nA ow), (sq_nA vr), (sq_nA vl), ya_stores, ya_loads, ya_found, ya_place, ya_after, ya_list, ya_strictList) := by
  have hsc := sq_cn_le (sq_ls kd) n
  have key : ∀ N s (A : Nat → Int32), sq_cn (sq_ls kd) n - s < N → s ≤ sq_cn (sq_ls kd) n → (∀ x c, x < n → c < 32 → (bt (A x) c = true ↔ bt (ya_after x) c = true ∨ (kd x = 0 ∧ sq_cn (sq_ls kd) x < s ∧ c < n ∧ kd c = 0 ∧ vr x = vr c ∧ P x < P c))) → wY_orderStores_2 post (nI n) yf_fences (nI (sq_cn (sq_ls kd) n)) yf_loadCount yf_listed yf_strictListed N (nI s) (sq_nA kd) (sq_nA ow) (sq_nA vr) (sq_nA vl) ya_stores ya_loads ya_found ya_place A ya_list ya_strictList := by
    intro N
    induction N with
    | zero => intro s A h1; omega
    | succ N ih =>
      intro s A h1 h2 hA
      refine pk_le (sq_cn (sq_ls kd) n) s (fun h3 => h A (fun x c hx hc => ?_)) (fun h3 => ?_)
      · rw [hA x c hx hc]
        constructor
        · rintro (z | z)
          · exact Or.inl z
          · exact Or.inr ⟨z.1, z.2.2⟩
        · rintro (z | z)
          · exact Or.inl z
          · exact Or.inr ⟨z.1, by have := sq_stL hx z.1; omega, z.2⟩
      · obtain ⟨a, ha, ha0, ea⟩ := sq_stA h3
        subst ea
        refine Exists.intro (sq_cn (sq_ls kd) n + 1) (sq_yOrdI hn hv3 hSt hPl ha ha0 A (fun A' hA' => ih _ A' (by omega) (by omega) (fun x c hx hc => ?_)) (sq_cn (sq_ls kd) n + 1) 0 A (by omega) (by omega) (fun x c hx hc => ⟨Or.inl, fun z => z.elim id (fun y => absurd y.2.1 (Nat.not_lt_zero _))⟩))
        rw [hA' x c hx hc, hA x c hx hc]
        constructor
        · rintro ((z | z) | ⟨z1, z2⟩)
          · exact Or.inl z
          · exact Or.inr ⟨z.1, by omega, z.2.2⟩
          · rw [z1]; exact Or.inr ⟨ha0, by omega, z2⟩
        · rintro (z | ⟨z1, z2, z3⟩)
          · exact Or.inl (Or.inl z)
          · by_cases e : x = a
            · right; rw [e] at z3; exact ⟨e, z3⟩
            · left; right
              have : sq_cn (sq_ls kd) x ≠ sq_cn (sq_ls kd) a := fun y => e (sq_stI z1 ha0 y)
              exact ⟨z1, by omega, z3⟩
  exact Exists.intro (sq_cn (sq_ls kd) n + 1) (key (sq_cn (sq_ls kd) n + 1) 0 ya_after (by omega) (by omega) (fun x c _ _ => ⟨Or.inl, fun z => z.elim id (fun y => absurd y.2.1 (Nat.not_lt_zero _))⟩))
theorem sq_yMay {P : Nat → Nat} {Fo : Nat → Option Nat} {j : Nat} {post : Int32 → Prop} (hW : sq_W n ow kd vr vl) (hSt : sq_St n kd ya_stores) (hLd : sq_Ld n kd ya_loads) (hPl : sq_Pl n kd P ya_place) (hFd : sq_Fd n kd Fo ya_found) (hj : j < n) (hj1 : kd j = 1) (h1 : sq_MF n ow kd vr P j (Fo j) → post 1) (h0 : ¬ sq_MF n ow kd vr P j (Fo j) → post 0) : wpY_mayFind post ((nI n), yf_fences, (nI (sq_cn (sq_ls kd) n)), yf_loadCount, yf_listed, yf_strictListed, (sq_nA kd), (sq_nA ow), (sq_nA vr), (sq_nA vl), ya_stores, ya_loads, ya_found, ya_place, ya_after, ya_list, ya_strictList) (nI (sq_cn (sq_ll kd) j)) := by
  obtain ⟨hn, hw, hk3, hv3, _, _⟩ := hW
  have hsc := sq_cn_le (sq_ls kd) n
  have hlj := sq_cn_le (sq_ll kd) j
  have hwj := hw j
  have hvj := hv3 j
  have eow : ∀ i, i < n → sq_nA ow (nI i).toNatClampNeg = nI (ow i) := fun i hi => sq_at ow (by omega)
  have evr : ∀ i, i < n → sq_nA vr (nI i).toNatClampNeg = nI (vr i) := fun i hi => sq_at vr (by omega)
  have hs6 : ∀ i, i < n → sq_cn (sq_ls kd) i < 6 := fun i hi => by have := sq_cn_le (sq_ls kd) i; omega
  have est : ∀ i, i < n → kd i = 0 → ya_stores (nI (sq_cn (sq_ls kd) i)).toNatClampNeg = nI i := fun i hi h => by have := hs6 i hi; rw [nI_clamp (by omega)]; exact hSt i hi h
  have epl : ∀ i, i < n → kd i = 0 → ya_place (nI (sq_cn (sq_ls kd) i)).toNatClampNeg = nI (P i) := fun i hi h => by have := hs6 i hi; rw [nI_clamp (by omega)]; exact (hPl i hi h).1
  have key : ∀ N s (x : Int32), sq_cn (sq_ls kd) n - s < N → s ≤ sq_cn (sq_ls kd) n → ((x = -1 ∧ ∀ i, sq_own ow kd vr j i → ¬ sq_cn (sq_ls kd) i < s) ∨ ∃ i, x = nI (sq_cn (sq_ls kd) i) ∧ sq_own ow kd vr j i ∧ sq_cn (sq_ls kd) i < s ∧ ∀ l, sq_own ow kd vr j l → sq_cn (sq_ls kd) l < s → l ≤ i) → wY_mayFind_12 post (nI (sq_cn (sq_ll kd) j)) (nI j) (nI n) yf_fences (nI (sq_cn (sq_ls kd) n)) yf_loadCount yf_listed yf_strictListed (sq_nA kd) (sq_nA ow) (sq_nA vr) (sq_nA vl) ya_stores ya_loads ya_found ya_place ya_after ya_list ya_strictList N x (nI s) := by
    intro N
    induction N with
    | zero => intro s x g; omega
    | succ N ih =>
      intro s x g1 g2 hx
      refine pk_le (sq_cn (sq_ls kd) n) s (fun g3 => ⟨pk_in (sq_cn (sq_ll kd) j) 6 (by omega), ?_⟩) (fun g3 => ?_)
      · have hown : (x = -1 ∧ ∀ i, ¬ sq_own ow kd vr j i) ∨ ∃ i, x = nI (sq_cn (sq_ls kd) i) ∧ sq_own ow kd vr j i ∧ ∀ l, sq_own ow kd vr j l → l ≤ i := by
          rcases hx with ⟨e, hx⟩ | ⟨i, e, ho, _, hx⟩
          · left
            refine ⟨e, fun i hi => hx i hi ?_⟩
            have := sq_stL (n := n) (by have := hi.1; omega) hi.2.1
            omega
          · right
            refine ⟨i, e, ho, fun l hl => hx l hl ?_⟩
            have := sq_stL (n := n) (by have := hl.1; omega) hl.2.1
            omega
        rcases hFd j hj hj1 with ⟨ef, efo⟩ | ⟨s0, hs0, hs00, ef, efo⟩
        · refine nm_r ((sq_ati ya_found (by omega)).trans efo) (br_f (by decide) ?_)
          rw [ef] at h1 h0
          rcases hown with ⟨e, hno⟩ | ⟨i, e, ho, _⟩
          · subst e
            exact br_f (by decide) (h1 hno)
          · subst e
            exact br_t (nI_pos' (by have := hs6 i (by have := ho.1; omega); omega)) (h0 (fun z => z i ho))
        · have h6 := hs6 s0 hs0
          refine nm_r ((sq_ati ya_found (by omega)).trans efo) (br_t (nI_pos' (by omega)) ?_)
          rw [ef] at h1 h0
          have ea := est s0 hs0 hs00
          have hws := hw s0
          have hvs := hv3 s0
          have hp6 := (hPl s0 hs0 hs00).2
          have s159 : ∀ z : Int32, ((z = 0 ∧ ¬ (ow s0 = ow j ∧ j < s0)) ∨ (z = 1 ∧ (ow s0 = ow j ∧ j < s0))) → wY_mayFind_159 post (nI j) x (nI (sq_cn (sq_ls kd) s0)) z (nI n) yf_fences (nI (sq_cn (sq_ls kd) n)) yf_loadCount yf_listed yf_strictListed (sq_nA kd) (sq_nA ow) (sq_nA vr) (sq_nA vl) ya_stores ya_loads ya_found ya_place ya_after ya_list ya_strictList := by
            intro z hz
            refine ⟨pk_in (sq_cn (sq_ls kd) s0) 6 h6, pk_in s0 6 (by omega) ea, pk_in j 6 (by omega), pk_eq (vr s0) (vr j) (fun g4 => ?_) (fun g4 => h0 (fun y => g4 y.2.2.1)) (by rw [ea]; exact evr s0 hs0) (evr j hj) (by omega) (by omega)⟩
            rcases hz with ⟨e, hz⟩ | ⟨e, hz⟩
            · subst e
              refine br_t rfl ?_
              rcases hown with ⟨e, hno⟩ | ⟨i, e, ho, hl⟩
              · subst e
                exact br_t (by decide) (h1 ⟨hs0, hs00, g4, hz, fun i hi => absurd hi (hno i)⟩)
              · subst e
                have hin : i < n := by have := ho.1; omega
                have hi6 := hs6 i hin
                have hpi := (hPl i hin ho.2.1).2
                refine br_f (nI_pos (by omega)) ⟨pk_in (sq_cn (sq_ls kd) s0) 6 h6, pk_in (sq_cn (sq_ls kd) i) 6 hi6, pk_lt (P s0) (P i) (fun g5 => h0 (fun y => ?_)) (fun g5 => h1 ⟨hs0, hs00, g4, hz, fun l hlo hll => ?_⟩) (epl s0 hs0 hs00) (epl i hin ho.2.1) (by omega) (by omega)⟩
                · have := y.2.2.2.2 i ho hl
                  omega
                · have e1 := hl l hlo
                  have e2 := hll i ho
                  have : l = i := by omega
                  rw [this]; exact g5
            · subst e
              exact br_f (by decide) (h0 (fun y => y.2.2.2.1 hz))
          refine ⟨pk_in (sq_cn (sq_ls kd) s0) 6 h6, pk_in s0 6 (by omega) ea, pk_in j 6 (by omega), pk_eq (ow s0) (ow j) (fun g4 => ⟨pk_in (sq_cn (sq_ls kd) s0) 6 h6, pk_le s0 j (fun g5 => s159 0 (Or.inl ⟨rfl, fun y => by omega⟩)) (fun g5 => s159 1 (Or.inr ⟨rfl, g4, g5⟩)) ea rfl (by omega) (by omega)⟩) (fun g4 => s159 0 (Or.inl ⟨rfl, fun y => g4 y.1⟩)) (by rw [ea]; exact eow s0 hs0) (eow j hj) (by omega) (by omega)⟩
      · obtain ⟨i, hi, hi0, ei⟩ := sq_stA g3
        subst ei
        have ea := est i hi hi0
        have h6 := hs6 i hi
        have hwi := hw i
        have hvi := hv3 i
        have sno : ¬ sq_own ow kd vr j i → wY_mayFind_12 post (nI (sq_cn (sq_ll kd) j)) (nI j) (nI n) yf_fences (nI (sq_cn (sq_ls kd) n)) yf_loadCount yf_listed yf_strictListed (sq_nA kd) (sq_nA ow) (sq_nA vr) (sq_nA vl) ya_stores ya_loads ya_found ya_place ya_after ya_list ya_strictList N x (nI (sq_cn (sq_ls kd) i + 1)) := by
          intro hno
          refine ih _ x (by omega) (by omega) ?_
          rcases hx with ⟨e, hx⟩ | ⟨l, e, ho, hl1, hl2⟩
          · left
            refine ⟨e, fun l hl hlt => ?_⟩
            by_cases e2 : l = i
            · exact hno (e2 ▸ hl)
            · have : sq_cn (sq_ls kd) l ≠ sq_cn (sq_ls kd) i := fun y => e2 (sq_stI hl.2.1 hi0 y)
              exact hx l hl (by omega)
          · right
            refine ⟨l, e, ho, by omega, fun m hm hlt => ?_⟩
            by_cases e2 : m = i
            · exact absurd (e2 ▸ hm) hno
            · have : sq_cn (sq_ls kd) m ≠ sq_cn (sq_ls kd) i := fun y => e2 (sq_stI hm.2.1 hi0 y)
              exact hl2 m hm (by omega)
        have syes : sq_own ow kd vr j i → wY_mayFind_12 post (nI (sq_cn (sq_ll kd) j)) (nI j) (nI n) yf_fences (nI (sq_cn (sq_ls kd) n)) yf_loadCount yf_listed yf_strictListed (sq_nA kd) (sq_nA ow) (sq_nA vr) (sq_nA vl) ya_stores ya_loads ya_found ya_place ya_after ya_list ya_strictList N (nI (sq_cn (sq_ls kd) i)) (nI (sq_cn (sq_ls kd) i + 1)) := by
          intro ho
          refine ih _ _ (by omega) (by omega) (Or.inr ⟨i, rfl, ho, by omega, fun l hl hlt => ?_⟩)
          rcases Nat.lt_or_ge i l with z | z
          · have := sq_cn_lo (p := sq_ls kd) (i := i) (j := l) (sq_lsT.mpr hi0) z
            omega
          · exact z
        refine ⟨pk_in (sq_cn (sq_ls kd) i) 6 h6, pk_in i 6 (by omega) ea, pk_in j 6 (by omega), pk_eq (ow i) (ow j) (fun g4 => ⟨pk_in (sq_cn (sq_ls kd) i) 6 h6, pk_le j i (fun g5 => br_t rfl (nm_r (nI_1 _) (sno (fun y => by have := y.1; omega)))) (fun g5 => ⟨pk_in (sq_cn (sq_ls kd) i) 6 h6, pk_in i 6 (by omega) ea, pk_in j 6 (by omega), pk_eq (vr i) (vr j) (fun g6 => br_f (by decide) (nm_r (nI_1 _) (syes ⟨g5, hi0, g6, g4⟩))) (fun g6 => br_t rfl (nm_r (nI_1 _) (sno (fun y => g6 y.2.2.1)))) (by rw [ea]; exact evr i hi) (evr j hj) (by omega) (by omega)⟩) rfl ea (by omega) (by omega)⟩) (fun g4 => br_t rfl (nm_r (nI_1 _) (sno (fun y => g4 y.2.2.2)))) (by rw [ea]; exact eow i hi) (eow j hj) (by omega) (by omega)⟩
  refine ⟨pk_in (sq_cn (sq_ll kd) j) 6 (by omega), nm_r ((sq_ati ya_loads (by omega)).trans (hLd j hj hj1)) (Exists.intro (sq_cn (sq_ls kd) n + 1) (key (sq_cn (sq_ls kd) n + 1) 0 (-1) (by omega) (by omega) (Or.inl ⟨rfl, fun i _ => Nat.not_lt_zero _⟩)))⟩
theorem sq_yRlt {S : Bool} {x1 : Int32} {P : Nat → Nat} {Fo : Nat → Option Nat} {j : Nat} {post : SY → Prop} (hW : sq_W n ow kd vr vl) (hS : x1 = 0 ↔ S = false) (hSt : sq_St n kd ya_stores) (hLd : sq_Ld n kd ya_loads) (hPl : sq_Pl n kd P ya_place) (hFd : sq_Fd n kd Fo ya_found) (hj : j < n) (hj1 : kd j = 1)
    (h : ∀ A' : Nat → Int32, (∀ x c, x < n → c < 32 → (bt (A' x) c = true ↔ bt (ya_after x) c = true ∨ (c = j ∧ Fo j = some x ∧ (S = true ∨ ow x ≠ ow j)) ∨ (x = j ∧ c < n ∧ kd c = 0 ∧ vr c = vr j ∧ ∀ s, Fo j = some s → P s < P c))) → post ((nI n), yf_fences, (nI (sq_cn (sq_ls kd) n)), yf_loadCount, yf_listed, yf_strictListed, (sq_nA kd), (sq_nA ow), (sq_nA vr), (sq_nA vl), ya_stores, ya_loads, ya_found, ya_place, A', ya_list, ya_strictList)) : wpY_relateLoad post ((nI n), yf_fences, (nI (sq_cn (sq_ls kd) n)), yf_loadCount, yf_listed, yf_strictListed, (sq_nA kd), (sq_nA ow), (sq_nA vr), (sq_nA vl), ya_stores, ya_loads, ya_found, ya_place, ya_after, ya_list, ya_strictList) (nI (sq_cn (sq_ll kd) j)) x1 := by
  obtain ⟨hn, hw, hk3, hv3, _, _⟩ := hW
  have hsc := sq_cn_le (sq_ls kd) n
  have hlj := sq_cn_le (sq_ll kd) j
  have hwj := hw j
  have hvj := hv3 j
  have eow : ∀ i, i < n → sq_nA ow (nI i).toNatClampNeg = nI (ow i) := fun i hi => sq_at ow (by omega)
  have evr : ∀ i, i < n → sq_nA vr (nI i).toNatClampNeg = nI (vr i) := fun i hi => sq_at vr (by omega)
  have hs6 : ∀ i, i < n → sq_cn (sq_ls kd) i < 6 := fun i hi => by have := sq_cn_le (sq_ls kd) i; omega
  have est : ∀ i, i < n → kd i = 0 → ya_stores (nI (sq_cn (sq_ls kd) i)).toNatClampNeg = nI i := fun i hi h => by have := hs6 i hi; rw [nI_clamp (by omega)]; exact hSt i hi h
  have epl : ∀ i, i < n → kd i = 0 → ya_place (nI (sq_cn (sq_ls kd) i)).toNatClampNeg = nI (P i) := fun i hi h => by have := hs6 i hi; rw [nI_clamp (by omega)]; exact (hPl i hi h).1
  have key : ∀ (y : Int32), ((Fo j = none ∧ y = -1) ∨ ∃ s, s < n ∧ kd s = 0 ∧ Fo j = some s ∧ y = nI (sq_cn (sq_ls kd) s)) → ∀ (B : Nat → Int32), (∀ x c, x < n → c < 32 → (bt (B x) c = true ↔ bt (ya_after x) c = true ∨ (c = j ∧ Fo j = some x ∧ (S = true ∨ ow x ≠ ow j)))) → ∀ N t (A : Nat → Int32), sq_cn (sq_ls kd) n - t < N → t ≤ sq_cn (sq_ls kd) n → (∀ x c, x < n → c < 32 → (bt (A x) c = true ↔ bt (B x) c = true ∨ (x = j ∧ sq_cn (sq_ls kd) c < t ∧ c < n ∧ kd c = 0 ∧ vr c = vr j ∧ ∀ s, Fo j = some s → P s < P c))) → wY_relateLoad_76 post (nI j) y (nI n) yf_fences (nI (sq_cn (sq_ls kd) n)) yf_loadCount yf_listed yf_strictListed N (nI t) (sq_nA kd) (sq_nA ow) (sq_nA vr) (sq_nA vl) ya_stores ya_loads ya_found ya_place A ya_list ya_strictList := by
    intro y hy B hB N
    induction N with
    | zero => intro t A g; omega
    | succ N ih =>
      intro t A g1 g2 hA
      refine pk_le (sq_cn (sq_ls kd) n) t (fun g3 => h A (fun x c hx hc => ?_)) (fun g3 => ?_)
      · rw [hA x c hx hc, hB x c hx hc]
        constructor
        · rintro ((z | z) | z)
          · exact Or.inl z
          · exact Or.inr (Or.inl z)
          · exact Or.inr (Or.inr ⟨z.1, z.2.2⟩)
        · rintro (z | z | z)
          · exact Or.inl (Or.inl z)
          · exact Or.inl (Or.inr z)
          · exact Or.inr ⟨z.1, by have := sq_stL z.2.1 z.2.2.1; omega, z.2⟩
      · obtain ⟨i, hi, hi0, ei⟩ := sq_stA g3
        subst ei
        have ea := est i hi hi0
        have h6 := hs6 i hi
        have hvi := hv3 i
        have hpi := (hPl i hi hi0).2
        have hstep : ∀ (A' : Nat → Int32), (∀ x c, x < n → c < 32 → (bt (A' x) c = true ↔ bt (A x) c = true ∨ (x = j ∧ c = i ∧ vr i = vr j ∧ ∀ s, Fo j = some s → P s < P i))) → wY_relateLoad_76 post (nI j) y (nI n) yf_fences (nI (sq_cn (sq_ls kd) n)) yf_loadCount yf_listed yf_strictListed N (nI (sq_cn (sq_ls kd) i + 1)) (sq_nA kd) (sq_nA ow) (sq_nA vr) (sq_nA vl) ya_stores ya_loads ya_found ya_place A' ya_list ya_strictList := by
          intro A' hA'
          refine ih _ A' (by omega) (by omega) (fun x c hx hc => ?_)
          rw [hA' x c hx hc, hA x c hx hc]
          constructor
          · rintro ((z | z) | ⟨z1, z2, z3⟩)
            · exact Or.inl z
            · exact Or.inr ⟨z.1, by omega, z.2.2⟩
            · rw [z2]; exact Or.inr ⟨z1, by omega, hi, hi0, z3⟩
          · rintro (z | ⟨z1, z2, z3, z4, z5⟩)
            · exact Or.inl (Or.inl z)
            · by_cases e : c = i
              · right; rw [e] at z5; exact ⟨z1, e, z5⟩
              · left; right
                refine ⟨z1, ?_, z3, z4, z5⟩
                have : sq_cn (sq_ls kd) c ≠ sq_cn (sq_ls kd) i := fun w => e (sq_stI z4 hi0 w)
                omega
        have s112 : ∀ z : Int32, ((z = 0 ∧ ¬ ∀ s, Fo j = some s → P s < P i) ∨ (z = 1 ∧ ∀ s, Fo j = some s → P s < P i)) → wY_relateLoad_112 post (wY_relateLoad_76 post (nI j) y (nI n) yf_fences (nI (sq_cn (sq_ls kd) n)) yf_loadCount yf_listed yf_strictListed N) (nI j) y (nI (sq_cn (sq_ls kd) i)) z (nI n) yf_fences (nI (sq_cn (sq_ls kd) n)) yf_loadCount yf_listed yf_strictListed (sq_nA kd) (sq_nA ow) (sq_nA vr) (sq_nA vl) ya_stores ya_loads ya_found ya_place A ya_list ya_strictList := by
          intro z hz
          have hsame : ¬ (vr i = vr j ∧ ∀ s, Fo j = some s → P s < P i) → wY_relateLoad_76 post (nI j) y (nI n) yf_fences (nI (sq_cn (sq_ls kd) n)) yf_loadCount yf_listed yf_strictListed N (nI (sq_cn (sq_ls kd) i + 1)) (sq_nA kd) (sq_nA ow) (sq_nA vr) (sq_nA vl) ya_stores ya_loads ya_found ya_place (upd A (nI j).toNatClampNeg (A (nI j).toNatClampNeg)) ya_list ya_strictList := by
            intro hno
            rw [sq_updS]
            exact hstep A (fun x c _ _ => ⟨Or.inl, fun z => z.elim id (fun w => absurd w.2.2 hno)⟩)
          refine ⟨pk_in (sq_cn (sq_ls kd) i) 6 h6, pk_in i 6 (by omega) ea, pk_in j 6 (by omega), pk_eq (vr i) (vr j) (fun g4 => ?_) (fun g4 => ?_) (by rw [ea]; exact evr i hi) (evr j hj) (by omega) (by omega)⟩
          · rcases hz with ⟨e, hz⟩ | ⟨e, hz⟩
            · subst e
              exact br_f (by decide) (br_t rfl ⟨pk_in j 6 (by omega), pk_in j 6 (by omega), nm_e (nm_r (nI_1 _) (hsame (fun w => hz w.2)))⟩)
            · subst e
              refine br_f (by decide) (br_f (by decide) ⟨pk_in j 6 (by omega), pk_in (sq_cn (sq_ls kd) i) 6 h6, pk_in j 6 (by omega), nm_e (nm_r (nI_1 _) (hstep _ (fun x c hx hc => ?_)))⟩)
              rw [ea, nI_clamp (by omega), sq_or1 (by omega) hc]
              exact ⟨fun z => z.imp id (fun w => ⟨w.1, w.2, g4, hz⟩), fun z => z.imp id (fun w => ⟨w.1, w.2.1⟩)⟩
          · exact br_t rfl ⟨pk_in j 6 (by omega), pk_in j 6 (by omega), nm_e (nm_r (nI_1 _) (hsame (fun w => g4 w.1)))⟩
        rcases hy with ⟨e, hy⟩ | ⟨s, hs, hs0, e, hy⟩
        · subst hy
          exact br_t (by decide) (s112 1 (Or.inr ⟨rfl, fun s z => by rw [e] at z; exact absurd z (by simp)⟩))
        · subst hy
          have hs6' := hs6 s hs
          have hps := (hPl s hs hs0).2
          refine br_f (nI_pos (by omega)) ⟨pk_in (sq_cn (sq_ls kd) i) 6 h6, pk_in (sq_cn (sq_ls kd) s) 6 hs6', pk_le (P i) (P s) (fun g4 => s112 0 (Or.inl ⟨rfl, fun z => by have := z s e; omega⟩)) (fun g4 => s112 1 (Or.inr ⟨rfl, fun s' z => ?_⟩)) (epl i hi hi0) (epl s hs hs0) (by omega) (by omega)⟩
          rw [e] at z
          injection z with z
          rw [← z]; exact g4
  have go : ∀ (y : Int32), ((Fo j = none ∧ y = -1) ∨ ∃ s, s < n ∧ kd s = 0 ∧ Fo j = some s ∧ y = nI (sq_cn (sq_ls kd) s)) → ∀ (B : Nat → Int32), (∀ x c, x < n → c < 32 → (bt (B x) c = true ↔ bt (ya_after x) c = true ∨ (c = j ∧ Fo j = some x ∧ (S = true ∨ ow x ≠ ow j)))) → ∃ N, wY_relateLoad_76 post (nI j) y (nI n) yf_fences (nI (sq_cn (sq_ls kd) n)) yf_loadCount yf_listed yf_strictListed N 0 (sq_nA kd) (sq_nA ow) (sq_nA vr) (sq_nA vl) ya_stores ya_loads ya_found ya_place B ya_list ya_strictList := by
    intro y hy B hB
    exact ⟨sq_cn (sq_ls kd) n + 1, key y hy B hB (sq_cn (sq_ls kd) n + 1) 0 B (by omega) (by omega) (fun x c _ _ => ⟨Or.inl, fun z => z.elim id (fun w => absurd w.2.1 (Nat.not_lt_zero _))⟩)⟩
  refine ⟨pk_in (sq_cn (sq_ll kd) j) 6 (by omega), nm_r ((sq_ati ya_loads (by omega)).trans (hLd j hj hj1)) ⟨pk_in (sq_cn (sq_ll kd) j) 6 (by omega), ?_⟩⟩
  rcases hFd j hj hj1 with ⟨ef, efo⟩ | ⟨s, hs, hs0, ef, efo⟩
  · refine nm_r ((sq_ati ya_found (by omega)).trans efo) (br_t (by decide) (go _ (Or.inl ⟨ef, rfl⟩) _ (fun x c _ _ => ⟨Or.inl, fun z => z.elim id (fun w => ?_)⟩)))
    rw [ef] at w; exact absurd w.2.1 (by simp)
  · have h6 := hs6 s hs
    have ea := est s hs hs0
    have hws := hw s
    have s45 : (S = true ∨ ow s ≠ ow j) → wY_relateLoad_45 post (nI j) (nI (sq_cn (sq_ls kd) s)) (nI n) yf_fences (nI (sq_cn (sq_ls kd) n)) yf_loadCount yf_listed yf_strictListed (sq_nA kd) (sq_nA ow) (sq_nA vr) (sq_nA vl) ya_stores ya_loads ya_found ya_place ya_after ya_list ya_strictList := by
      intro hc
      refine ⟨pk_in (sq_cn (sq_ls kd) s) 6 h6, pk_in (sq_cn (sq_ls kd) s) 6 h6, pk_in s 6 (by omega) ea, pk_in s 6 (by omega) ea, nm_e (go _ (Or.inr ⟨s, hs, hs0, ef, rfl⟩) _ (fun x c hx hc' => ?_))⟩
      rw [ea, nI_clamp (by omega), sq_or1 (by omega) hc']
      constructor
      · rintro (z | ⟨z1, z2⟩)
        · exact Or.inl z
        · rw [z1]; exact Or.inr ⟨z2, ef, hc⟩
      · rintro (z | ⟨z1, z2, z3⟩)
        · exact Or.inl z
        · rw [ef] at z2
          injection z2 with z2
          exact Or.inr ⟨z2.symm, z1⟩
    refine nm_r ((sq_ati ya_found (by omega)).trans efo) (br_f (nI_pos (by omega)) (ek_if hS (fun hs' => ⟨pk_in (sq_cn (sq_ls kd) s) 6 h6, pk_in s 6 (by omega) ea, pk_in j 6 (by omega), pk_eq (ow s) (ow j) (fun g => go _ (Or.inr ⟨s, hs, hs0, ef, rfl⟩) _ (fun x c _ _ => ⟨Or.inl, fun z => z.elim id (fun w => ?_)⟩)) (fun g => s45 (Or.inr g)) (by rw [ea]; exact eow s hs) (eow j hj) (by omega) (by omega)⟩) (fun hs' => s45 (Or.inl ?_))))
    · obtain ⟨_, w2, w3⟩ := w
      rw [ef] at w2
      injection w2 with w2
      rcases w3 with w3 | w3
      · rw [hs'] at w3; exact absurd w3 (by decide)
      · rw [← w2] at w3; exact absurd g w3
    · cases S
      · exact absurd rfl hs'
      · rfl
end
end
section
/-! the reference: hasRing (Warshall) and isAllowed -/
def sq_wr (A : Nat → Int32) (k a : Nat) : Nat → Int32 := fun x => if x < a ∧ bt (A x) k = true then A x ||| A k else A x
theorem sq_wr_0 (A : Nat → Int32) (k : Nat) : sq_wr A k 0 = A := by
  funext x
  show (if x < 0 ∧ bt (A x) k = true then A x ||| A k else A x) = A x
  rw [if_neg (by omega)]
theorem sq_orI (x : Int32) : x ||| x = x := by
  apply b_ext
  intro i _
  rw [b_or, Bool.or_self]
theorem sq_wr_k (A : Nat → Int32) (k a : Nat) : sq_wr A k a k = A k := by
  show (if k < a ∧ bt (A k) k = true then A k ||| A k else A k) = A k
  rw [sq_orI]
  split <;> rfl
theorem sq_wr_a (A : Nat → Int32) (k a : Nat) : sq_wr A k a a = A a := by
  show (if a < a ∧ bt (A a) k = true then A a ||| A k else A a) = A a
  rw [if_neg (by omega)]
theorem sq_wr_t (A : Nat → Int32) {k a : Nat} (h : bt (A a) k = true) : upd (sq_wr A k a) a (sq_wr A k a a ||| sq_wr A k a k) = sq_wr A k (a + 1) := by
  rw [sq_wr_k, sq_wr_a]
  funext x
  show (if x = a then A a ||| A k else if x < a ∧ bt (A x) k = true then A x ||| A k else A x) = (if x < a + 1 ∧ bt (A x) k = true then A x ||| A k else A x)
  by_cases e : x = a
  · rw [if_pos e, e, if_pos ⟨by omega, h⟩]
  · rw [if_neg e]
    by_cases c : x < a ∧ bt (A x) k = true
    · rw [if_pos c, if_pos ⟨by omega, c.2⟩]
    · rw [if_neg c, if_neg (fun z => c ⟨by omega, z.2⟩)]
theorem sq_wr_f (A : Nat → Int32) {k a : Nat} (h : ¬ bt (A a) k = true) : upd (sq_wr A k a) a (sq_wr A k a a) = sq_wr A k (a + 1) := by
  rw [sq_updS]
  funext x
  show (if x < a ∧ bt (A x) k = true then A x ||| A k else A x) = (if x < a + 1 ∧ bt (A x) k = true then A x ||| A k else A x)
  by_cases c : x < a ∧ bt (A x) k = true
  · rw [if_pos c, if_pos ⟨by omega, c.2⟩]
  · rw [if_neg c, if_neg]
    intro z
    by_cases e : x = a
    · rw [e] at z; exact h z.2
    · exact c ⟨by omega, z.2⟩
theorem sq_wr_b (A : Nat → Int32) {n k x c : Nat} (hx : x < n) : bt (sq_wr A k n x) c = true ↔ bt (A x) c = true ∨ (bt (A x) k = true ∧ bt (A k) c = true) := by
  show bt (if x < n ∧ bt (A x) k = true then A x ||| A k else A x) c = true ↔ _
  by_cases h : bt (A x) k = true
  · rw [if_pos ⟨hx, h⟩, b_or, Bool.or_eq_true]
    exact ⟨fun z => z.imp id (fun y => ⟨h, y⟩), fun z => z.imp id (fun y => y.2)⟩
  · rw [if_neg (fun z => h z.2)]
    exact ⟨Or.inl, fun z => z.elim id (fun y => absurd y.1 h)⟩
def sq_wa (n : Nat) (A : Nat → Int32) : Nat → Nat → Int32
  | 0 => A
  | k + 1 => sq_wr (sq_wa n A k) k n
theorem sq_wa_s (n : Nat) (A : Nat → Int32) (k : Nat) : sq_wa n A (k + 1) = sq_wr (sq_wa n A k) k n := rfl
theorem sq_wa_m {n : Nat} {A : Nat → Int32} {x c : Nat} (hx : x < n) (h : bt (A x) c = true) : ∀ k, bt (sq_wa n A k x) c = true := by
  intro k
  induction k with
  | zero => exact h
  | succ k ih => rw [sq_wa_s, sq_wr_b _ hx]; exact Or.inl ih
theorem sq_wa_p {n : Nat} {A : Nat → Int32} {pos : Nat → Nat} (h : ∀ x c, x < n → bt (A x) c = true → c < n ∧ pos x < pos c) : ∀ k, k ≤ n → ∀ x c, x < n → bt (sq_wa n A k x) c = true → c < n ∧ pos x < pos c := by
  intro k
  induction k with
  | zero => intro _; exact h
  | succ k ih =>
    intro hk x c hx hb
    rw [sq_wa_s, sq_wr_b _ hx] at hb
    rcases hb with hb | ⟨h1, h2⟩
    · exact ih (by omega) x c hx hb
    · have a := ih (by omega) x k hx h1
      have b := ih (by omega) k c (by omega) h2
      exact ⟨b.1, by omega⟩
theorem sq_wa_t {n : Nat} {A : Nat → Int32} : ∀ k, k ≤ n → ∀ x j c, x < n → j < k → bt (sq_wa n A k x) j = true → bt (sq_wa n A k j) c = true → bt (sq_wa n A k x) c = true := by
  intro k
  induction k with
  | zero => intro _ x j c _ hj; omega
  | succ k ih =>
    intro hk x j c hx hj h1 h2
    have ih' := ih (by omega)
    rw [sq_wa_s, sq_wr_b _ hx] at h1
    rw [sq_wa_s, sq_wr_b _ (by omega)] at h2
    rw [sq_wa_s, sq_wr_b _ hx]
    by_cases e : j = k
    · subst e
      have a : bt (sq_wa n A j x) j = true := h1.elim id (fun y => y.1)
      have b : bt (sq_wa n A j j) c = true := h2.elim id (fun y => y.2)
      exact Or.inr ⟨a, b⟩
    · have hjk : j < k := by omega
      rcases h1 with h1 | ⟨h1, h1'⟩
      · rcases h2 with h2 | ⟨h2, h2'⟩
        · exact Or.inl (ih' x j c hx hjk h1 h2)
        · exact Or.inr ⟨ih' x j k hx hjk h1 h2, h2'⟩
      · rcases h2 with h2 | ⟨h2, h2'⟩
        · exact Or.inr ⟨h1, ih' k j c (by omega) hjk h1' h2⟩
        · exact Or.inr ⟨h1, h2'⟩
/-- a transitive relation without rings keeps to some order -/
theorem sq_lin {n : Nat} (hn : n ≤ 6) {T : Nat → Nat → Bool} (htr : ∀ x j c, x < n → j < n → c < n → T x j = true → T j c = true → T x c = true) (hir : ∀ x, x < n → T x x = false) : ∃ pos, sq_pm n pos ∧ ∀ a b, a < n → b < n → T a b = true → pos a < pos b := by
  have hh : ∀ a b, a < n → b < n → T a b = true → sq_cn (fun x => T x a) n < sq_cn (fun x => T x b) n := by
    intro a b ha hb h
    exact sq_cn_lt (k := a) (p := fun x => T x a) (q := fun x => T x b) h (hir a ha) (fun i hi hi2 => htr i a b hi ha hb hi2 h) ha
  have hrk := sq_rank (N := n) (key := fun i => sq_cn (fun x => T x i) n * 7 + i) (p := fun _ => true) (fun i j hi hj _ _ e => by
    have e' : sq_cn (fun x => T x i) n * 7 + i = sq_cn (fun x => T x j) n * 7 + j := e
    omega)
  have hfull : sq_cn (fun _ => true) n ≤ n := sq_cn_le _ n
  refine ⟨fun i => sq_cn (fun j => (fun _ => true) j && decide ((fun i => sq_cn (fun x => T x i) n * 7 + i) j < (fun i => sq_cn (fun x => T x i) n * 7 + i) i)) n, sq_pm_of (fun t ht => ?_) (fun s t hst ht e => ?_), fun a b ha hb h => ?_⟩
  · have := hrk.1 t ht rfl
    exact Nat.lt_of_lt_of_le this hfull
  · have h1 := hrk.2 s t (by omega) ht rfl rfl
    have h2 := hrk.2 t s ht (by omega) rfl rfl
    dsimp only at h1 h2 e
    rw [e] at h1 h2
    omega
  · refine (hrk.2 a b ha hb rfl rfl).mpr ?_
    have := hh a b ha hb h
    show sq_cn (fun x => T x a) n * 7 + a < sq_cn (fun x => T x b) n * 7 + b
    omega
theorem sq_ring {n : Nat} (hn : n ≤ 6) {A : Nat → Int32} {R : Nat → Nat → Prop} (hR : ∀ x c, x < n → c < 32 → (bt (A x) c = true ↔ R x c)) (hRn : ∀ x c, R x c → c < n) :
    ((∀ a, a < n → bt (sq_wa n A n a) a = false) → ∃ pos, sq_pm n pos ∧ ∀ a b, a < n → b < n → R a b → pos a < pos b) ∧ ((∃ a, a < n ∧ bt (sq_wa n A n a) a = true) → ¬ ∃ pos, sq_pm n pos ∧ ∀ a b, a < n → b < n → R a b → pos a < pos b) := by
  constructor
  · intro h
    obtain ⟨pos, h1, h2⟩ := sq_lin hn (T := fun a b => bt (sq_wa n A n a) b) (fun x j c hx hj _ a b => sq_wa_t n (Nat.le_refl _) x j c hx hj a b) h
    exact ⟨pos, h1, fun a b ha hb hr => h2 a b ha hb (sq_wa_m ha ((hR a b ha (by omega)).mpr hr) n)⟩
  · rintro ⟨a, ha, h⟩ ⟨pos, _, h2⟩
    have := sq_wa_p (n := n) (A := A) (pos := pos) (fun x c hx hb => by
      have h32 : c < 32 := by
        rcases Nat.lt_or_ge c 32 with z | z
        · exact z
        · rw [b_big z] at hb; exact absurd hb (by decide)
      have r := (hR x c hx h32).mp hb
      exact ⟨hRn x c r, h2 x c hx (hRn x c r) r⟩) n (Nat.le_refl _) a a ha h
    omega
section
variable {n : Nat} {ow kd vr vl : Nat → Nat} {yf_fences yf_storeCount yf_loadCount yf_listed yf_strictListed : Int32} {ya_stores ya_loads ya_found ya_place ya_after ya_list ya_strictList : Nat → Int32}
theorem sq_yRing {R : Nat → Nat → Prop} {post : Int32 → SY → Prop} (hn : n ≤ 6) (hR : ∀ x c, x < n → c < 32 → (bt (ya_after x) c = true ↔ R x c)) (hRn : ∀ x c, R x c → c < n)
    (h0 : (∃ pos, sq_pm n pos ∧ ∀ a b, a < n → b < n → R a b → pos a < pos b) → ∀ A : Nat → Int32, post 0 ((nI n), yf_fences, yf_storeCount, yf_loadCount, yf_listed, yf_strictListed, (sq_nA kd), (sq_nA ow), (sq_nA vr), (sq_nA vl), ya_stores, ya_loads, ya_found, ya_place, A, ya_list, ya_strictList)) (h1 : (¬ ∃ pos, sq_pm n pos ∧ ∀ a b, a < n → b < n → R a b → pos a < pos b) → ∀ A : Nat → Int32, post 1 ((nI n), yf_fences, yf_storeCount, yf_loadCount, yf_listed, yf_strictListed, (sq_nA kd), (sq_nA ow), (sq_nA vr), (sq_nA vl), ya_stores, ya_loads, ya_found, ya_place, A, ya_list, ya_strictList)) : wpY_hasRing post ((nI n), yf_fences, yf_storeCount, yf_loadCount, yf_listed, yf_strictListed, (sq_nA kd), (sq_nA ow), (sq_nA vr), (sq_nA vl), ya_stores, ya_loads, ya_found, ya_place, ya_after, ya_list, ya_strictList) := by
  have hring := sq_ring hn hR hRn
  have fin : ∀ N a, n - a < N → a ≤ n → (∀ b, b < a → bt (sq_wa n ya_after n b) b = false) → wY_hasRing_76 post (nI n) yf_fences yf_storeCount yf_loadCount yf_listed yf_strictListed (sq_nA kd) (sq_nA ow) (sq_nA vr) (sq_nA vl) ya_stores ya_loads ya_found ya_place (sq_wa n ya_after n) ya_list ya_strictList N (nI a) := by
    intro N
    induction N with
    | zero => intro a g; omega
    | succ N ih =>
      intro a g1 g2 ha
      refine pk_le n a (fun g3 => ?_) (fun g3 => ⟨pk_in a 6 (by omega), ?_⟩)
      · exact h0 (hring.1 (fun b hb => ha b (by omega))) _
      · rw [sq_ati (sq_wa n ya_after n) (by omega)]
        refine ek_if (sq_bit1 _ (k := a) (by omega)) (fun z => h1 (hring.2 ⟨a, g3, z⟩) _) (fun z => nm_r (nI_1 a) (ih (a + 1) (by omega) (by omega) (fun b hb => ?_)))
        by_cases e : b = a
        · rw [e]
          cases hh : bt (sq_wa n ya_after n a) a
          · rfl
          · exact absurd hh z
        · exact ha b (by omega)
  have inn : ∀ {J2 : Int32 → (Nat → Int32) → (Nat → Int32) → (Nat → Int32) → (Nat → Int32) → (Nat → Int32) → (Nat → Int32) → (Nat → Int32) → (Nat → Int32) → (Nat → Int32) → (Nat → Int32) → (Nat → Int32) → Prop} (k : Nat) (B : Nat → Int32), k < n → J2 (nI (k + 1)) (sq_nA kd) (sq_nA ow) (sq_nA vr) (sq_nA vl) ya_stores ya_loads ya_found ya_place (sq_wr B k n) ya_list ya_strictList → ∀ N a, n - a < N → a ≤ n → wY_hasRing_12 post J2 (nI k) (nI n) yf_fences yf_storeCount yf_loadCount yf_listed yf_strictListed N (nI a) (sq_nA kd) (sq_nA ow) (sq_nA vr) (sq_nA vl) ya_stores ya_loads ya_found ya_place (sq_wr B k a) ya_list ya_strictList := by
    intro J2 k B hk hJ N
    induction N with
    | zero => intro a g; omega
    | succ N ih =>
      intro a g1 g2
      refine pk_le n a (fun g3 => nm_r (nI_1 k) ?_) (fun g3 => ⟨pk_in a 6 (by omega), ?_⟩)
      · have : a = n := by omega
        rw [this]; exact hJ
      · have e1 : sq_wr B k a (nI a).toNatClampNeg = B a := by rw [nI_clamp (by omega), sq_wr_a]
        rw [e1]
        refine ek_if (sq_bit1 _ (k := k) (by omega)) (fun z => ⟨pk_in a 6 (by omega), pk_in k 6 (by omega), pk_in a 6 (by omega), nm_r ?_ (nm_r (nI_1 a) (ih (a + 1) (by omega) (by omega)))⟩) (fun z => ⟨pk_in a 6 (by omega), pk_in a 6 (by omega), nm_r ?_ (nm_r (nI_1 a) (ih (a + 1) (by omega) (by omega)))⟩)
        · rw [nI_clamp (by omega), nI_clamp (by omega)]
          have := sq_wr_t B (a := a) z
          rw [sq_wr_a] at this
          exact this
        · rw [nI_clamp (by omega)]
          have := sq_wr_f B (a := a) z
          rw [sq_wr_a] at this
          exact this
  have out : ∀ N k, n - k < N → k ≤ n → wY_hasRing_2 post (nI n) yf_fences yf_storeCount yf_loadCount yf_listed yf_strictListed N (nI k) (sq_nA kd) (sq_nA ow) (sq_nA vr) (sq_nA vl) ya_stores ya_loads ya_found ya_place (sq_wa n ya_after k) ya_list ya_strictList := by
    intro N
    induction N with
    | zero => intro k g; omega
    | succ N ih =>
      intro k g1 g2
      refine pk_le n k (fun g3 => Exists.intro (n + 1) ?_) (fun g3 => Exists.intro (n + 1) ?_)
      · have : k = n := by omega
        rw [this]
        exact fin (n + 1) 0 (by omega) (by omega) (fun b hb => by omega)
      · have := inn (J2 := wY_hasRing_2 post (nI n) yf_fences yf_storeCount yf_loadCount yf_listed yf_strictListed N) k (sq_wa n ya_after k) g3 (ih (k + 1) (by omega) (by omega)) (n + 1) 0 (by omega) (by omega)
        rw [sq_wr_0] at this
        exact this
  exact Exists.intro (n + 1) (out (n + 1) 0 (by omega) (by omega))
theorem sq_yAll {S : Bool} {x1 : Int32} {P : Nat → Nat} {Fo : Nat → Option Nat} {post : Int32 → SY → Prop} (hW : sq_W n ow kd vr vl) (hS : x1 = 0 ↔ S = false) (hSt : sq_St n kd ya_stores) (hLd : sq_Ld n kd ya_loads) (hPl : sq_Pl n kd P ya_place) (hFd : sq_Fd n kd Fo ya_found)
    (h1 : sq_ok n ow kd vr S (bt yf_fences) P Fo → ∀ A : Nat → Int32, post 1 ((nI n), yf_fences, (nI (sq_cn (sq_ls kd) n)), (nI (sq_cn (sq_ll kd) n)), yf_listed, yf_strictListed, (sq_nA kd), (sq_nA ow), (sq_nA vr), (sq_nA vl), ya_stores, ya_loads, ya_found, ya_place, A, ya_list, ya_strictList)) (h0 : ¬ sq_ok n ow kd vr S (bt yf_fences) P Fo → ∀ A : Nat → Int32, post 0 ((nI n), yf_fences, (nI (sq_cn (sq_ls kd) n)), (nI (sq_cn (sq_ll kd) n)), yf_listed, yf_strictListed, (sq_nA kd), (sq_nA ow), (sq_nA vr), (sq_nA vl), ya_stores, ya_loads, ya_found, ya_place, A, ya_list, ya_strictList)) : wpY_isAllowed post ((nI n), yf_fences, (nI (sq_cn (sq_ls kd) n)), (nI (sq_cn (sq_ll kd) n)), yf_listed, yf_strictListed, (sq_nA kd), (sq_nA ow), (sq_nA vr), (sq_nA vl), ya_stores, ya_loads, ya_found, ya_place, ya_after, ya_list, ya_strictList) x1 := by
  obtain ⟨hn, hw, hk3, hv3, hl4, hso⟩ := id hW
  have hlc := sq_cn_le (sq_ll kd) n
  have hRn : ∀ x c, sq_R n ow kd vr P Fo S (bt yf_fences) x c → c < n := by
    intro x c h
    rcases h with h | h | h | h
    · exact h.2.1
    · exact h.2.1
    · exact h.1
    · exact h.2.2.1
  have rel : (∀ j, j < n → kd j = 1 → sq_MF n ow kd vr P j (Fo j)) → ∀ N k (A : Nat → Int32), sq_cn (sq_ll kd) n - k < N → k ≤ sq_cn (sq_ll kd) n → (∀ x c, x < n → c < 32 → (bt (A x) c = true ↔ (sq_R0 n ow kd S (bt yf_fences) x c ∨ (kd x = 0 ∧ c < n ∧ kd c = 0 ∧ vr x = vr c ∧ P x < P c)) ∨ ∃ j, j < n ∧ kd j = 1 ∧ sq_cn (sq_ll kd) j < k ∧ ((c = j ∧ Fo j = some x ∧ (S = true ∨ ow x ≠ ow j)) ∨ (x = j ∧ c < n ∧ kd c = 0 ∧ vr c = vr j ∧ ∀ s, Fo j = some s → P s < P c)))) → wY_isAllowed_37 post x1 N (nI k) (nI n) yf_fences (nI (sq_cn (sq_ls kd) n)) (nI (sq_cn (sq_ll kd) n)) yf_listed yf_strictListed (sq_nA kd) (sq_nA ow) (sq_nA vr) (sq_nA vl) ya_stores ya_loads ya_found ya_place A ya_list ya_strictList := by
    intro hMF N
    induction N with
    | zero => intro k A g; omega
    | succ N ih =>
      intro k A g1 g2 hA
      refine pk_le (sq_cn (sq_ll kd) n) k (fun g3 => ?_) (fun g3 => ?_)
      · refine sq_yRing (R := sq_R n ow kd vr P Fo S (bt yf_fences)) hn (fun x c hx hc => ?_) hRn (fun hp A' => br_t rfl (h1 ⟨hMF, hp⟩ A')) (fun hp A' => br_f (by decide) (h0 (fun z => hp z.2) A'))
        rw [hA x c hx hc]
        constructor
        · rintro ((z | z) | ⟨j, hj, hj1, _, z | z⟩)
          · exact Or.inl z
          · exact Or.inr (Or.inl ⟨hx, z.2.1, z.1, z.2.2.1, z.2.2.2⟩)
          · rw [z.1]; exact Or.inr (Or.inr (Or.inl ⟨hj, hj1, z.2⟩))
          · rw [z.1]; exact Or.inr (Or.inr (Or.inr ⟨hj, hj1, z.2⟩))
        · rintro (z | ⟨_, z2, z3, z4, z5⟩ | ⟨z1, z2, z3⟩ | ⟨z1, z2, z3⟩)
          · exact Or.inl (Or.inl z)
          · exact Or.inl (Or.inr ⟨z3, z2, z4, z5⟩)
          · exact Or.inr ⟨c, z1, z2, by have := sq_ldL z1 z2; omega, Or.inl ⟨rfl, z3⟩⟩
          · exact Or.inr ⟨x, z1, z2, by have := sq_ldL z1 z2; omega, Or.inr ⟨rfl, z3⟩⟩
      · obtain ⟨j, hj, hj1, ej⟩ := sq_ldA g3
        subst ej
        refine sq_yRlt (Fo := Fo) hW hS hSt hLd hPl hFd hj hj1 (fun A' hA' => nm_r (nI_1 _) (ih _ A' (by omega) (by omega) (fun x c hx hc => ?_)))
        rw [hA' x c hx hc, hA x c hx hc]
        constructor
        · rintro ((z | ⟨i, y1, y2, y3, y4⟩) | z | z)
          · exact Or.inl z
          · exact Or.inr ⟨i, y1, y2, by omega, y4⟩
          · exact Or.inr ⟨j, hj, hj1, by omega, Or.inl z⟩
          · exact Or.inr ⟨j, hj, hj1, by omega, Or.inr z⟩
        · rintro (z | ⟨i, y1, y2, y3, y4⟩)
          · exact Or.inl (Or.inl z)
          · by_cases e : i = j
            · subst e; exact Or.inr y4
            · have : sq_cn (sq_ll kd) i ≠ sq_cn (sq_ll kd) j := fun w => e (sq_ldI y2 hj1 w)
              exact Or.inl (Or.inr ⟨i, y1, y2, by omega, y4⟩)
  have may : ∀ N k, sq_cn (sq_ll kd) n - k < N → k ≤ sq_cn (sq_ll kd) n → (∀ j, j < n → kd j = 1 → sq_cn (sq_ll kd) j < k → sq_MF n ow kd vr P j (Fo j)) → wY_isAllowed_2 post x1 (nI n) yf_fences (nI (sq_cn (sq_ls kd) n)) (nI (sq_cn (sq_ll kd) n)) yf_listed yf_strictListed (sq_nA kd) (sq_nA ow) (sq_nA vr) (sq_nA vl) ya_stores ya_loads ya_found ya_place ya_after ya_list ya_strictList N (nI k) := by
    intro N
    induction N with
    | zero => intro k g; omega
    | succ N ih =>
      intro k g1 g2 hM
      refine pk_le (sq_cn (sq_ll kd) n) k (fun g3 => ?_) (fun g3 => ?_)
      · have hMF : ∀ j, j < n → kd j = 1 → sq_MF n ow kd vr P j (Fo j) := fun j a b => hM j a b (by have := sq_ldL a b; omega)
        refine sq_ySta (S := S) hn hw hk3 hS (fun A hA => ?_)
        refine sq_yOrd (P := P) hn hv3 hSt hPl (fun A' hA' => ?_)
        refine Exists.intro (sq_cn (sq_ll kd) n + 1) (rel hMF (sq_cn (sq_ll kd) n + 1) 0 A' (by omega) (by omega) (fun x c hx hc => ?_))
        rw [hA' x c hx hc, hA x hx c hc]
        exact ⟨Or.inl, fun z => z.elim id (fun ⟨j, _, _, y, _⟩ => absurd y (Nat.not_lt_zero _))⟩
      · obtain ⟨j, hj, hj1, ej⟩ := sq_ldA g3
        subst ej
        refine sq_yMay (P := P) hW hSt hLd hPl hFd hj hj1 (fun hm => br_f (by decide) (nm_r (nI_1 _) (ih _ (by omega) (by omega) (fun i a b c => ?_)))) (fun hm => br_t rfl (h0 (fun z => hm (z.1 j hj hj1)) _))
        by_cases e : i = j
        · rw [e]; exact hm
        · have : sq_cn (sq_ll kd) i ≠ sq_cn (sq_ll kd) j := fun w => e (sq_ldI b hj1 w)
          exact hM i a b (by omega)
  exact Exists.intro (sq_cn (sq_ll kd) n + 1) (may (sq_cn (sq_ll kd) n + 1) 0 (by omega) (by omega) (fun j _ _ z => absurd z (Nat.not_lt_zero _)))
end
end
section
/-! the reference: outcomeNow, setOrder, setFound, note -/
theorem sq_pow : ∀ k, k < 9 → (1 : Int32) <<< ((2 * nI k) &&& 31) = nI (2 ^ (2 * k)) := by decide +kernel
theorem sq_f0 {n : Nat} {kd vl : Nat → Nat} (hl4 : ∀ i, vl i < 4) (Fo : Nat → Option Nat) : ∃ f : Nat → Nat, (∀ d, f d < 4) ∧ (∀ j, j < n → kd j = 1 → f (sq_cn (sq_ll kd) j) = sq_vo vl (Fo j)) ∧ (∀ k, (∀ j, j < n → kd j = 1 → sq_cn (sq_ll kd) j ≠ k) → f k = 0) := by
  have hv : ∀ o, sq_vo vl o < 4 := by
    intro o
    cases o with
    | none => show 0 < 4; decide
    | some s => exact hl4 s
  have h : ∀ k, ∃ v, v < 4 ∧ (∀ j, j < n → kd j = 1 → sq_cn (sq_ll kd) j = k → v = sq_vo vl (Fo j)) ∧ ((∀ j, j < n → kd j = 1 → sq_cn (sq_ll kd) j ≠ k) → v = 0) := by
    intro k
    by_cases c : ∃ j, j < n ∧ kd j = 1 ∧ sq_cn (sq_ll kd) j = k
    · obtain ⟨j, h1, h2, h3⟩ := c
      refine ⟨sq_vo vl (Fo j), hv _, fun i a b c => ?_, fun z => absurd h3 (z j h1 h2)⟩
      rw [sq_ldI b h2 (c.trans h3.symm)]
    · exact ⟨0, by decide, fun j a b d => absurd ⟨j, a, b, d⟩ c, fun _ => rfl⟩
  exact ⟨fun k => Classical.choose (h k), fun k => (Classical.choose_spec (h k)).1, fun j a b => (Classical.choose_spec (h (sq_cn (sq_ll kd) j))).2.1 j a b rfl, fun k hk => (Classical.choose_spec (h k)).2.2 hk⟩
theorem sq_sm_z {f : Nat → Nat} {a : Nat} : ∀ b, a ≤ b → (∀ d, a ≤ d → d < b → f d = 0) → sq_sm f b = sq_sm f a := by
  intro b
  induction b with
  | zero => intro h _; have : a = 0 := by omega
            rw [this]
  | succ b ih =>
    intro h hz
    by_cases e : a = b + 1
    · rw [e]
    · rw [sq_sm_s, hz b (by omega) (by omega), ih (by omega) (fun d x y => hz d x (by omega))]
      omega
theorem sq_mx_uniq {n : Nat} {kd vr P : Nat → Nat} (hP : ∀ a b, a < n → b < n → kd a = 0 → kd b = 0 → P a = P b → a = b) {x : Nat} {o1 o2 : Option Nat} (h1 : sq_mx n kd vr P x o1) (h2 : sq_mx n kd vr P x o2) : o1 = o2 := by
  cases o1 with
  | none =>
    cases o2 with
    | none => rfl
    | some s => exact absurd h2.2.2.1 (h1 s h2.1 h2.2.1)
  | some r =>
    cases o2 with
    | none => exact absurd h1.2.2.1 (h2 r h1.1 h1.2.1)
    | some s =>
      obtain ⟨a1, a2, a3, a4⟩ := h1
      obtain ⟨b1, b2, b3, b4⟩ := h2
      have x1 := a4 s b1 b2 b3
      have x2 := b4 r a1 a2 a3
      rw [hP r s a1 b1 a2 b2 (by omega)]
theorem sq_dg_uniq {n : Nat} {kd vr vl P : Nat → Nat} {Fo : Nat → Option Nat} (hP : ∀ a b, a < n → b < n → kd a = 0 → kd b = 0 → P a = P b → a = b) {f g : Nat → Nat} (h1 : sq_dg n kd vr vl P Fo f) (h2 : sq_dg n kd vr vl P Fo g) : sq_sm f 9 = sq_sm g 9 := by
  obtain ⟨a1, a2, a3⟩ := h1
  obtain ⟨b1, b2, b3⟩ := h2
  apply sq_sm_ext
  intro d hd
  by_cases h6 : d < 6
  · by_cases c : ∃ j, j < n ∧ kd j = 1 ∧ sq_sl kd vr j = d
    · obtain ⟨j, x, y, z⟩ := c
      rw [← z, a1 j x y, b1 j x y]
    · have c' : ∀ j, j < n → kd j = 1 → sq_sl kd vr j ≠ d := fun j x y z => c ⟨j, x, y, z⟩
      rw [a2 d h6 c', b2 d h6 c']
  · have ed : d = 6 + (d - 6) := by omega
    rw [ed]
    obtain ⟨o, ho, e⟩ := a3 (d - 6) (by omega)
    obtain ⟨o', ho', e'⟩ := b3 (d - 6) (by omega)
    rw [e, e', sq_mx_uniq hP ho ho']
section
variable {n : Nat} {ow kd vr vl : Nat → Nat} {yf_fences yf_storeCount yf_loadCount yf_listed yf_strictListed : Int32} {ya_stores ya_loads ya_found ya_place ya_after ya_list ya_strictList : Nat → Int32}
theorem sq_yNow {P : Nat → Nat} {Fo : Nat → Option Nat} {post : Int32 → Prop} (hW : sq_W n ow kd vr vl) (hSt : sq_St n kd ya_stores) (hPl : sq_Pl n kd P ya_place) (hFd : sq_Fd n kd Fo ya_found)
    (h : ∀ f : Nat → Nat, (∀ d, f d < 4) → sq_dg n kd vr vl P Fo f → post (nI (sq_sm f 9))) : wpY_outcomeNow post ((nI n), yf_fences, (nI (sq_cn (sq_ls kd) n)), (nI (sq_cn (sq_ll kd) n)), yf_listed, yf_strictListed, (sq_nA kd), (sq_nA ow), (sq_nA vr), (sq_nA vl), ya_stores, ya_loads, ya_found, ya_place, ya_after, ya_list, ya_strictList) := by
  obtain ⟨hn, hw, hk3, hv3, hl4, hso⟩ := id hW
  have hlc := sq_cn_le (sq_ll kd) n
  have hsc := sq_cn_le (sq_ls kd) n
  have hs6 : ∀ i, i < n → sq_cn (sq_ls kd) i < 6 := fun i hi => by have := sq_cn_le (sq_ls kd) i; omega
  have est : ∀ i, i < n → kd i = 0 → ya_stores (nI (sq_cn (sq_ls kd) i)).toNatClampNeg = nI i := fun i hi h => by have := hs6 i hi; rw [nI_clamp (by omega)]; exact hSt i hi h
  have epl : ∀ i, i < n → kd i = 0 → ya_place (nI (sq_cn (sq_ls kd) i)).toNatClampNeg = nI (P i) := fun i hi h => by have := hs6 i hi; rw [nI_clamp (by omega)]; exact (hPl i hi h).1
  have evl : ∀ i, i < n → sq_nA vl (nI i).toNatClampNeg = nI (vl i) := fun i hi => sq_at vl (by omega)
  have evr : ∀ i, i < n → sq_nA vr (nI i).toNatClampNeg = nI (vr i) := fun i hi => sq_at vr (by omega)
  obtain ⟨f0, hf4, hf1, hf2⟩ := sq_f0 (n := n) (kd := kd) hl4 Fo
  have esl : ∀ j, kd j = 1 → sq_sl kd vr j = sq_cn (sq_ll kd) j := fun j hj => if_pos hj
  -- the memory
  have inn : ∀ {J : Int32 → Int32 → Prop} (f : Nat → Nat) (x : Nat), x < 3 → (∀ v o, sq_mx n kd vr P x o → v = sq_vo vl o → J (nI (sq_sm (sq_up f (6 + x) v) (6 + x + 1))) (nI (x + 1))) → ∀ N s (y : Int32), sq_cn (sq_ls kd) n - s < N → s ≤ sq_cn (sq_ls kd) n → ((y = -1 ∧ ∀ i, i < n → kd i = 0 → vr i = x → ¬ sq_cn (sq_ls kd) i < s) ∨ ∃ i, y = nI (sq_cn (sq_ls kd) i) ∧ i < n ∧ kd i = 0 ∧ vr i = x ∧ ∀ l, l < n → kd l = 0 → vr l = x → sq_cn (sq_ls kd) l < s → P l ≤ P i) → wY_outcomeNow_68 post J (nI (sq_sm f (6 + x))) (nI x) (nI n) yf_fences (nI (sq_cn (sq_ls kd) n)) (nI (sq_cn (sq_ll kd) n)) yf_listed yf_strictListed (sq_nA kd) (sq_nA ow) (sq_nA vr) (sq_nA vl) ya_stores ya_loads ya_found ya_place ya_after ya_list ya_strictList N y (nI s) := by
    intro J f x hx hJ N
    induction N with
    | zero => intro s y g; omega
    | succ N ih =>
      intro s y g1 g2 hy
      have eup : ∀ v, sq_sm (sq_up f (6 + x) v) (6 + x + 1) = 2 ^ (2 * (6 + x)) * v + sq_sm f (6 + x) := by
        intro v
        rw [sq_sm_s, sq_up_s, sq_sm_ext (g := f) (fun d hd => sq_up_n f v (by omega))]
      refine pk_le (sq_cn (sq_ls kd) n) s (fun g3 => ?_) (fun g3 => ?_)
      · rcases hy with ⟨e, hy⟩ | ⟨i, e, hi, hi0, hix, hy⟩
        · subst e
          refine br_f (by decide) (nm_r (nI_1 x) ?_)
          have := hJ 0 none (fun i a b c => hy i a b c (by have := sq_stL a b; omega)) rfl
          rw [eup, Nat.mul_zero, Nat.zero_add] at this
          exact this
        · subst e
          have h6 := hs6 i hi
          have ea := est i hi hi0
          refine br_t (nI_pos' (by omega)) ⟨pk_in (sq_cn (sq_ls kd) i) 6 h6, pk_in i 6 (by omega) ea, nm_r ?_ (nm_r (nI_1 x) (hJ (vl i) (some i) ⟨hi, hi0, hix, fun l a b c => hy l a b c (by have := sq_stL a b; omega)⟩ rfl))⟩
          rw [ea, evl i hi, sq_pow x (by omega), eup]
          have e1 : (4096 : Int32) * nI (2 ^ (2 * x)) = nI (4096 * 2 ^ (2 * x)) := pk_mul 4096 _
          have e2 : 4096 * 2 ^ (2 * x) = 2 ^ (2 * (6 + x)) := by
            rw [show 2 * (6 + x) = 12 + 2 * x from by omega, Nat.pow_add]
          rw [e1, pk_mul, nI_add, e2, Nat.add_comm]
      · obtain ⟨i, hi, hi0, ei⟩ := sq_stA g3
        subst ei
        have h6 := hs6 i hi
        have ea := est i hi hi0
        have hvi := hv3 i
        have hpi := (hPl i hi hi0).2
        have snew : vr i = x → (∀ l, l < n → kd l = 0 → vr l = x → sq_cn (sq_ls kd) l < sq_cn (sq_ls kd) i → P l ≤ P i) → wY_outcomeNow_68 post J (nI (sq_sm f (6 + x))) (nI x) (nI n) yf_fences (nI (sq_cn (sq_ls kd) n)) (nI (sq_cn (sq_ll kd) n)) yf_listed yf_strictListed (sq_nA kd) (sq_nA ow) (sq_nA vr) (sq_nA vl) ya_stores ya_loads ya_found ya_place ya_after ya_list ya_strictList N (nI (sq_cn (sq_ls kd) i)) (nI (sq_cn (sq_ls kd) i + 1)) := by
          intro hv hl
          refine ih _ _ (by omega) (by omega) (Or.inr ⟨i, rfl, hi, hi0, hv, fun l a b c d => ?_⟩)
          by_cases e : l = i
          · rw [e]; exact Nat.le_refl _
          · have : sq_cn (sq_ls kd) l ≠ sq_cn (sq_ls kd) i := fun w => e (sq_stI b hi0 w)
            exact hl l a b c (by omega)
        have sold : (vr i = x → ∃ r, y = nI (sq_cn (sq_ls kd) r) ∧ r < n ∧ kd r = 0 ∧ P i ≤ P r) → wY_outcomeNow_68 post J (nI (sq_sm f (6 + x))) (nI x) (nI n) yf_fences (nI (sq_cn (sq_ls kd) n)) (nI (sq_cn (sq_ll kd) n)) yf_listed yf_strictListed (sq_nA kd) (sq_nA ow) (sq_nA vr) (sq_nA vl) ya_stores ya_loads ya_found ya_place ya_after ya_list ya_strictList N y (nI (sq_cn (sq_ls kd) i + 1)) := by
          intro hno
          refine ih _ y (by omega) (by omega) ?_
          rcases hy with ⟨e, hy⟩ | ⟨r, e, hr, hr0, hrx, hy⟩
          · left
            refine ⟨e, fun l a b c d => ?_⟩
            by_cases e2 : l = i
            · obtain ⟨r, er, hr, _, _⟩ := hno (e2 ▸ c)
              rw [e] at er
              have := nI_pos (n := sq_cn (sq_ls kd) r) (by have := hs6 r hr; omega)
              rw [← er] at this
              exact this (by decide)
            · have : sq_cn (sq_ls kd) l ≠ sq_cn (sq_ls kd) i := fun w => e2 (sq_stI b hi0 w)
              exact hy l a b c (by omega)
          · right
            refine ⟨r, e, hr, hr0, hrx, fun l a b c d => ?_⟩
            by_cases e2 : l = i
            · obtain ⟨r', er, hr', hr0', hle⟩ := hno (e2 ▸ c)
              rw [e] at er
              have x1 := hs6 r hr
              have x2 := hs6 r' hr'
              rw [nI_eq (by omega) (by omega)] at er
              rw [e2, sq_stI hr0 hr0' er]
              exact hle
            · have : sq_cn (sq_ls kd) l ≠ sq_cn (sq_ls kd) i := fun w => e2 (sq_stI b hi0 w)
              exact hy l a b c (by omega)
        rcases hy with ⟨e, hy⟩ | ⟨r, e, hr, hr0, hrx, hy⟩
        · subst e
          refine br_t (by decide) ⟨pk_in (sq_cn (sq_ls kd) i) 6 h6, pk_in i 6 (by omega) ea, pk_eq (vr i) x (fun g4 => br_f (by decide) (nm_r (nI_1 _) (snew g4 (fun l a b c d => absurd d (hy l a b c))))) (fun g4 => nm_r (nI_1 _) (sold (fun z => absurd z g4))) (by rw [ea]; exact evr i hi) rfl (by omega) (by omega)⟩
        · subst e
          have hr6 := hs6 r hr
          have hpr := (hPl r hr hr0).2
          refine br_f (nI_pos (by omega)) ⟨pk_in (sq_cn (sq_ls kd) i) 6 h6, pk_in (sq_cn (sq_ls kd) r) 6 hr6, pk_le (P i) (P r) (fun g4 => ?_) (fun g4 => ?_) (epl i hi hi0) (epl r hr hr0) (by omega) (by omega)⟩
          · exact ⟨pk_in (sq_cn (sq_ls kd) i) 6 h6, pk_in i 6 (by omega) ea, pk_eq (vr i) x (fun g5 => br_t rfl (nm_r (nI_1 _) (sold (fun _ => ⟨r, rfl, hr, hr0, g4⟩)))) (fun g5 => nm_r (nI_1 _) (sold (fun z => absurd z g5))) (by rw [ea]; exact evr i hi) rfl (by omega) (by omega)⟩
          · exact ⟨pk_in (sq_cn (sq_ls kd) i) 6 h6, pk_in i 6 (by omega) ea, pk_eq (vr i) x (fun g5 => br_f (by decide) (nm_r (nI_1 _) (snew g5 (fun l a b c d => by have := hy l a b c d; omega)))) (fun g5 => nm_r (nI_1 _) (sold (fun z => absurd z g5))) (by rw [ea]; exact evr i hi) rfl (by omega) (by omega)⟩
  have hvo : ∀ o, sq_vo vl o < 4 := by
    intro o
    cases o with
    | none => show 0 < 4; decide
    | some s => exact hl4 s
  have mem : ∀ N x (f : Nat → Nat), 3 - x < N → x ≤ 3 → (∀ d, f d < 4) → (∀ d, d < 6 → f d = f0 d) → (∀ y, y < x → ∃ o, sq_mx n kd vr P y o ∧ f (6 + y) = sq_vo vl o) → wY_outcomeNow_58 post (nI n) yf_fences (nI (sq_cn (sq_ls kd) n)) (nI (sq_cn (sq_ll kd) n)) yf_listed yf_strictListed (sq_nA kd) (sq_nA ow) (sq_nA vr) (sq_nA vl) ya_stores ya_loads ya_found ya_place ya_after ya_list ya_strictList N (nI (sq_sm f (6 + x))) (nI x) := by
    intro N
    induction N with
    | zero => intro x f g; omega
    | succ N ih =>
      intro x f g1 g2 hf hfe hfm
      refine pk_le 3 x (fun g3 => ?_) (fun g3 => Exists.intro (sq_cn (sq_ls kd) n + 1) ?_)
      · have ex : x = 3 := by omega
        subst ex
        refine h f hf ⟨fun j a b => ?_, fun k hk hz => ?_, hfm⟩
        · have := sq_ldL a b
          rw [esl j b, hfe _ (by omega)]
          exact hf1 j a b
        · rw [hfe k hk]
          exact hf2 k (fun j a b c => hz j a b (by rw [esl j b]; exact c))
      · refine inn f x (by omega) (fun v o ho hv => ?_) (sq_cn (sq_ls kd) n + 1) 0 (-1) (by omega) (by omega) (Or.inl ⟨rfl, fun i _ _ _ => Nat.not_lt_zero _⟩)
        refine ih (x + 1) (sq_up f (6 + x) v) (by omega) (by omega) (sq_up4 hf (by rw [hv]; exact hvo o)) (fun d hd => ?_) (fun y hy => ?_)
        · rw [sq_up_n _ _ (by omega)]; exact hfe d hd
        · by_cases e : y = x
          · subst e
            exact ⟨o, ho, by rw [sq_up_s]; exact hv⟩
          · obtain ⟨o', a, b⟩ := hfm y (by omega)
            exact ⟨o', a, by rw [sq_up_n _ _ (by omega)]; exact b⟩
  have lod : ∀ N k, sq_cn (sq_ll kd) n - k < N → k ≤ sq_cn (sq_ll kd) n → wY_outcomeNow_4 post (nI n) yf_fences (nI (sq_cn (sq_ls kd) n)) (nI (sq_cn (sq_ll kd) n)) yf_listed yf_strictListed (sq_nA kd) (sq_nA ow) (sq_nA vr) (sq_nA vl) ya_stores ya_loads ya_found ya_place ya_after ya_list ya_strictList N (nI (sq_sm f0 k)) (nI k) := by
    intro N
    induction N with
    | zero => intro k g; omega
    | succ N ih =>
      intro k g1 g2
      refine pk_le (sq_cn (sq_ll kd) n) k (fun g3 => Exists.intro 4 ?_) (fun g3 => ⟨pk_in k 6 (by omega), ?_⟩)
      · have ek : k = sq_cn (sq_ll kd) n := by omega
        have := mem 4 0 f0 (by omega) (by omega) hf4 (fun _ _ => rfl) (fun y hy => by omega)
        rw [Nat.add_zero, sq_sm_z (a := k) 6 (by omega) (fun d a b => hf2 d (fun j x y z => by have := sq_ldL x y; omega))] at this
        exact this
      · obtain ⟨j, hj, hj1, ej⟩ := sq_ldA g3
        have hfj := hf1 j hj hj1
        have hk1 := ih (k + 1) (by omega) (by omega)
        rw [sq_sm_s] at hk1
        rcases hFd j hj hj1 with ⟨ef, efo⟩ | ⟨s, hs, hs0, ef, efo⟩
        · have e1 : ya_found (nI k).toNatClampNeg = -1 := by rw [nI_clamp (by omega), ← ej]; exact efo
          rw [ej, ef] at hfj
          have hfj' : f0 k = 0 := hfj
          rw [hfj', Nat.mul_zero, Nat.zero_add] at hk1
          exact br_f (by rw [e1]; decide) (nm_r (nI_1 k) hk1)
        · have e1 : ya_found (nI k).toNatClampNeg = nI (sq_cn (sq_ls kd) s) := by rw [nI_clamp (by omega), ← ej]; exact efo
          rw [ej, ef] at hfj
          have hfj' : f0 k = vl s := hfj
          rw [hfj'] at hk1
          have h6 := hs6 s hs
          have ea := est s hs hs0
          refine br_t (by rw [e1]; exact nI_pos' (by omega)) ⟨pk_in k 6 (by omega), pk_in (sq_cn (sq_ls kd) s) 6 h6 e1, pk_in s 6 (by omega) (by rw [e1]; exact ea), nm_r ?_ (nm_r (nI_1 k) hk1)⟩
          rw [e1, ea, evl s hs, sq_pow k (by omega), pk_mul, nI_add, Nat.add_comm]
  exact Exists.intro (sq_cn (sq_ll kd) n + 1) (lod (sq_cn (sq_ll kd) n + 1) 0 (by omega) (by omega))
end
end
section
/-! the reference: setOrder, setFound, note -/
def sq_od (c : Nat) : Nat → Nat
  | 0 => 1
  | s + 1 => sq_od c s * (c - s)
theorem sq_od_s (c s : Nat) : sq_od c (s + 1) = sq_od c s * (c - s) := rfl
theorem sq_od_f (c : Nat) : ∀ s, s ≤ c → sq_od c s * sq_fac (c - s) = sq_fac c := by
  intro s
  induction s with
  | zero => intro _; show 1 * sq_fac (c - 0) = _; rw [Nat.one_mul, Nat.sub_zero]
  | succ s ih =>
    intro h
    rw [← ih (by omega), sq_od_s, Nat.mul_assoc]
    congr 1
    rw [show c - s = (c - (s + 1)) + 1 from by omega]
    rfl
theorem sq_od_c (c : Nat) : sq_od c c = sq_fac c := by
  have := sq_od_f c c (Nat.le_refl _)
  rw [Nat.sub_self] at this
  rw [← this]
  show _ = _ * 1
  rw [Nat.mul_one]
section
variable {n : Nat} {ow kd vr vl : Nat → Nat} {yf_fences yf_storeCount yf_loadCount yf_listed yf_strictListed : Int32} {ya_stores ya_loads ya_found ya_place ya_after ya_list ya_strictList : Nat → Int32}
theorem sq_yOrder {c m : Nat} {x : Int32} {q : Nat → Nat} {post : Int32 → SY → Prop} (hc : c ≤ 6) (hm : m < 2 ^ 31) (hx : x = nI m) (hq : sq_cd c m q) (h : ∀ pl : Nat → Int32, (∀ s, s < c → pl s = nI (q s)) → post (nI (sq_fac c)) ((nI n), yf_fences, (nI c), yf_loadCount, yf_listed, yf_strictListed, (sq_nA kd), (sq_nA ow), (sq_nA vr), (sq_nA vl), ya_stores, ya_loads, ya_found, pl, ya_after, ya_list, ya_strictList)) : wpY_setOrder post ((nI n), yf_fences, (nI c), yf_loadCount, yf_listed, yf_strictListed, (sq_nA kd), (sq_nA ow), (sq_nA vr), (sq_nA vl), ya_stores, ya_loads, ya_found, ya_place, ya_after, ya_list, ya_strictList) x := by
  subst hx
  have inn : ∀ {J : Int32 → Int32 → Int32 → Int32 → (Nat → Int32) → (Nat → Int32) → (Nat → Int32) → (Nat → Int32) → (Nat → Int32) → (Nat → Int32) → (Nat → Int32) → (Nat → Int32) → (Nat → Int32) → (Nat → Int32) → (Nat → Int32) → Prop} (x2 x3 y : Int32) (pl : Nat → Int32) (s : Nat), s < c → (∀ b, b < 32 → bt y b = (decide (b < c) && !sq_dn q s b)) → (∀ y' : Int32, (∀ b, b < 32 → bt y' b = (decide (b < c) && !sq_dn q (s + 1) b)) → J x2 x3 y' (nI (s + 1)) (sq_nA kd) (sq_nA ow) (sq_nA vr) (sq_nA vl) ya_stores ya_loads ya_found (upd pl s (nI (q s))) ya_after ya_list ya_strictList) → ∀ N a k, q s - a < N → a ≤ q s → k + sq_cn (sq_ud q s) a = sq_cn (sq_ud q s) (q s) → wY_setOrder_54 post J x2 x3 y (nI s) (nI n) yf_fences (nI c) yf_loadCount yf_listed yf_strictListed (sq_nA kd) (sq_nA ow) (sq_nA vr) (sq_nA vl) ya_stores ya_loads ya_found pl ya_after ya_list ya_strictList N (nI k) (nI a) := by
    intro J x2 x3 y pl s hs hy hJ N
    obtain ⟨q1, q2, _⟩ := hq s hs
    induction N with
    | zero => intro a k g; omega
    | succ N ih =>
      intro a k g1 g2 hk
      have hcl := sq_cn_le (sq_ud q s) (q s)
      have hb := hy a (by omega)
      rw [decide_eq_true (by omega : a < c), Bool.true_and] at hb
      refine ek_if (sq_bit0 y (k := a) (by omega)) (fun z => ?_) (fun z => ?_)
      · rw [hb] at z
        have hna : a ≠ q s := fun e => by rw [e, q2] at z; exact absurd z (by decide)
        refine ek_if (sq_bit1 y (k := a) (by omega)) (fun w => ?_) (fun w => nm_r (nI_1 a) (ih (a + 1) k (by omega) (by omega) ?_))
        · rw [hb, z] at w; exact absurd w (by decide)
        · rw [sq_cn_f (p := sq_ud q s) z]; exact hk
      · have z' : (!sq_dn q s a) = true := by
          rw [hb] at z
          cases hh : (!sq_dn q s a)
          · exact absurd hh z
          · rfl
        refine pk_le k 0 (fun g3 => ?_) (fun g3 => ?_)
        · have ea : a = q s := by
            rcases Nat.lt_or_ge a (q s) with w | w
            · have := sq_cn_lo (p := sq_ud q s) (i := a) (j := q s) z' w
              omega
            · omega
          subst ea
          refine ⟨pk_in s 6 (by omega), nm_r (by rw [nI_clamp (by omega)]) (nm_e (nm_r (nI_1 s) (hJ _ (fun b hb32 => ?_))))⟩
          rw [sq_clr y (by omega) hb32, hy b hb32, sq_dn_s, Bool.not_or, Bool.and_assoc]
        · obtain ⟨k', rfl⟩ : ∃ k', k = k' + 1 := ⟨k - 1, by omega⟩
          have hna : a ≠ q s := fun e => by rw [e] at hk; omega
          refine ek_if (sq_bit1 y (k := a) (by omega)) (fun w => nm_r (nI_pred k') (nm_r (nI_1 a) (ih (a + 1) k' (by omega) (by omega) ?_))) (fun w => ?_)
          · rw [sq_cn_t (p := sq_ud q s) z']; omega
          · rw [hb] at w; exact absurd z' w
  have key : ∀ N s (y : Int32) (pl : Nat → Int32), c - s < N → s ≤ c → (∀ b, b < 32 → bt y b = (decide (b < c) && !sq_dn q s b)) → (∀ l, l < s → pl l = nI (q l)) → wY_setOrder_17 post (nI n) yf_fences (nI c) yf_loadCount yf_listed yf_strictListed N (nI (sq_rs c m s)) (nI (sq_od c s)) y (nI s) (sq_nA kd) (sq_nA ow) (sq_nA vr) (sq_nA vl) ya_stores ya_loads ya_found pl ya_after ya_list ya_strictList := by
    intro N
    induction N with
    | zero => intro s y pl g; omega
    | succ N ih =>
      intro s y pl g1 g2 hy hpl
      refine pk_le c s (fun g3 => ?_) (fun g3 => ?_)
      · have es : s = c := by omega
        subst es
        rw [sq_od_c]
        exact h pl hpl
      · obtain ⟨q1, q2, q3⟩ := hq s g3
        have hrs := sq_rs_le c m s
        have hne : ¬ nI (c - s) = 0 := nI_ne0 (by omega) (by omega)
        refine nm_r (pk_sub (by omega)) ⟨hne, nm_r (pk_rem (by omega) (by omega) (by omega)) ⟨hne, nm_r (pk_div (by omega) (by omega) (by omega)) (nm_r (pk_mul _ _) (Exists.intro (q s + 1) ?_))⟩⟩
        rw [← q3]
        refine inn (nI (sq_rs c m (s + 1))) (nI (sq_od c (s + 1))) y pl s g3 hy (fun y' hy' => ih (s + 1) y' _ (by omega) (by omega) hy' (fun l hl => ?_)) (q s + 1) 0 _ (by omega) (by omega) rfl
        by_cases e : l = s
        · rw [e, pk_us]
        · rw [pk_un e]; exact hpl l (by omega)
  refine nm_e (Exists.intro (c + 1) (key (c + 1) 0 _ ya_place (by omega) (by omega) (fun b hb => ?_) (fun l hl => by omega)))
  rw [sq_low c (by omega) b hb]
  show _ = (decide (b < c) && !false)
  rw [Bool.not_false, Bool.and_true]
theorem sq_yFound {c l m : Nat} {x : Int32} {post : Int32 → SY → Prop} (hc : c ≤ 6) (hl : l ≤ 6) (hm : m < 2 ^ 31) (hx : x = nI m) (h : ∀ fo : Nat → Int32, (∀ k, k < l → fo k = nI (m / (c + 1) ^ k % (c + 1)) - 1) → post (nI ((c + 1) ^ l)) ((nI n), yf_fences, (nI c), (nI l), yf_listed, yf_strictListed, (sq_nA kd), (sq_nA ow), (sq_nA vr), (sq_nA vl), ya_stores, ya_loads, fo, ya_place, ya_after, ya_list, ya_strictList)) : wpY_setFound post ((nI n), yf_fences, (nI c), (nI l), yf_listed, yf_strictListed, (sq_nA kd), (sq_nA ow), (sq_nA vr), (sq_nA vl), ya_stores, ya_loads, ya_found, ya_place, ya_after, ya_list, ya_strictList) x := by
  subst hx
  have key : ∀ N k (fo : Nat → Int32), l - k < N → k ≤ l → (∀ i, i < k → fo i = nI (m / (c + 1) ^ i % (c + 1)) - 1) → wY_setFound_7 post (nI n) yf_fences (nI c) (nI l) yf_listed yf_strictListed N (nI (m / (c + 1) ^ k)) (nI ((c + 1) ^ k)) (nI k) (sq_nA kd) (sq_nA ow) (sq_nA vr) (sq_nA vl) ya_stores ya_loads fo ya_place ya_after ya_list ya_strictList := by
    intro N
    induction N with
    | zero => intro k fo g; omega
    | succ N ih =>
      intro k fo g1 g2 hfo
      refine pk_le l k (fun g3 => ?_) (fun g3 => ?_)
      · have ek : k = l := by omega
        subst ek
        exact h fo hfo
      · have hd := Nat.div_le_self m ((c + 1) ^ k)
        have hne : ¬ nI c + 1 = 0 := by rw [nI_1]; exact nI_ne0 (by omega) (by omega)
        refine ⟨hne, pk_in k 6 (by omega), nm_e ⟨hne, nm_r (e' := nI (m / (c + 1) ^ (k + 1))) ?_ (nm_r (e' := nI ((c + 1) ^ (k + 1))) ?_ (nm_r (nI_1 k) (ih (k + 1) _ (by omega) (by omega) (fun i hi => ?_))))⟩⟩
        · rw [nI_1, pk_div (by omega) (by omega) (by omega), Nat.div_div_eq_div_mul, Nat.pow_succ]
        · rw [nI_1, pk_mul, Nat.pow_succ]
        · rw [nI_1, pk_rem (by omega) (by omega) (by omega), nI_clamp (by omega)]
          by_cases e : i = k
          · rw [e, pk_us]
          · rw [pk_un e]; exact hfo i (by omega)
  refine Exists.intro (l + 1) ?_
  have := key (l + 1) 0 ya_found (by omega) (by omega) (fun i hi => by omega)
  rw [Nat.pow_zero, Nat.div_one] at this
  exact this
theorem sq_yNoL {f : Nat → Nat} {c a o : Nat} {post : SY → Prop} (hc : c < 720) (h : post ((nI n), yf_fences, yf_storeCount, yf_loadCount, (nI (c + 1)), yf_strictListed, (sq_nA kd), (sq_nA ow), (sq_nA vr), (sq_nA vl), ya_stores, ya_loads, ya_found, ya_place, ya_after, (sq_nA (sq_pu f c a o)), ya_strictList)) : ∀ N i, i < N → a ≤ i → i ≤ c → wY_note_91 post (nI o) 0 (nI a) (nI n) yf_fences yf_storeCount yf_loadCount (nI c) yf_strictListed N (nI i) (sq_nA kd) (sq_nA ow) (sq_nA vr) (sq_nA vl) ya_stores ya_loads ya_found ya_place ya_after (sq_nA (sq_ps f c i)) ya_strictList := by
  intro N
  induction N with
  | zero => intro i h1; omega
  | succ N ih =>
    intro i h1 h2 h3
    refine pk_le i a (fun h4 => ?_) (fun h4 => ?_)
    · have ei : i = a := by omega
      subst ei
      refine (br_t rfl ⟨pk_in i 720 (by omega), nm_r (sq_sto _ o (by omega)) (nm_r (nI_1 c) ?_)⟩)
      rw [sq_ps_e]
      exact h
    · obtain ⟨j, rfl⟩ : ∃ j, i = j + 1 := ⟨i - 1, by omega⟩
      have hp : nI (j + 1) - 1 = nI j := nI_pred j
      have cp : upd (sq_nA (sq_ps f c (j + 1))) (nI (j + 1)).toNatClampNeg (sq_nA (sq_ps f c (j + 1)) (nI (j + 1) - 1).toNatClampNeg) = sq_nA (sq_ps f c j) := by
        rw [hp, sq_cpy _ (by omega) (by omega), sq_ps_s f (by omega)]
      exact (br_t rfl ⟨pk_in j 720 (by omega) hp, pk_in (j + 1) 720 (by omega), nm_r cp (nm_r (pk_m1 j) (ih j (by omega) (by omega) (by omega)))⟩)
theorem sq_yNo_ {f : Nat → Nat} {c o : Nat} {P : Nat → Prop} {post : SY → Prop} (hc : c < 720) (ho : o < 262144) (hP : ∀ o, P o → o < 262144) (hS : sq_SS f c P) (h : ∀ f' c', c' ≤ c + 1 → sq_SS f' c' (fun x => P x ∨ x = o) → post ((nI n), yf_fences, yf_storeCount, yf_loadCount, (nI c'), yf_strictListed, (sq_nA kd), (sq_nA ow), (sq_nA vr), (sq_nA vl), ya_stores, ya_loads, ya_found, ya_place, ya_after, (sq_nA f'), ya_strictList)) : wpY_note post ((nI n), yf_fences, yf_storeCount, yf_loadCount, (nI c), yf_strictListed, (sq_nA kd), (sq_nA ow), (sq_nA vr), (sq_nA vl), ya_stores, ya_loads, ya_found, ya_place, ya_after, (sq_nA f), ya_strictList) (nI o) 0 := by
  have hf : ∀ i, i < c → f i < 262144 := fun i hi => hP _ ((hS.2 _).mpr ⟨i, hi, rfl⟩)
  have put : ∀ a, a ≤ c → (∀ i, i < a → f i < o) → (a < c → o < f a) → ∃ N, wY_note_91 post (nI o) 0 (nI a) (nI n) yf_fences yf_storeCount yf_loadCount (nI c) yf_strictListed N (nI c) (sq_nA kd) (sq_nA ow) (sq_nA vr) (sq_nA vl) ya_stores ya_loads ya_found ya_place ya_after (sq_nA f) ya_strictList := by
    intro a ha hlo hne
    refine ⟨c + 1, ?_⟩
    have := sq_yNoL (n := n) (ow := ow) (kd := kd) (vr := vr) (vl := vl) (f := f) (c := c) (a := a) (o := o) hc (h _ _ (Nat.le_refl _) (sq_SS_in hS ha hlo hne)) (c + 1) c (by omega) ha (Nat.le_refl _)
    rw [sq_ps_0] at this
    exact this
  have at56 : ∀ a, a ≤ c → (∀ i, i < a → f i < o) → (a < c → o ≤ f a) → wY_note_56 post (nI o) 0 (nI c) (nI a) (nI n) yf_fences yf_storeCount yf_loadCount (nI c) yf_strictListed (sq_nA kd) (sq_nA ow) (sq_nA vr) (sq_nA vl) ya_stores ya_loads ya_found ya_place ya_after (sq_nA f) ya_strictList := by
    intro a ha hlo hhi
    refine pk_le c a (fun h3 => put a ha hlo (fun z => by omega)) (fun h3 => (br_t rfl ⟨pk_in a 720 (by omega), ?_⟩))
    have h5 := hhi h3
    have h6 := hf a h3
    refine pk_eq (f a) o (fun h4 => ?_) (fun h4 => put a ha hlo (fun _ => by omega)) (sq_at f (by omega)) rfl (by omega) (by omega)
    exact h f c (by omega) (sq_SS_old hS ((hS.2 o).mpr ⟨a, h3, h4⟩))
  have key : ∀ N a, c - a < N → a ≤ c → (∀ i, i < a → f i < o) → wY_note_19 post (nI o) 0 (nI c) (nI n) yf_fences yf_storeCount yf_loadCount (nI c) yf_strictListed (sq_nA kd) (sq_nA ow) (sq_nA vr) (sq_nA vl) ya_stores ya_loads ya_found ya_place ya_after (sq_nA f) ya_strictList N (nI a) := by
    intro N
    induction N with
    | zero => intro a h1; omega
    | succ N ih =>
      intro a h1 h2 ha
      refine pk_le c a (fun h3 => at56 a h2 ha (fun z => by omega)) (fun h3 => (br_t rfl ⟨pk_in a 720 (by omega), ?_⟩))
      have h6 := hf a h3
      refine pk_le o (f a) (fun h4 => at56 a h2 ha (fun _ => h4)) (fun h4 => nm_r (nI_1 a) (ih (a + 1) (by omega) (by omega) (fun i hi => ?_))) rfl (sq_at f (by omega)) (by omega) (by omega)
      by_cases e : i = a
      · rw [e]; exact h4
      · exact ha i (by omega)
  exact (br_t rfl (Exists.intro (c + 1) (key (c + 1) 0 (by omega) (by omega) (fun i hi => by omega))))
theorem sq_ySnL {f : Nat → Nat} {c a o : Nat} {post : SY → Prop} (hc : c < 720) (h : post ((nI n), yf_fences, yf_storeCount, yf_loadCount, yf_listed, (nI (c + 1)), (sq_nA kd), (sq_nA ow), (sq_nA vr), (sq_nA vl), ya_stores, ya_loads, ya_found, ya_place, ya_after, ya_list, (sq_nA (sq_pu f c a o)))) : ∀ N i, i < N → a ≤ i → i ≤ c → wY_note_91 post (nI o) 1 (nI a) (nI n) yf_fences yf_storeCount yf_loadCount yf_listed (nI c) N (nI i) (sq_nA kd) (sq_nA ow) (sq_nA vr) (sq_nA vl) ya_stores ya_loads ya_found ya_place ya_after ya_list (sq_nA (sq_ps f c i)) := by
  intro N
  induction N with
  | zero => intro i h1; omega
  | succ N ih =>
    intro i h1 h2 h3
    refine pk_le i a (fun h4 => ?_) (fun h4 => ?_)
    · have ei : i = a := by omega
      subst ei
      refine (br_f (by decide) ⟨pk_in i 720 (by omega), nm_r (sq_sto _ o (by omega)) (nm_r (nI_1 c) ?_)⟩)
      rw [sq_ps_e]
      exact h
    · obtain ⟨j, rfl⟩ : ∃ j, i = j + 1 := ⟨i - 1, by omega⟩
      have hp : nI (j + 1) - 1 = nI j := nI_pred j
      have cp : upd (sq_nA (sq_ps f c (j + 1))) (nI (j + 1)).toNatClampNeg (sq_nA (sq_ps f c (j + 1)) (nI (j + 1) - 1).toNatClampNeg) = sq_nA (sq_ps f c j) := by
        rw [hp, sq_cpy _ (by omega) (by omega), sq_ps_s f (by omega)]
      exact (br_f (by decide) ⟨pk_in j 720 (by omega) hp, pk_in (j + 1) 720 (by omega), nm_r cp (nm_r (pk_m1 j) (ih j (by omega) (by omega) (by omega)))⟩)
theorem sq_ySn_ {f : Nat → Nat} {c o : Nat} {P : Nat → Prop} {post : SY → Prop} (hc : c < 720) (ho : o < 262144) (hP : ∀ o, P o → o < 262144) (hS : sq_SS f c P) (h : ∀ f' c', c' ≤ c + 1 → sq_SS f' c' (fun x => P x ∨ x = o) → post ((nI n), yf_fences, yf_storeCount, yf_loadCount, yf_listed, (nI c'), (sq_nA kd), (sq_nA ow), (sq_nA vr), (sq_nA vl), ya_stores, ya_loads, ya_found, ya_place, ya_after, ya_list, (sq_nA f'))) : wpY_note post ((nI n), yf_fences, yf_storeCount, yf_loadCount, yf_listed, (nI c), (sq_nA kd), (sq_nA ow), (sq_nA vr), (sq_nA vl), ya_stores, ya_loads, ya_found, ya_place, ya_after, ya_list, (sq_nA f)) (nI o) 1 := by
  have hf : ∀ i, i < c → f i < 262144 := fun i hi => hP _ ((hS.2 _).mpr ⟨i, hi, rfl⟩)
  have put : ∀ a, a ≤ c → (∀ i, i < a → f i < o) → (a < c → o < f a) → ∃ N, wY_note_91 post (nI o) 1 (nI a) (nI n) yf_fences yf_storeCount yf_loadCount yf_listed (nI c) N (nI c) (sq_nA kd) (sq_nA ow) (sq_nA vr) (sq_nA vl) ya_stores ya_loads ya_found ya_place ya_after ya_list (sq_nA f) := by
    intro a ha hlo hne
    refine ⟨c + 1, ?_⟩
    have := sq_ySnL (n := n) (ow := ow) (kd := kd) (vr := vr) (vl := vl) (f := f) (c := c) (a := a) (o := o) hc (h _ _ (Nat.le_refl _) (sq_SS_in hS ha hlo hne)) (c + 1) c (by omega) ha (Nat.le_refl _)
    rw [sq_ps_0] at this
    exact this
  have at56 : ∀ a, a ≤ c → (∀ i, i < a → f i < o) → (a < c → o ≤ f a) → wY_note_56 post (nI o) 1 (nI c) (nI a) (nI n) yf_fences yf_storeCount yf_loadCount yf_listed (nI c) (sq_nA kd) (sq_nA ow) (sq_nA vr) (sq_nA vl) ya_stores ya_loads ya_found ya_place ya_after ya_list (sq_nA f) := by
    intro a ha hlo hhi
    refine pk_le c a (fun h3 => put a ha hlo (fun z => by omega)) (fun h3 => (br_f (by decide) ⟨pk_in a 720 (by omega), ?_⟩))
    have h5 := hhi h3
    have h6 := hf a h3
    refine pk_eq (f a) o (fun h4 => ?_) (fun h4 => put a ha hlo (fun _ => by omega)) (sq_at f (by omega)) rfl (by omega) (by omega)
    exact h f c (by omega) (sq_SS_old hS ((hS.2 o).mpr ⟨a, h3, h4⟩))
  have key : ∀ N a, c - a < N → a ≤ c → (∀ i, i < a → f i < o) → wY_note_19 post (nI o) 1 (nI c) (nI n) yf_fences yf_storeCount yf_loadCount yf_listed (nI c) (sq_nA kd) (sq_nA ow) (sq_nA vr) (sq_nA vl) ya_stores ya_loads ya_found ya_place ya_after ya_list (sq_nA f) N (nI a) := by
    intro N
    induction N with
    | zero => intro a h1; omega
    | succ N ih =>
      intro a h1 h2 ha
      refine pk_le c a (fun h3 => at56 a h2 ha (fun z => by omega)) (fun h3 => (br_f (by decide) ⟨pk_in a 720 (by omega), ?_⟩))
      have h6 := hf a h3
      refine pk_le o (f a) (fun h4 => at56 a h2 ha (fun _ => h4)) (fun h4 => nm_r (nI_1 a) (ih (a + 1) (by omega) (by omega) (fun i hi => ?_))) rfl (sq_at f (by omega)) (by omega) (by omega)
      by_cases e : i = a
      · rw [e]; exact h4
      · exact ha i (by omega)
  exact (br_f (by decide) (Exists.intro (c + 1) (key (c + 1) 0 (by omega) (by omega) (fun i hi => by omega))))
end
end
section
/-! the reference: goOver -/
theorem sq_slc (kd : Nat → Nat) : ∀ n, sq_cn (sq_ls kd) n + sq_cn (sq_ll kd) n ≤ n := by
  intro n
  induction n with
  | zero => exact Nat.le_refl _
  | succ n ih =>
    by_cases h : kd n = 0
    · rw [sq_cn_t (sq_lsT.mpr h), sq_cn_f (sq_llF (by omega))]; omega
    · rw [sq_cn_f (sq_lsF h), sq_cn_s]; split <;> omega
theorem sq_m720 : ∀ c, c < 7 → ∀ l, l < 7 → c + l ≤ 6 → sq_fac c * (c + 1) ^ l ≤ 720 := by decide +kernel
noncomputable def sq_sg (n : Nat) (kd : Nat → Nat) (s : Nat) : Nat := Classical.epsilon (fun i => i < n ∧ kd i = 0 ∧ sq_cn (sq_ls kd) i = s)
theorem sq_sgP {n : Nat} {kd : Nat → Nat} {s : Nat} (h : s < sq_cn (sq_ls kd) n) : sq_sg n kd s < n ∧ kd (sq_sg n kd s) = 0 ∧ sq_cn (sq_ls kd) (sq_sg n kd s) = s := Classical.epsilon_spec (sq_stA h)
theorem sq_sgI {n : Nat} {kd : Nat → Nat} {i : Nat} (hi : i < n) (h : kd i = 0) : sq_sg n kd (sq_cn (sq_ls kd) i) = i := by
  have := sq_sgP (sq_stL hi h)
  exact sq_stI this.2.1 h this.2.2
noncomputable def sq_lg (n : Nat) (kd : Nat → Nat) (s : Nat) : Nat := Classical.epsilon (fun i => i < n ∧ kd i = 1 ∧ sq_cn (sq_ll kd) i = s)
theorem sq_lgP {n : Nat} {kd : Nat → Nat} {s : Nat} (h : s < sq_cn (sq_ll kd) n) : sq_lg n kd s < n ∧ kd (sq_lg n kd s) = 1 ∧ sq_cn (sq_ll kd) (sq_lg n kd s) = s := Classical.epsilon_spec (sq_ldA h)
theorem sq_lgI {n : Nat} {kd : Nat → Nat} {i : Nat} (hi : i < n) (h : kd i = 1) : sq_lg n kd (sq_cn (sq_ll kd) i) = i := by
  have := sq_lgP (sq_ldL hi h)
  exact sq_ldI this.2.1 h this.2.2
noncomputable def sq_Pm (n : Nat) (kd : Nat → Nat) (m : Nat) : Nat → Nat := fun i => if i < n ∧ kd i = 0 then sq_Q (sq_cn (sq_ls kd) n) m (sq_cn (sq_ls kd) i) else 0
noncomputable def sq_Fm (n : Nat) (kd : Nat → Nat) (m : Nat) : Nat → Option Nat := fun j => if j < n ∧ kd j = 1 then (if m / (sq_cn (sq_ls kd) n + 1) ^ (sq_cn (sq_ll kd) j) % (sq_cn (sq_ls kd) n + 1) = 0 then none else some (sq_sg n kd (m / (sq_cn (sq_ls kd) n + 1) ^ (sq_cn (sq_ll kd) j) % (sq_cn (sq_ls kd) n + 1) - 1))) else none
theorem sq_PmV {n : Nat} {kd : Nat → Nat} {m i : Nat} (hi : i < n) (h : kd i = 0) : sq_Pm n kd m i = sq_Q (sq_cn (sq_ls kd) n) m (sq_cn (sq_ls kd) i) := if_pos ⟨hi, h⟩
theorem sq_FmV {n : Nat} {kd : Nat → Nat} {m j : Nat} (hj : j < n) (h : kd j = 1) : sq_Fm n kd m j = if m / (sq_cn (sq_ls kd) n + 1) ^ (sq_cn (sq_ll kd) j) % (sq_cn (sq_ls kd) n + 1) = 0 then none else some (sq_sg n kd (m / (sq_cn (sq_ls kd) n + 1) ^ (sq_cn (sq_ll kd) j) % (sq_cn (sq_ls kd) n + 1) - 1)) := if_pos ⟨hj, h⟩
theorem sq_PmB {n : Nat} {kd : Nat → Nat} {m i : Nat} (hi : i < n) (h : kd i = 0) : sq_Pm n kd m i < sq_cn (sq_ls kd) n := by
  rw [sq_PmV hi h]
  exact (sq_Qc _ m _ (sq_stL hi h)).1
theorem sq_PmI {n : Nat} {kd : Nat → Nat} {m : Nat} : ∀ a b, a < n → b < n → kd a = 0 → kd b = 0 → sq_Pm n kd m a = sq_Pm n kd m b → a = b := by
  intro a b ha hb ha0 hb0 e
  rw [sq_PmV ha ha0, sq_PmV hb hb0] at e
  exact sq_stI ha0 hb0 (sq_pm_inj (sq_cd_pm (sq_Qc _ m)) _ _ (sq_stL ha ha0) (sq_stL hb hb0) e)
theorem sq_mcl (n : Nat) (kd : Nat → Nat) (m r : Nat) : sq_cl n kd (sq_Pm n kd m) (sq_Fm n kd r) := ⟨fun a h => if_neg h, fun j h => if_neg h⟩
def sq_Yk (n : Nat) (ow kd vr vl : Nat → Nat) (S : Bool) (F : Nat → Bool) (k o : Nat) : Prop :=
  ∃ m, m < k ∧ sq_ok n ow kd vr S F (sq_Pm n kd (m / (sq_cn (sq_ls kd) n + 1) ^ sq_cn (sq_ll kd) n)) (sq_Fm n kd (m % (sq_cn (sq_ls kd) n + 1) ^ sq_cn (sq_ll kd) n)) ∧ ∃ f, sq_dg n kd vr vl (sq_Pm n kd (m / (sq_cn (sq_ls kd) n + 1) ^ sq_cn (sq_ll kd) n)) (sq_Fm n kd (m % (sq_cn (sq_ls kd) n + 1) ^ sq_cn (sq_ll kd) n)) f ∧ o = sq_sm f 9
theorem sq_Yk_all {n : Nat} {ow kd vr vl : Nat → Nat} {S : Bool} {F : Nat → Bool} (o : Nat) : sq_Yk n ow kd vr vl S F (sq_fac (sq_cn (sq_ls kd) n) * (sq_cn (sq_ls kd) n + 1) ^ sq_cn (sq_ll kd) n) o ↔ sq_PY n ow kd vr vl S F o := by
  generalize hC : (sq_cn (sq_ls kd) n + 1) ^ sq_cn (sq_ll kd) n = C
  have hC0 : 0 < C := by rw [← hC]; exact Nat.pow_pos (by omega)
  constructor
  · rintro ⟨m, hm, hok, f, hd, e⟩
    exact ⟨_, _, f, sq_mcl n kd _ _, fun a x y => sq_PmB x y, sq_PmI, hok, hd, e⟩
  · rintro ⟨P, Fo, f, ⟨hc1, hc2⟩, hb, hi, hok, hd, e⟩
    have hpm : sq_pm (sq_cn (sq_ls kd) n) (fun s => P (sq_sg n kd s)) := by
      refine sq_pm_of (fun t ht => ?_) (fun s t hst ht z => ?_)
      · have := sq_sgP ht
        exact hb _ this.1 this.2.1
      · have a := sq_sgP ht
        have b := sq_sgP (n := n) (kd := kd) (s := s) (by omega)
        have := hi _ _ b.1 a.1 b.2.1 a.2.1 z
        have x1 := a.2.2
        have x2 := b.2.2
        rw [this] at x2
        omega
    obtain ⟨m1, hm1, hcd⟩ := sq_cd_all hpm
    have hdet := sq_cd_det hcd (sq_Qc _ m1)
    have hdig : ∀ k, k < sq_cn (sq_ll kd) n → (match Fo (sq_lg n kd k) with | none => 0 | some s => sq_cn (sq_ls kd) s + 1) < sq_cn (sq_ls kd) n + 1 := by
      intro k hk
      have hl := sq_lgP hk
      have hmf := hok.1 _ hl.1 hl.2.1
      cases hf : Fo (sq_lg n kd k) with
      | none => show 0 < _; omega
      | some s =>
        rw [hf] at hmf
        have := sq_stL hmf.1 hmf.2.1
        show sq_cn (sq_ls kd) s + 1 < _
        omega
    obtain ⟨m2, hm2, hdg⟩ := sq_bas (sq_cn (sq_ls kd) n + 1) (by omega) (sq_cn (sq_ll kd) n) (fun k => match Fo (sq_lg n kd k) with | none => 0 | some s => sq_cn (sq_ls kd) s + 1) hdig
    rw [hC] at hm2
    have eP : sq_Pm n kd m1 = P := by
      funext i
      by_cases c : i < n ∧ kd i = 0
      · rw [sq_PmV c.1 c.2, ← hdet _ (sq_stL c.1 c.2)]
        show P (sq_sg n kd (sq_cn (sq_ls kd) i)) = P i
        rw [sq_sgI c.1 c.2]
      · rw [hc1 i c]; exact if_neg c
    have eF : sq_Fm n kd m2 = Fo := by
      funext j
      by_cases c : j < n ∧ kd j = 1
      · rw [sq_FmV c.1 c.2, hdg _ (sq_ldL c.1 c.2), sq_lgI c.1 c.2]
        have hmf := hok.1 _ c.1 c.2
        cases hf : Fo j with
        | none => rfl
        | some s =>
          rw [hf] at hmf
          show (if sq_cn (sq_ls kd) s + 1 = 0 then none else some (sq_sg n kd (sq_cn (sq_ls kd) s + 1 - 1))) = some s
          rw [if_neg (by omega), Nat.add_sub_cancel, sq_sgI hmf.1 hmf.2.1]
      · rw [hc2 j c]; exact if_neg c
    have e1 : (m1 * C + m2) / C = m1 := by
      rw [Nat.mul_comm, Nat.mul_add_div hC0, Nat.div_eq_of_lt hm2, Nat.add_zero]
    have e2 : (m1 * C + m2) % C = m2 := by
      rw [Nat.mul_comm, Nat.mul_add_mod, Nat.mod_eq_of_lt hm2]
    refine ⟨m1 * C + m2, ?_, ?_⟩
    · have : (m1 + 1) * C ≤ sq_fac (sq_cn (sq_ls kd) n) * C := Nat.mul_le_mul_right _ hm1
      rw [Nat.add_mul, Nat.one_mul] at this
      omega
    · rw [hC, e1, e2, eP, eF]
      exact ⟨hok, f, hd, e⟩
theorem sq_dg_lt {n : Nat} {kd vr vl P : Nat → Nat} {Fo : Nat → Option Nat} (hP : ∀ a b, a < n → b < n → kd a = 0 → kd b = 0 → P a = P b → a = b) {f g : Nat → Nat} (hg : ∀ d, g d < 4) (h1 : sq_dg n kd vr vl P Fo f) (h2 : sq_dg n kd vr vl P Fo g) : sq_sm f 9 < 262144 := by
  rw [sq_dg_uniq hP h1 h2]
  exact sq_sm_lt hg 9
theorem sq_dg_4 {n : Nat} {kd vr vl P : Nat → Nat} {Fo : Nat → Option Nat} (hl : ∀ i, vl i < 4) {f : Nat → Nat} (h1 : sq_dg n kd vr vl P Fo f) : sq_sm f 9 < 262144 := by
  obtain ⟨a1, a2, a3⟩ := h1
  have hvo : ∀ o, sq_vo vl o < 4 := by
    intro o
    cases o with
    | none => show 0 < 4; decide
    | some s => exact hl s
  have h4 : ∀ d, d < 9 → f d < 4 := by
    intro d hd
    by_cases h6 : d < 6
    · by_cases c : ∃ j, j < n ∧ kd j = 1 ∧ sq_sl kd vr j = d
      · obtain ⟨j, x, y, z⟩ := c
        rw [← z, a1 j x y]; exact hvo _
      · rw [a2 d h6 (fun j x y z => c ⟨j, x, y, z⟩)]; decide
    · have ed : d = 6 + (d - 6) := by omega
      rw [ed]
      obtain ⟨o, _, e⟩ := a3 (d - 6) (by omega)
      rw [e]; exact hvo o
  have e : sq_sm f 9 = sq_sm (fun d => if d < 9 then f d else 0) 9 := sq_sm_ext (fun d hd => (if_pos hd).symm)
  rw [e]
  refine sq_sm_lt (fun d => ?_) 9
  split
  · rename_i h; exact h4 d h
  · decide
section
variable {n : Nat} {ow kd vr vl : Nat → Nat} {yf_fences yf_storeCount yf_loadCount yf_listed yf_strictListed : Int32} {ya_stores ya_loads ya_found ya_place ya_after ya_list ya_strictList : Nat → Int32}
theorem sq_yFdm {m c l : Nat} {fo : Nat → Int32} (hn : n ≤ 6) (ec : c = sq_cn (sq_ls kd) n) (el : l = sq_cn (sq_ll kd) n) (h : ∀ k, k < l → fo k = nI (m / (c + 1) ^ k % (c + 1)) - 1) : sq_Fd n kd (sq_Fm n kd m) fo := by
  subst ec el
  intro j hj hj1
  have hc := sq_cn_le (sq_ls kd) n
  have hk := h _ (sq_ldL hj hj1)
  rw [sq_FmV hj hj1]
  generalize hd : m / (sq_cn (sq_ls kd) n + 1) ^ sq_cn (sq_ll kd) j % (sq_cn (sq_ls kd) n + 1) = d at *
  have hdl : d < sq_cn (sq_ls kd) n + 1 := by rw [← hd]; exact Nat.mod_lt _ (by omega)
  by_cases e : d = 0
  · left
    refine ⟨if_pos e, ?_⟩
    rw [hk, e]; decide
  · right
    have hs := sq_sgP (n := n) (kd := kd) (s := d - 1) (by omega)
    refine ⟨_, hs.1, hs.2.1, if_neg e, ?_⟩
    rw [hk, hs.2.2]
    exact pk_sub (a := d) (b := 1) (by omega)
theorem sq_yPlm {m c : Nat} {pl : Nat → Int32} (hn : n ≤ 6) (ec : c = sq_cn (sq_ls kd) n) (h : ∀ s, s < c → pl s = nI (sq_Q c m s)) : sq_Pl n kd (sq_Pm n kd m) pl := by
  subst ec
  intro i hi hi0
  have hc := sq_cn_le (sq_ls kd) n
  have := sq_PmB (m := m) hi hi0
  refine ⟨?_, by omega⟩
  rw [h _ (sq_stL hi hi0), sq_PmV hi hi0]
theorem sq_yGo0 {post : SY → Prop} (hW : sq_W n ow kd vr vl)
    (h : ∀ (la : Nat → Nat) (L : Nat) (st ld fo pl A : Nat → Int32), L ≤ 720 → sq_SS la L (sq_PY n ow kd vr vl Bool.false (bt yf_fences)) → post ((nI n), yf_fences, (nI (sq_cn (sq_ls kd) n)), (nI (sq_cn (sq_ll kd) n)), (nI L), yf_strictListed, (sq_nA kd), (sq_nA ow), (sq_nA vr), (sq_nA vl), st, ld, fo, pl, A, (sq_nA la), ya_strictList)) : wpY_goOver post ((nI n), yf_fences, yf_storeCount, yf_loadCount, yf_listed, yf_strictListed, (sq_nA kd), (sq_nA ow), (sq_nA vr), (sq_nA vl), ya_stores, ya_loads, ya_found, ya_place, ya_after, ya_list, ya_strictList) 0 := by
  obtain ⟨hn, hw, hk3, hv3, hl4, hso⟩ := id hW
  have hlc := sq_cn_le (sq_ll kd) n
  have hsc := sq_cn_le (sq_ls kd) n
  have hsl := sq_slc kd n
  have h720 := sq_m720 (sq_cn (sq_ls kd) n) (by omega) (sq_cn (sq_ll kd) n) (by omega) (by omega)
  have hall := fun o => sq_Yk_all (n := n) (ow := ow) (kd := kd) (vr := vr) (vl := vl) (S := Bool.false) (F := bt yf_fences) o
  have hC0 : 0 < (sq_cn (sq_ls kd) n + 1) ^ sq_cn (sq_ll kd) n := Nat.pow_pos (by omega)
  obtain ⟨la0, rfl⟩ := sq_rep ya_list
  refine sq_ySort (yf_storeCount := yf_storeCount) (yf_loadCount := yf_loadCount) hn hk3 (fun st ld hSt hLd => ?_)
  refine (br_t rfl ((br_t rfl ?_)))
  refine sq_yOrder (m := 0) (by omega) (by omega) rfl (sq_Qc _ 0) (fun pl0 _ => ?_)
  refine sq_yFound (m := 0) (by omega) (by omega) (by omega) rfl (fun fo0 _ => ?_)
  refine Exists.intro (sq_fac (sq_cn (sq_ls kd) n) * (sq_cn (sq_ls kd) n + 1) ^ sq_cn (sq_ll kd) n + 1) ?_
  have key : ∀ N m L (la : Nat → Nat) (pl fo A : Nat → Int32), sq_fac (sq_cn (sq_ls kd) n) * (sq_cn (sq_ls kd) n + 1) ^ sq_cn (sq_ll kd) n - m < N → m ≤ sq_fac (sq_cn (sq_ls kd) n) * (sq_cn (sq_ls kd) n + 1) ^ sq_cn (sq_ll kd) n → L ≤ m → sq_SS la L (sq_Yk n ow kd vr vl Bool.false (bt yf_fences) m) → wY_goOver_51 post 0 (nI (sq_fac (sq_cn (sq_ls kd) n))) (nI ((sq_cn (sq_ls kd) n + 1) ^ sq_cn (sq_ll kd) n)) N (nI m) (nI n) yf_fences (nI (sq_cn (sq_ls kd) n)) (nI (sq_cn (sq_ll kd) n)) (nI L) yf_strictListed (sq_nA kd) (sq_nA ow) (sq_nA vr) (sq_nA vl) st ld fo pl A (sq_nA la) ya_strictList := by
    intro N
    induction N with
    | zero => intro m L la pl fo A g; omega
    | succ N ih =>
      intro m L la pl fo A g1 g2 g3 hS
      have hCle : (sq_cn (sq_ls kd) n + 1) ^ sq_cn (sq_ll kd) n ≤ 720 := by
        have f0 : 0 < sq_fac (sq_cn (sq_ls kd) n) := by
          have : ∀ k, 0 < sq_fac k := by
            intro k
            induction k with
            | zero => decide
            | succ k ih => exact Nat.mul_pos (by omega) ih
          exact this _
        exact Nat.le_trans (Nat.le_mul_of_pos_left _ f0) h720
      refine pk_le (sq_fac (sq_cn (sq_ls kd) n) * (sq_cn (sq_ls kd) n + 1) ^ sq_cn (sq_ll kd) n) m (fun g4 => ?_) (fun g4 => ?_) (pk_mul _ _)
      · have em : m = sq_fac (sq_cn (sq_ls kd) n) * (sq_cn (sq_ls kd) n + 1) ^ sq_cn (sq_ll kd) n := by omega
        refine h la L st ld fo pl A (by omega) (sq_SS_c hS (fun o => ?_))
        rw [em]
        exact hall o
      · have hne : ¬ nI ((sq_cn (sq_ls kd) n + 1) ^ sq_cn (sq_ll kd) n) = 0 := nI_ne0 hC0 (by omega)
        have hd1 := Nat.div_le_self m ((sq_cn (sq_ls kd) n + 1) ^ sq_cn (sq_ll kd) n)
        have hd2 := Nat.mod_le m ((sq_cn (sq_ls kd) n + 1) ^ sq_cn (sq_ll kd) n)
        refine ⟨hne, ?_⟩
        refine sq_yOrder (m := m / (sq_cn (sq_ls kd) n + 1) ^ sq_cn (sq_ll kd) n) (by omega) (by omega) (pk_div (by omega) hC0 (by omega)) (sq_Qc _ _) (fun pl' hpl' => ⟨hne, ?_⟩)
        refine sq_yFound (m := m % (sq_cn (sq_ls kd) n + 1) ^ sq_cn (sq_ll kd) n) (by omega) (by omega) (by omega) (pk_rem (by omega) hC0 (by omega)) (fun fo' hfo' => ?_)
        have hPl := sq_yPlm hn rfl hpl'
        have hFd := sq_yFdm hn rfl rfl hfo'
        refine sq_yAll (S := Bool.false) hW (by decide) hSt hLd hPl hFd (fun hok A' => ?_) (fun hok A' => ?_)
        · refine br_f (by decide) ?_
          refine sq_yNow hW hSt hPl hFd (fun f hf4 hdg => ?_)
          refine sq_yNo_ (P := sq_Yk n ow kd vr vl Bool.false (bt yf_fences) m) (by omega) (sq_sm_lt hf4 9) ?_ hS (fun f' c' hc' hS' => nm_r (nI_1 m) (ih (m + 1) c' f' pl' fo' A' (by omega) (by omega) (by omega) (sq_SS_c hS' (fun o => ?_))))
          · rintro o ⟨m', _, _, f'', hd'', e⟩
            rw [e]; exact sq_dg_4 hl4 hd''
          · constructor
            · rintro (⟨m', hm', a, b⟩ | e)
              · exact ⟨m', by omega, a, b⟩
              · exact ⟨m, by omega, hok, f, hdg, e⟩
            · rintro ⟨m', hm', a, f'', hd'', e⟩
              by_cases em : m' = m
              · subst em
                right
                rw [e]
                exact sq_dg_uniq sq_PmI hd'' hdg
              · left
                exact ⟨m', by omega, a, f'', hd'', e⟩
        · refine br_t rfl (nm_r (nI_1 m) (ih (m + 1) L la pl' fo' A' (by omega) (by omega) (by omega) (sq_SS_c hS (fun o => ?_))))
          constructor
          · rintro ⟨m', hm', a, b⟩
            exact ⟨m', by omega, a, b⟩
          · rintro ⟨m', hm', a, b⟩
            by_cases em : m' = m
            · subst em; exact absurd a hok
            · exact ⟨m', by omega, a, b⟩
  exact key _ 0 0 la0 pl0 fo0 ya_after (by omega) (by omega) (by omega) (sq_SS_0 _ (fun o z => by obtain ⟨m', hm', _⟩ := z; omega))
theorem sq_yGo1 {post : SY → Prop} (hW : sq_W n ow kd vr vl)
    (h : ∀ (la : Nat → Nat) (L : Nat) (st ld fo pl A : Nat → Int32), L ≤ 720 → sq_SS la L (sq_PY n ow kd vr vl Bool.true (bt yf_fences)) → post ((nI n), yf_fences, (nI (sq_cn (sq_ls kd) n)), (nI (sq_cn (sq_ll kd) n)), yf_listed, (nI L), (sq_nA kd), (sq_nA ow), (sq_nA vr), (sq_nA vl), st, ld, fo, pl, A, ya_list, (sq_nA la))) : wpY_goOver post ((nI n), yf_fences, yf_storeCount, yf_loadCount, yf_listed, yf_strictListed, (sq_nA kd), (sq_nA ow), (sq_nA vr), (sq_nA vl), ya_stores, ya_loads, ya_found, ya_place, ya_after, ya_list, ya_strictList) 1 := by
  obtain ⟨hn, hw, hk3, hv3, hl4, hso⟩ := id hW
  have hlc := sq_cn_le (sq_ll kd) n
  have hsc := sq_cn_le (sq_ls kd) n
  have hsl := sq_slc kd n
  have h720 := sq_m720 (sq_cn (sq_ls kd) n) (by omega) (sq_cn (sq_ll kd) n) (by omega) (by omega)
  have hall := fun o => sq_Yk_all (n := n) (ow := ow) (kd := kd) (vr := vr) (vl := vl) (S := Bool.true) (F := bt yf_fences) o
  have hC0 : 0 < (sq_cn (sq_ls kd) n + 1) ^ sq_cn (sq_ll kd) n := Nat.pow_pos (by omega)
  obtain ⟨la0, rfl⟩ := sq_rep ya_strictList
  refine sq_ySort (yf_storeCount := yf_storeCount) (yf_loadCount := yf_loadCount) hn hk3 (fun st ld hSt hLd => ?_)
  refine (br_f (by decide) ((br_f (by decide) ?_)))
  refine sq_yOrder (m := 0) (by omega) (by omega) rfl (sq_Qc _ 0) (fun pl0 _ => ?_)
  refine sq_yFound (m := 0) (by omega) (by omega) (by omega) rfl (fun fo0 _ => ?_)
  refine Exists.intro (sq_fac (sq_cn (sq_ls kd) n) * (sq_cn (sq_ls kd) n + 1) ^ sq_cn (sq_ll kd) n + 1) ?_
  have key : ∀ N m L (la : Nat → Nat) (pl fo A : Nat → Int32), sq_fac (sq_cn (sq_ls kd) n) * (sq_cn (sq_ls kd) n + 1) ^ sq_cn (sq_ll kd) n - m < N → m ≤ sq_fac (sq_cn (sq_ls kd) n) * (sq_cn (sq_ls kd) n + 1) ^ sq_cn (sq_ll kd) n → L ≤ m → sq_SS la L (sq_Yk n ow kd vr vl Bool.true (bt yf_fences) m) → wY_goOver_51 post 1 (nI (sq_fac (sq_cn (sq_ls kd) n))) (nI ((sq_cn (sq_ls kd) n + 1) ^ sq_cn (sq_ll kd) n)) N (nI m) (nI n) yf_fences (nI (sq_cn (sq_ls kd) n)) (nI (sq_cn (sq_ll kd) n)) yf_listed (nI L) (sq_nA kd) (sq_nA ow) (sq_nA vr) (sq_nA vl) st ld fo pl A ya_list (sq_nA la) := by
    intro N
    induction N with
    | zero => intro m L la pl fo A g; omega
    | succ N ih =>
      intro m L la pl fo A g1 g2 g3 hS
      have hCle : (sq_cn (sq_ls kd) n + 1) ^ sq_cn (sq_ll kd) n ≤ 720 := by
        have f0 : 0 < sq_fac (sq_cn (sq_ls kd) n) := by
          have : ∀ k, 0 < sq_fac k := by
            intro k
            induction k with
            | zero => decide
            | succ k ih => exact Nat.mul_pos (by omega) ih
          exact this _
        exact Nat.le_trans (Nat.le_mul_of_pos_left _ f0) h720
      refine pk_le (sq_fac (sq_cn (sq_ls kd) n) * (sq_cn (sq_ls kd) n + 1) ^ sq_cn (sq_ll kd) n) m (fun g4 => ?_) (fun g4 => ?_) (pk_mul _ _)
      · have em : m = sq_fac (sq_cn (sq_ls kd) n) * (sq_cn (sq_ls kd) n + 1) ^ sq_cn (sq_ll kd) n := by omega
        refine h la L st ld fo pl A (by omega) (sq_SS_c hS (fun o => ?_))
        rw [em]
        exact hall o
      · have hne : ¬ nI ((sq_cn (sq_ls kd) n + 1) ^ sq_cn (sq_ll kd) n) = 0 := nI_ne0 hC0 (by omega)
        have hd1 := Nat.div_le_self m ((sq_cn (sq_ls kd) n + 1) ^ sq_cn (sq_ll kd) n)
        have hd2 := Nat.mod_le m ((sq_cn (sq_ls kd) n + 1) ^ sq_cn (sq_ll kd) n)
        refine ⟨hne, ?_⟩
        refine sq_yOrder (m := m / (sq_cn (sq_ls kd) n + 1) ^ sq_cn (sq_ll kd) n) (by omega) (by omega) (pk_div (by omega) hC0 (by omega)) (sq_Qc _ _) (fun pl' hpl' => ⟨hne, ?_⟩)
        refine sq_yFound (m := m % (sq_cn (sq_ls kd) n + 1) ^ sq_cn (sq_ll kd) n) (by omega) (by omega) (by omega) (pk_rem (by omega) hC0 (by omega)) (fun fo' hfo' => ?_)
        have hPl := sq_yPlm hn rfl hpl'
        have hFd := sq_yFdm hn rfl rfl hfo'
        refine sq_yAll (S := Bool.true) hW (by decide) hSt hLd hPl hFd (fun hok A' => ?_) (fun hok A' => ?_)
        · refine br_f (by decide) ?_
          refine sq_yNow hW hSt hPl hFd (fun f hf4 hdg => ?_)
          refine sq_ySn_ (P := sq_Yk n ow kd vr vl Bool.true (bt yf_fences) m) (by omega) (sq_sm_lt hf4 9) ?_ hS (fun f' c' hc' hS' => nm_r (nI_1 m) (ih (m + 1) c' f' pl' fo' A' (by omega) (by omega) (by omega) (sq_SS_c hS' (fun o => ?_))))
          · rintro o ⟨m', _, _, f'', hd'', e⟩
            rw [e]; exact sq_dg_4 hl4 hd''
          · constructor
            · rintro (⟨m', hm', a, b⟩ | e)
              · exact ⟨m', by omega, a, b⟩
              · exact ⟨m, by omega, hok, f, hdg, e⟩
            · rintro ⟨m', hm', a, f'', hd'', e⟩
              by_cases em : m' = m
              · subst em
                right
                rw [e]
                exact sq_dg_uniq sq_PmI hd'' hdg
              · left
                exact ⟨m', by omega, a, f'', hd'', e⟩
        · refine br_t rfl (nm_r (nI_1 m) (ih (m + 1) L la pl' fo' A' (by omega) (by omega) (by omega) (sq_SS_c hS (fun o => ?_))))
          constructor
          · rintro ⟨m', hm', a, b⟩
            exact ⟨m', by omega, a, b⟩
          · rintro ⟨m', hm', a, b⟩
            by_cases em : m' = m
            · subst em; exact absurd a hok
            · exact ⟨m', by omega, a, b⟩
  exact key _ 0 0 la0 pl0 fo0 ya_after (by omega) (by omega) (by omega) (sq_SS_0 _ (fun o z => by obtain ⟨m', hm', _⟩ := z; omega))
end
end
section
/-! the component: what the questions walk over -/
def sq_va1 (o x : Int32) : Int32 := (o >>> (x &&& 31)) &&& 3
def sq_vs (f : Nat → Nat) (x : Int32) : Nat → Int32
  | 0 => 0
  | i + 1 => sq_vs f x i ||| ((1 : Int32) <<< (sq_va1 (nI (f i)) x &&& 31))
theorem sq_vs_ext {f g : Nat → Nat} {x : Int32} : ∀ {c : Nat}, (∀ i, i < c → f i = g i) → sq_vs f x c = sq_vs g x c := by
  intro c
  induction c with
  | zero => intro _; rfl
  | succ c ih =>
    intro h
    show sq_vs f x c ||| _ = sq_vs g x c ||| _
    rw [ih (fun i hi => h i (by omega)), h c (by omega)]
/-- the first member of the list that Q doesn't have, or NONE -/
def sq_sup (f : Nat → Nat) (c : Nat) (Q : Nat → Prop) (r : Int32) : Prop := (r = -4 ∧ ∀ i, i < c → Q (f i)) ∨ ∃ i, i < c ∧ r = nI (f i) ∧ ¬ Q (f i) ∧ ∀ j, j < i → Q (f j)
theorem sq_sup_uniq {f g : Nat → Nat} {c : Nat} {Q Q' : Nat → Prop} {r r' : Int32} (hfg : ∀ i, i < c → f i = g i) (hQ : ∀ o, Q o ↔ Q' o) (h : sq_sup f c Q r) (h' : sq_sup g c Q' r') : r' = r := by
  rcases h with ⟨e, h⟩ | ⟨i, hi, e, h1, h2⟩
  · rcases h' with ⟨e', _⟩ | ⟨j, hj, _, h3, _⟩
    · rw [e, e']
    · exact absurd ((hQ _).mp (hfg j hj ▸ h j hj)) h3
  · rcases h' with ⟨_, h'⟩ | ⟨j, hj, e', h3, h4⟩
    · exact absurd ((hQ _).mpr (hfg i hi ▸ h' i hi)) h1
    · rcases Nat.lt_trichotomy i j with z | z | z
      · exact absurd ((hQ _).mpr (hfg i hi ▸ h4 i z)) h1
      · rw [e, e', ← z, hfg i hi]
      · exact absurd ((hQ _).mp (hfg j hj ▸ h2 j z)) h3
section
variable {n : Nat} {ow kd vr vl : Nat → Nat} {f_explored f_loadCount f_orderCount f_lateCount f_strictCount : Int32} {a_lateSet a_strictSet a_place a_earlier : Nat → Int32}
theorem sq_xSur {la ss : Nat → Nat} {L S : Nat} {Q : Nat → Prop} {post : Int32 → SX → Prop} (hL : L ≤ 720) (hS : S ≤ 720) (hla : ∀ i, i < L → la i < 262144) (hQ : ∀ o, Q o → o < 262144) (hSS : sq_SS ss S Q) (h : ∀ r, sq_sup la L Q r → post r ((nI n), f_explored, f_loadCount, f_orderCount, (nI L), (nI S), (sq_nA ow), (sq_nA kd), (sq_nA vr), (sq_nA vl), (sq_nA la), (sq_nA ss), a_place, a_earlier)) : ∃ N, wX_surprise_6 post (nI n) f_explored f_loadCount f_orderCount (nI L) (nI S) (sq_nA ow) (sq_nA kd) (sq_nA vr) (sq_nA vl) (sq_nA la) (sq_nA ss) a_place a_earlier N 0 := by
  have hss : ∀ i, i < S → ss i < 262144 := fun i hi => hQ _ ((hSS.2 _).mpr ⟨i, hi, rfl⟩)
  have key : ∀ N i, L - i < N → i ≤ L → (∀ j, j < i → Q (la j)) → wX_surprise_6 post (nI n) f_explored f_loadCount f_orderCount (nI L) (nI S) (sq_nA ow) (sq_nA kd) (sq_nA vr) (sq_nA vl) (sq_nA la) (sq_nA ss) a_place a_earlier N (nI i) := by
    intro N
    induction N with
    | zero => intro i g; omega
    | succ N ih =>
      intro i g1 g2 hi
      refine pk_le L i (fun g3 => h _ (Or.inl ⟨rfl, fun j hj => hi j (by omega)⟩)) (fun g3 => ⟨pk_in i 720 (by omega), ?_⟩)
      have hli := hla i g3
      have hmem : (∃ k, k < S ∧ nI (ss k) = sq_nA la (nI i).toNatClampNeg) ↔ Q (la i) := by
        rw [sq_at la (by omega)]
        constructor
        · rintro ⟨k, hk, e⟩
          have := hss k hk
          rw [nI_eq (by omega) (by omega)] at e
          exact (hSS.2 _).mpr ⟨k, hk, e⟩
        · intro z
          obtain ⟨k, hk, e⟩ := (hSS.2 _).mp z
          exact ⟨k, hk, by rw [e]⟩
      refine sq_xHas_strictSet hS hss hSS.1 (fun z => br_f (by decide) (nm_r (nI_1 i) (ih (i + 1) (by omega) (by omega) (fun j hj => ?_)))) (fun z => br_t rfl ⟨pk_in i 720 (by omega), ?_⟩)
      · by_cases e : j = i
        · rw [e]; exact hmem.mp z
        · exact hi j (by omega)
      · rw [sq_at la (by omega)]
        exact h _ (Or.inr ⟨i, g3, rfl, fun w => z (hmem.mpr w), hi⟩)
  exact ⟨L + 1, key (L + 1) 0 (by omega) (by omega) (fun j hj => by omega)⟩
theorem sq_xVals {la : Nat → Nat} {L : Nat} {x : Int32} {post : Int32 → Prop} (hL : L ≤ 720) (h : post (sq_vs la x L)) : wpX_valuesAt post ((nI n), f_explored, f_loadCount, f_orderCount, (nI L), f_strictCount, (sq_nA ow), (sq_nA kd), (sq_nA vr), (sq_nA vl), (sq_nA la), a_strictSet, a_place, a_earlier) x := by
  have key : ∀ N i, L - i < N → i ≤ L → wX_valuesAt_4 post x (nI n) f_explored f_loadCount f_orderCount (nI L) f_strictCount (sq_nA ow) (sq_nA kd) (sq_nA vr) (sq_nA vl) (sq_nA la) a_strictSet a_place a_earlier N (sq_vs la x i) (nI i) := by
    intro N
    induction N with
    | zero => intro i g; omega
    | succ N ih =>
      intro i g1 g2
      refine pk_le L i (fun g3 => ?_) (fun g3 => ⟨pk_in i 720 (by omega), nm_r (e' := sq_vs la x (i + 1)) ?_ (nm_r (nI_1 i) (ih (i + 1) (by omega) (by omega)))⟩)
      · have : i = L := by omega
        rw [← this] at h
        exact h
      · rw [sq_at la (by omega)]
        rfl
  exact Exists.intro (L + 1) (key (L + 1) 0 (by omega) (by omega))
theorem sq_xImp {la : Nat → Nat} {L : Nat} {v w x y : Int32} {post : Int32 → SX → Prop} (hL : L ≤ 720) (h1 : (∀ i, i < L → sq_va1 (nI (la i)) x = v → sq_va1 (nI (la i)) y = w) → post 1 ((nI n), f_explored, f_loadCount, f_orderCount, (nI L), f_strictCount, (sq_nA ow), (sq_nA kd), (sq_nA vr), (sq_nA vl), (sq_nA la), a_strictSet, a_place, a_earlier)) (h0 : (¬ ∀ i, i < L → sq_va1 (nI (la i)) x = v → sq_va1 (nI (la i)) y = w) → post 0 ((nI n), f_explored, f_loadCount, f_orderCount, (nI L), f_strictCount, (sq_nA ow), (sq_nA kd), (sq_nA vr), (sq_nA vl), (sq_nA la), a_strictSet, a_place, a_earlier)) : ∃ N, wX_implies_39 post v w x y (nI n) f_explored f_loadCount f_orderCount (nI L) f_strictCount (sq_nA ow) (sq_nA kd) (sq_nA vr) (sq_nA vl) (sq_nA la) a_strictSet a_place a_earlier N 0 := by
  have key : ∀ N i, L - i < N → i ≤ L → (∀ j, j < i → sq_va1 (nI (la j)) x = v → sq_va1 (nI (la j)) y = w) → wX_implies_39 post v w x y (nI n) f_explored f_loadCount f_orderCount (nI L) f_strictCount (sq_nA ow) (sq_nA kd) (sq_nA vr) (sq_nA vl) (sq_nA la) a_strictSet a_place a_earlier N (nI i) := by
    intro N
    induction N with
    | zero => intro i g; omega
    | succ N ih =>
      intro i g1 g2 hi
      have nxt : (sq_va1 (nI (la i)) x = v → sq_va1 (nI (la i)) y = w) → i < L → wX_implies_39 post v w x y (nI n) f_explored f_loadCount f_orderCount (nI L) f_strictCount (sq_nA ow) (sq_nA kd) (sq_nA vr) (sq_nA vl) (sq_nA la) a_strictSet a_place a_earlier N (nI (i + 1)) := by
        intro hg hiL
        refine ih (i + 1) (by omega) (by omega) (fun j hj => ?_)
        by_cases e : j = i
        · rw [e]; exact hg
        · exact hi j (by omega)
      have ea : i < L → sq_nA la (nI i).toNatClampNeg = nI (la i) := fun g => sq_at la (by omega)
      refine pk_le L i (fun g3 => h1 (fun j hj => hi j (by omega))) (fun g3 => ⟨pk_in i 720 (by omega), ?_⟩)
      rw [ea g3]
      refine br_c (fun c1 => ⟨pk_in i 720 (by omega), ?_⟩) (fun c1 => nm_r (nI_1 i) (nxt (fun z => absurd z c1) g3))
      exact br_c (fun c2 => nm_r (nI_1 i) (nxt (fun _ => c2) g3)) (fun c2 => h0 (fun z => c2 (z i g3 c1)))
  exact ⟨L + 1, key (L + 1) 0 (by omega) (by omega) (fun j hj => by omega)⟩
theorem sq_xBits {x : Int32} {post : Int32 → Prop} (h : post (nI (sq_cn (bt x) 6))) : wpX_bitCount post ((nI n), f_explored, f_loadCount, f_orderCount, f_lateCount, f_strictCount, (sq_nA ow), (sq_nA kd), (sq_nA vr), (sq_nA vl), a_lateSet, a_strictSet, a_place, a_earlier) x := by
  have key : ∀ N i, 6 - i < N → i ≤ 6 → wX_bitCount_4 post x (nI n) f_explored f_loadCount f_orderCount f_lateCount f_strictCount (sq_nA ow) (sq_nA kd) (sq_nA vr) (sq_nA vl) a_lateSet a_strictSet a_place a_earlier N (nI (sq_cn (bt x) i)) (nI i) := by
    intro N
    induction N with
    | zero => intro i g; omega
    | succ N ih =>
      intro i g1 g2
      refine pk_le 6 i (fun g3 => ?_) (fun g3 => nm_r (e' := nI (sq_cn (bt x) (i + 1))) ?_ (nm_r (nI_1 i) (ih (i + 1) (by omega) (by omega))))
      · have : i = 6 := by omega
        rw [this]; exact h
      · rw [sq_bit x (by omega), sq_cn_s]
        split
        · exact nI_add _ 1
        · exact nI_add _ 0
  exact Exists.intro 7 (key 7 0 (by omega) (by omega))
theorem sq_xOnly {F : Int32} {ss : Nat → Nat} {S : Nat} {Q : Nat → Prop} {post : Int32 → SX → Prop} (hW : sq_W n ow kd vr vl) (hP : ∀ i, i < n → a_place i = nI (2 * sq_sl kd vr i)) (hS : S ≤ 720) (hQ : ∀ o, Q o → o < 262144) (hSS : sq_SS ss S Q)
    (h1 : (∀ o, sq_PX n ow kd vr vl (bt F) o → Q o) → ∀ A : Nat → Int32, post 1 ((nI n), f_explored, f_loadCount, (nI (sq_fac n)), f_lateCount, (nI S), (sq_nA ow), (sq_nA kd), (sq_nA vr), (sq_nA vl), a_lateSet, (sq_nA ss), a_place, A)) (h0 : (¬ ∀ o, sq_PX n ow kd vr vl (bt F) o → Q o) → ∀ A : Nat → Int32, post 0 ((nI n), f_explored, f_loadCount, (nI (sq_fac n)), f_lateCount, (nI S), (sq_nA ow), (sq_nA kd), (sq_nA vr), (sq_nA vl), a_lateSet, (sq_nA ss), a_place, A)) : wpX_leavesOnlyStrict post ((nI n), f_explored, f_loadCount, (nI (sq_fac n)), f_lateCount, (nI S), (sq_nA ow), (sq_nA kd), (sq_nA vr), (sq_nA vl), a_lateSet, (sq_nA ss), a_place, a_earlier) F := by
  obtain ⟨hn, hw, hk3, hv3, hl4, _⟩ := id hW
  have h720 := sq_fac6 n hn
  have hss : ∀ i, i < S → ss i < 262144 := fun i hi => hQ _ ((hSS.2 _).mpr ⟨i, hi, rfl⟩)
  refine sq_xEar hn hw hk3 (fun A hA => ?_)
  have key : ∀ N k, sq_fac n - k < N → k ≤ sq_fac n → (∀ o, sq_Pk n ow kd vr vl (bt F) k o → Q o) → wX_leavesOnlyStrict_7 post (nI n) f_explored f_loadCount (nI (sq_fac n)) f_lateCount (nI S) (sq_nA ow) (sq_nA kd) (sq_nA vr) (sq_nA vl) a_lateSet (sq_nA ss) a_place A N (nI k) := by
    intro N
    induction N with
    | zero => intro k g; omega
    | succ N ih =>
      intro k g1 g2 hk
      refine pk_le (sq_fac n) k (fun g3 => ?_) (fun g3 => ?_)
      · have ek : k = sq_fac n := by omega
        subst ek
        exact h1 (fun o ho => hk o ((sq_Pk_all o).mpr ho)) A
      · refine sq_xOut (F := F) hW (by omega) (sq_Qc n k) hA hP (fun hv => ?_) (fun hv => ?_)
        · have hlt : sq_sm (sq_fx ow kd vr vl (sq_Q n k) n) 9 < 262144 := sq_sm_lt (sq_fx4 hl4 (sq_Q n k) n) 9
          have hne : ¬ nI (sq_sm (sq_fx ow kd vr vl (sq_Q n k) n) 9) = -4 := by
            intro z
            have := nI_pos (n := sq_sm (sq_fx ow kd vr vl (sq_Q n k) n) 9) (by omega)
            rw [z] at this
            exact this (by decide)
          refine br_f hne ?_
          have hmem : (∃ i, i < S ∧ nI (ss i) = nI (sq_sm (sq_fx ow kd vr vl (sq_Q n k) n) 9)) ↔ Q (sq_sm (sq_fx ow kd vr vl (sq_Q n k) n) 9) := by
            constructor
            · rintro ⟨i, hi, e⟩
              have := hss i hi
              rw [nI_eq (by omega) (by omega)] at e
              exact (hSS.2 _).mpr ⟨i, hi, e⟩
            · intro z
              obtain ⟨i, hi, e⟩ := (hSS.2 _).mp z
              exact ⟨i, hi, by rw [e]⟩
          refine sq_xHas_strictSet hS hss hSS.1 (fun z => br_f (by decide) (nm_r (nI_1 k) (ih (k + 1) (by omega) (by omega) (fun o ho => ?_)))) (fun z => br_t rfl (h0 (fun w => z (hmem.mpr (w _ ⟨sq_Q n k, sq_cd_pm (sq_Qc n k), hv, rfl⟩))) A))
          obtain ⟨m, hm, a, b⟩ := ho
          by_cases e : m = k
          · rw [b, e]; exact hmem.mp z
          · exact hk o ⟨m, by omega, a, b⟩
        · refine br_t rfl (nm_r (nI_1 k) (ih (k + 1) (by omega) (by omega) (fun o ho => ?_)))
          obtain ⟨m, hm, a, b⟩ := ho
          by_cases e : m = k
          · rw [e] at a; exact absurd a hv
          · exact hk o ⟨m, by omega, a, b⟩
  exact Exists.intro (sq_fac n + 1) (key (sq_fac n + 1) 0 (by omega) (by omega) (fun o z => by obtain ⟨m, hm, _⟩ := z; omega))
end
/-- l is the least number of fences among the sets below m that are good -/
def sq_lst (G : Nat → Prop) (m l : Nat) : Prop := l ≤ 6 ∧ (l = 6 ∨ ∃ r, r < m ∧ G r ∧ sq_cn (bt (nI r)) 6 = l) ∧ ∀ r, r < m → G r → l ≤ sq_cn (bt (nI r)) 6
theorem sq_lst_0 (G : Nat → Prop) : sq_lst G 0 6 := ⟨Nat.le_refl _, Or.inl rfl, fun r hr => by omega⟩
theorem sq_lst_k {G : Nat → Prop} {m l : Nat} (h : sq_lst G m l) (hm : G m → l ≤ sq_cn (bt (nI m)) 6) : sq_lst G (m + 1) l := by
  obtain ⟨a, b, c⟩ := h
  refine ⟨a, b.imp id (fun ⟨r, x, y⟩ => ⟨r, by omega, y⟩), fun r hr hg => ?_⟩
  by_cases e : r = m
  · rw [e]; rw [e] at hg; exact hm hg
  · exact c r (by omega) hg
theorem sq_lst_n {G : Nat → Prop} {m l : Nat} (h : sq_lst G m l) (hm : G m) (hl : sq_cn (bt (nI m)) 6 < l) : sq_lst G (m + 1) (sq_cn (bt (nI m)) 6) := by
  obtain ⟨a, b, c⟩ := h
  refine ⟨by omega, Or.inr ⟨m, by omega, hm, rfl⟩, fun r hr hg => ?_⟩
  by_cases e : r = m
  · rw [e]; exact Nat.le_refl _
  · have := c r (by omega) hg; omega
section
variable {n : Nat} {ow kd vr vl : Nat → Nat} {f_explored f_loadCount f_orderCount f_lateCount f_strictCount : Int32} {a_lateSet a_strictSet a_place a_earlier : Nat → Int32}
theorem sq_xFen {ss : Nat → Nat} {S : Nat} {Q : Nat → Prop} {post : Int32 → SX → Prop} (hW : sq_W n ow kd vr vl) (hP : ∀ i, i < n → a_place i = nI (2 * sq_sl kd vr i)) (hS : S ≤ 720) (hQ : ∀ o, Q o → o < 262144) (hSS : sq_SS ss S Q)
    (h : ∀ l, sq_lst (fun m => ∀ o, sq_PX n ow kd vr vl (bt (nI m)) o → Q o) 32 l → ∀ A : Nat → Int32, post (nI l) ((nI n), f_explored, f_loadCount, (nI (sq_fac n)), f_lateCount, (nI S), (sq_nA ow), (sq_nA kd), (sq_nA vr), (sq_nA vl), a_lateSet, (sq_nA ss), a_place, A)) : ∃ N, wX_fencesNeeded_9 post N 6 0 (nI n) f_explored f_loadCount (nI (sq_fac n)) f_lateCount (nI S) (sq_nA ow) (sq_nA kd) (sq_nA vr) (sq_nA vl) a_lateSet (sq_nA ss) a_place a_earlier := by
  have key : ∀ N m l (A : Nat → Int32), 32 - m < N → m ≤ 32 → sq_lst (fun m => ∀ o, sq_PX n ow kd vr vl (bt (nI m)) o → Q o) m l → wX_fencesNeeded_9 post N (nI l) (nI m) (nI n) f_explored f_loadCount (nI (sq_fac n)) f_lateCount (nI S) (sq_nA ow) (sq_nA kd) (sq_nA vr) (sq_nA vl) a_lateSet (sq_nA ss) a_place A := by
    intro N
    induction N with
    | zero => intro m l A g; omega
    | succ N ih =>
      intro m l A g1 g2 hl
      have hl6 := hl.1
      have hb6 := sq_cn_le (bt (nI m)) 6
      refine pk_lt 31 m (fun g3 => ?_) (fun g3 => ?_)
      · have em : m = 32 := by omega
        rw [em] at hl
        exact h l hl A
      · refine sq_xBits (pk_le l (sq_cn (bt (nI m)) 6) (fun g4 => nm_r (nI_1 m) (ih (m + 1) l A (by omega) (by omega) (sq_lst_k hl (fun _ => g4)))) (fun g4 => ?_))
        exact sq_xOnly hW hP hS hQ hSS (fun hg A' => br_f (by decide) (nm_r (nI_1 m) (ih (m + 1) _ A' (by omega) (by omega) (sq_lst_n hl hg g4)))) (fun hg A' => br_t rfl (nm_r (nI_1 m) (ih (m + 1) l A' (by omega) (by omega) (sq_lst_k hl (fun z => absurd z hg)))))
  exact ⟨33, key 33 0 6 a_earlier (by omega) (by omega) (sq_lst_0 _)⟩
end
end
section
/-! the reference: what the questions walk over -/
/-- every fence of the set stands between two instructions of one thread -/
def sq_btw (n : Nat) (ow : Nat → Nat) (m i : Nat) : Prop := ∀ b, b < i → bt (nI m) b = true → b + 1 < n ∧ ow b = ow (b + 1)
section
variable {n : Nat} {ow kd vr vl : Nat → Nat} {yf_fences yf_storeCount yf_loadCount yf_listed yf_strictListed : Int32} {ya_stores ya_loads ya_found ya_place ya_after ya_list ya_strictList : Nat → Int32}
theorem sq_yHas {la : Nat → Nat} {L : Nat} {x : Int32} {post : Int32 → SY → Prop} (hL : L ≤ 720) (h1 : (∃ i, i < L ∧ nI (la i) = x) → post 1 ((nI n), yf_fences, yf_storeCount, yf_loadCount, (nI L), yf_strictListed, (sq_nA kd), (sq_nA ow), (sq_nA vr), (sq_nA vl), ya_stores, ya_loads, ya_found, ya_place, ya_after, (sq_nA la), ya_strictList)) (h0 : (¬ ∃ i, i < L ∧ nI (la i) = x) → post 0 ((nI n), yf_fences, yf_storeCount, yf_loadCount, (nI L), yf_strictListed, (sq_nA kd), (sq_nA ow), (sq_nA vr), (sq_nA vl), ya_stores, ya_loads, ya_found, ya_place, ya_after, (sq_nA la), ya_strictList)) : ∃ N, wY_possible_7 post x (nI n) yf_fences yf_storeCount yf_loadCount (nI L) yf_strictListed (sq_nA kd) (sq_nA ow) (sq_nA vr) (sq_nA vl) ya_stores ya_loads ya_found ya_place ya_after (sq_nA la) ya_strictList N 0 := by
  have key : ∀ N i, L - i < N → i ≤ L → (∀ j, j < i → ¬ nI (la j) = x) → wY_possible_7 post x (nI n) yf_fences yf_storeCount yf_loadCount (nI L) yf_strictListed (sq_nA kd) (sq_nA ow) (sq_nA vr) (sq_nA vl) ya_stores ya_loads ya_found ya_place ya_after (sq_nA la) ya_strictList N (nI i) := by
    intro N
    induction N with
    | zero => intro i g; omega
    | succ N ih =>
      intro i g1 g2 hi
      refine pk_le L i (fun g3 => h0 (fun ⟨j, a, b⟩ => hi j (by omega) b)) (fun g3 => ⟨pk_in i 720 (by omega), ?_⟩)
      rw [sq_at la (by omega)]
      refine br_c (fun c => h1 ⟨i, g3, c⟩) (fun c => nm_r (nI_1 i) (ih (i + 1) (by omega) (by omega) (fun j hj => ?_)))
      by_cases e : j = i
      · rw [e]; exact c
      · exact hi j (by omega)
  exact ⟨L + 1, key (L + 1) 0 (by omega) (by omega) (fun j hj => by omega)⟩
theorem sq_yIsS {ss : Nat → Nat} {S : Nat} {x : Int32} {post : Int32 → Prop} (hS : S ≤ 720) (h1 : (∃ i, i < S ∧ nI (ss i) = x) → post 1) (h0 : (¬ ∃ i, i < S ∧ nI (ss i) = x) → post 0) : wpY_isStrict post ((nI n), yf_fences, yf_storeCount, yf_loadCount, yf_listed, (nI S), (sq_nA kd), (sq_nA ow), (sq_nA vr), (sq_nA vl), ya_stores, ya_loads, ya_found, ya_place, ya_after, ya_list, (sq_nA ss)) x := by
  have key : ∀ N i, S - i < N → i ≤ S → (∀ j, j < i → ¬ nI (ss j) = x) → wY_isStrict_2 post x (nI n) yf_fences yf_storeCount yf_loadCount yf_listed (nI S) (sq_nA kd) (sq_nA ow) (sq_nA vr) (sq_nA vl) ya_stores ya_loads ya_found ya_place ya_after ya_list (sq_nA ss) N (nI i) := by
    intro N
    induction N with
    | zero => intro i g; omega
    | succ N ih =>
      intro i g1 g2 hi
      refine pk_le S i (fun g3 => h0 (fun ⟨j, a, b⟩ => hi j (by omega) b)) (fun g3 => ⟨pk_in i 720 (by omega), ?_⟩)
      rw [sq_at ss (by omega)]
      refine br_c (fun c => h1 ⟨i, g3, c⟩) (fun c => nm_r (nI_1 i) (ih (i + 1) (by omega) (by omega) (fun j hj => ?_)))
      by_cases e : j = i
      · rw [e]; exact c
      · exact hi j (by omega)
  exact Exists.intro (S + 1) (key (S + 1) 0 (by omega) (by omega) (fun j hj => by omega))
theorem sq_yFst {ss : Nat → Nat} {S : Nat} {Q : Nat → Prop} {post : Int32 → SY → Prop} (hW : sq_W n ow kd vr vl) (hS : S ≤ 720) (hQ : ∀ o, Q o → o < 262144) (hSS : sq_SS ss S Q) (hPY : ∀ o, sq_PY n ow kd vr vl false (bt yf_fences) o → o < 262144)
    (h : ∀ (la : Nat → Nat) (L : Nat) (st ld fo pl A : Nat → Int32) (r : Int32), L ≤ 720 → sq_SS la L (sq_PY n ow kd vr vl false (bt yf_fences)) → sq_sup la L Q r → post r ((nI n), yf_fences, (nI (sq_cn (sq_ls kd) n)), (nI (sq_cn (sq_ll kd) n)), (nI L), (nI S), (sq_nA kd), (sq_nA ow), (sq_nA vr), (sq_nA vl), st, ld, fo, pl, A, (sq_nA la), (sq_nA ss))) : wpY_firstSurprise post ((nI n), yf_fences, yf_storeCount, yf_loadCount, yf_listed, (nI S), (sq_nA kd), (sq_nA ow), (sq_nA vr), (sq_nA vl), ya_stores, ya_loads, ya_found, ya_place, ya_after, ya_list, (sq_nA ss)) := by
  have hss : ∀ i, i < S → ss i < 262144 := fun i hi => hQ _ ((hSS.2 _).mpr ⟨i, hi, rfl⟩)
  refine sq_yGo0 (yf_storeCount := yf_storeCount) (yf_loadCount := yf_loadCount) hW (fun la L st ld fo pl A hL hLS => Exists.intro (L + 1) ?_)
  have hla : ∀ i, i < L → la i < 262144 := fun i hi => hPY _ ((hLS.2 _).mpr ⟨i, hi, rfl⟩)
  have key : ∀ N i, L - i < N → i ≤ L → (∀ j, j < i → Q (la j)) → wY_firstSurprise_7 post (nI n) yf_fences (nI (sq_cn (sq_ls kd) n)) (nI (sq_cn (sq_ll kd) n)) (nI L) (nI S) (sq_nA kd) (sq_nA ow) (sq_nA vr) (sq_nA vl) st ld fo pl A (sq_nA la) (sq_nA ss) N (nI i) := by
    intro N
    induction N with
    | zero => intro i g; omega
    | succ N ih =>
      intro i g1 g2 hi
      refine pk_le L i (fun g3 => h la L st ld fo pl A _ hL hLS (Or.inl ⟨rfl, fun j hj => hi j (by omega)⟩)) (fun g3 => ⟨pk_in i 720 (by omega), ?_⟩)
      have hli := hla i g3
      have hmem : (∃ k, k < S ∧ nI (ss k) = sq_nA la (nI i).toNatClampNeg) ↔ Q (la i) := by
        rw [sq_at la (by omega)]
        constructor
        · rintro ⟨k, hk, e⟩
          have := hss k hk
          rw [nI_eq (by omega) (by omega)] at e
          exact (hSS.2 _).mpr ⟨k, hk, e⟩
        · intro z
          obtain ⟨k, hk, e⟩ := (hSS.2 _).mp z
          exact ⟨k, hk, by rw [e]⟩
      refine sq_yIsS hS (fun z => br_f (by decide) (nm_r (nI_1 i) (ih (i + 1) (by omega) (by omega) (fun j hj => ?_)))) (fun z => br_t rfl ⟨pk_in i 720 (by omega), ?_⟩)
      · by_cases e : j = i
        · rw [e]; exact hmem.mp z
        · exact hi j (by omega)
      · rw [sq_at la (by omega)]
        exact h la L st ld fo pl A _ hL hLS (Or.inr ⟨i, g3, rfl, fun w => z (hmem.mpr w), hi⟩)
  exact key (L + 1) 0 (by omega) (by omega) (fun j hj => by omega)
theorem sq_yFds {la : Nat → Nat} {L : Nat} {x : Int32} {post : Int32 → SY → Prop} (hL : L ≤ 720) (h : post (sq_vs la (2 * x) L) ((nI n), yf_fences, yf_storeCount, yf_loadCount, (nI L), yf_strictListed, (sq_nA kd), (sq_nA ow), (sq_nA vr), (sq_nA vl), ya_stores, ya_loads, ya_found, ya_place, ya_after, (sq_nA la), ya_strictList)) : ∃ N, wY_finds_24 post x (nI n) yf_fences yf_storeCount yf_loadCount (nI L) yf_strictListed (sq_nA kd) (sq_nA ow) (sq_nA vr) (sq_nA vl) ya_stores ya_loads ya_found ya_place ya_after (sq_nA la) ya_strictList N 0 0 := by
  have key : ∀ N i, L - i < N → i ≤ L → wY_finds_24 post x (nI n) yf_fences yf_storeCount yf_loadCount (nI L) yf_strictListed (sq_nA kd) (sq_nA ow) (sq_nA vr) (sq_nA vl) ya_stores ya_loads ya_found ya_place ya_after (sq_nA la) ya_strictList N (sq_vs la (2 * x) i) (nI i) := by
    intro N
    induction N with
    | zero => intro i g; omega
    | succ N ih =>
      intro i g1 g2
      refine pk_le L i (fun g3 => ?_) (fun g3 => ⟨pk_in i 720 (by omega), nm_r (e' := sq_vs la (2 * x) (i + 1)) ?_ (nm_r (nI_1 i) (ih (i + 1) (by omega) (by omega)))⟩)
      · have : i = L := by omega
        rw [← this] at h
        rw [← this]
        exact h
      · rw [sq_at la (by omega)]
        rfl
  exact ⟨L + 1, key (L + 1) 0 (by omega) (by omega)⟩
theorem sq_yEnds {la : Nat → Nat} {L : Nat} {x : Int32} {post : Int32 → SY → Prop} (hL : L ≤ 720) (h : post (sq_vs la (2 * (6 + x)) L) ((nI n), yf_fences, yf_storeCount, yf_loadCount, (nI L), yf_strictListed, (sq_nA kd), (sq_nA ow), (sq_nA vr), (sq_nA vl), ya_stores, ya_loads, ya_found, ya_place, ya_after, (sq_nA la), ya_strictList)) : ∃ N, wY_ends_20 post x (nI n) yf_fences yf_storeCount yf_loadCount (nI L) yf_strictListed (sq_nA kd) (sq_nA ow) (sq_nA vr) (sq_nA vl) ya_stores ya_loads ya_found ya_place ya_after (sq_nA la) ya_strictList N 0 0 := by
  have key : ∀ N i, L - i < N → i ≤ L → wY_ends_20 post x (nI n) yf_fences yf_storeCount yf_loadCount (nI L) yf_strictListed (sq_nA kd) (sq_nA ow) (sq_nA vr) (sq_nA vl) ya_stores ya_loads ya_found ya_place ya_after (sq_nA la) ya_strictList N (sq_vs la (2 * (6 + x)) i) (nI i) := by
    intro N
    induction N with
    | zero => intro i g; omega
    | succ N ih =>
      intro i g1 g2
      refine pk_le L i (fun g3 => ?_) (fun g3 => ⟨pk_in i 720 (by omega), nm_r (e' := sq_vs la (2 * (6 + x)) (i + 1)) ?_ (nm_r (nI_1 i) (ih (i + 1) (by omega) (by omega)))⟩)
      · have : i = L := by omega
        rw [← this] at h
        rw [← this]
        exact h
      · rw [sq_at la (by omega)]
        rfl
  exact ⟨L + 1, key (L + 1) 0 (by omega) (by omega)⟩
theorem sq_yImp {la : Nat → Nat} {L : Nat} {v w x y : Int32} {post : Int32 → SY → Prop} (hL : L ≤ 720) (h1 : (∀ i, i < L → sq_va1 (nI (la i)) (2 * x) = v → sq_va1 (nI (la i)) (2 * y) = w) → post 1 ((nI n), yf_fences, yf_storeCount, yf_loadCount, (nI L), yf_strictListed, (sq_nA kd), (sq_nA ow), (sq_nA vr), (sq_nA vl), ya_stores, ya_loads, ya_found, ya_place, ya_after, (sq_nA la), ya_strictList)) (h0 : (¬ ∀ i, i < L → sq_va1 (nI (la i)) (2 * x) = v → sq_va1 (nI (la i)) (2 * y) = w) → post 0 ((nI n), yf_fences, yf_storeCount, yf_loadCount, (nI L), yf_strictListed, (sq_nA kd), (sq_nA ow), (sq_nA vr), (sq_nA vl), ya_stores, ya_loads, ya_found, ya_place, ya_after, (sq_nA la), ya_strictList)) : ∃ N, wY_implies_34 post x v y w (nI n) yf_fences yf_storeCount yf_loadCount (nI L) yf_strictListed (sq_nA kd) (sq_nA ow) (sq_nA vr) (sq_nA vl) ya_stores ya_loads ya_found ya_place ya_after (sq_nA la) ya_strictList N 0 := by
  have key : ∀ N i, L - i < N → i ≤ L → (∀ j, j < i → sq_va1 (nI (la j)) (2 * x) = v → sq_va1 (nI (la j)) (2 * y) = w) → wY_implies_34 post x v y w (nI n) yf_fences yf_storeCount yf_loadCount (nI L) yf_strictListed (sq_nA kd) (sq_nA ow) (sq_nA vr) (sq_nA vl) ya_stores ya_loads ya_found ya_place ya_after (sq_nA la) ya_strictList N (nI i) := by
    intro N
    induction N with
    | zero => intro i g; omega
    | succ N ih =>
      intro i g1 g2 hi
      have nxt : (sq_va1 (nI (la i)) (2 * x) = v → sq_va1 (nI (la i)) (2 * y) = w) → i < L → wY_implies_34 post x v y w (nI n) yf_fences yf_storeCount yf_loadCount (nI L) yf_strictListed (sq_nA kd) (sq_nA ow) (sq_nA vr) (sq_nA vl) ya_stores ya_loads ya_found ya_place ya_after (sq_nA la) ya_strictList N (nI (i + 1)) := by
        intro hg hiL
        refine ih (i + 1) (by omega) (by omega) (fun j hj => ?_)
        by_cases e : j = i
        · rw [e]; exact hg
        · exact hi j (by omega)
      have ea : i < L → sq_nA la (nI i).toNatClampNeg = nI (la i) := fun g => sq_at la (by omega)
      refine pk_le L i (fun g3 => h1 (fun j hj => hi j (by omega))) (fun g3 => ⟨pk_in i 720 (by omega), ?_⟩)
      rw [ea g3]
      refine br_c (fun c1 => ⟨pk_in i 720 (by omega), ?_⟩) (fun c1 => nm_r (nI_1 i) (nxt (fun z => absurd z c1) g3))
      exact br_c (fun c2 => nm_r (nI_1 i) (nxt (fun _ => c2) g3)) (fun c2 => h0 (fun z => c2 (z i g3 c1)))
  exact ⟨L + 1, key (L + 1) 0 (by omega) (by omega) (fun j hj => by omega)⟩
theorem sq_yBits {x : Int32} {post : Int32 → Prop} (h : post (nI (sq_cn (bt x) 6))) : wpY_bits post ((nI n), yf_fences, yf_storeCount, yf_loadCount, yf_listed, yf_strictListed, (sq_nA kd), (sq_nA ow), (sq_nA vr), (sq_nA vl), ya_stores, ya_loads, ya_found, ya_place, ya_after, ya_list, ya_strictList) x := by
  have key : ∀ N i, 6 - i < N → i ≤ 6 → wY_bits_4 post x (nI n) yf_fences yf_storeCount yf_loadCount yf_listed yf_strictListed (sq_nA kd) (sq_nA ow) (sq_nA vr) (sq_nA vl) ya_stores ya_loads ya_found ya_place ya_after ya_list ya_strictList N (nI (sq_cn (bt x) i)) (nI i) := by
    intro N
    induction N with
    | zero => intro i g; omega
    | succ N ih =>
      intro i g1 g2
      refine pk_le 6 i (fun g3 => ?_) (fun g3 => nm_r (e' := nI (sq_cn (bt x) (i + 1))) ?_ (nm_r (nI_1 i) (ih (i + 1) (by omega) (by omega))))
      · have : i = 6 := by omega
        rw [this]; exact h
      · rw [sq_bit x (by omega), sq_cn_s]
        split
        · exact nI_add _ 1
        · exact nI_add _ 0
  exact Exists.intro 7 (key 7 0 (by omega) (by omega))
theorem sq_yNeed {ss : Nat → Nat} {S : Nat} {Q : Nat → Prop} {post : Int32 → SY → Prop} (hW : sq_W n ow kd vr vl) (hS : S ≤ 720) (hQ : ∀ o, Q o → o < 262144) (hSS : sq_SS ss S Q) (hPY : ∀ F o, sq_PY n ow kd vr vl false F o → o < 262144)
    (h : ∀ (l : Nat) (sc lc li : Int32) (st ld fo pl A la : Nat → Int32), sq_lst (fun m => sq_btw n ow m 5 ∧ ∀ o, sq_PY n ow kd vr vl false (bt (nI m)) o → Q o) 32 l → post (nI l) ((nI n), 0, sc, lc, li, (nI S), (sq_nA kd), (sq_nA ow), (sq_nA vr), (sq_nA vl), st, ld, fo, pl, A, la, (sq_nA ss))) : ∃ N, wY_fencesNeeded_10 post N 6 0 (nI n) 0 yf_storeCount yf_loadCount yf_listed (nI S) (sq_nA kd) (sq_nA ow) (sq_nA vr) (sq_nA vl) ya_stores ya_loads ya_found ya_place ya_after ya_list (sq_nA ss) := by
  obtain ⟨hn, hw, _, _, _, _⟩ := id hW
  have key : ∀ N m l (sc lc li : Int32) (st ld fo pl A la : Nat → Int32), 32 - m < N → m ≤ 32 → sq_lst (fun m => sq_btw n ow m 5 ∧ ∀ o, sq_PY n ow kd vr vl false (bt (nI m)) o → Q o) m l → wY_fencesNeeded_10 post N (nI l) (nI m) (nI n) 0 sc lc li (nI S) (sq_nA kd) (sq_nA ow) (sq_nA vr) (sq_nA vl) st ld fo pl A la (sq_nA ss) := by
    intro N
    induction N with
    | zero => intro m l sc lc li st ld fo pl A la g; omega
    | succ N ih =>
      intro m l sc lc li st ld fo pl A la g1 g2 hl
      have hl6 := hl.1
      have hb6 := sq_cn_le (bt (nI m)) 6
      refine pk_le 32 m (fun g3 => ?_) (fun g3 => Exists.intro 6 ?_)
      · have em : m = 32 := by omega
        rw [em] at hl
        exact h l sc lc li st ld fo pl A la hl
      · have inn : ∀ K i (z : Int32), 5 - i < K → i ≤ 5 → ((z = 1 ∧ sq_btw n ow m i) ∨ (z = 0 ∧ ¬ sq_btw n ow m i)) → wY_fencesNeeded_21 post (wY_fencesNeeded_10 post N) (nI l) (nI m) (nI n) 0 sc lc li (nI S) (sq_nA kd) (sq_nA ow) (sq_nA vr) (sq_nA vl) st ld fo pl A la (sq_nA ss) K z (nI i) := by
          intro K
          induction K with
          | zero => intro i z g; omega
          | succ K ihK =>
            intro i z k1 k2 hz
            refine pk_le 5 i (fun k3 => ?_) (fun k3 => ?_)
            · have ei : i = 5 := by omega
              subst ei
              rcases hz with ⟨e, hz⟩ | ⟨e, hz⟩
              · subst e
                refine br_f (by decide) (sq_yBits (pk_le l (sq_cn (bt (nI m)) 6) (fun g4 => nm_r (nI_1 m) (ih (m + 1) l _ _ _ _ _ _ _ _ _ (by omega) (by omega) (sq_lst_k hl (fun _ => g4)))) (fun g4 => ?_)))
                refine sq_yFst (yf_storeCount := sc) (yf_loadCount := lc) (yf_listed := li) hW hS hQ hSS (hPY _) (fun la' L' st' ld' fo' pl' A' r hL' hLS' hr => ?_)
                have hG : (∀ i, i < L' → Q (la' i)) ↔ ∀ o, sq_PY n ow kd vr vl false (bt (nI m)) o → Q o := by
                  constructor
                  · intro z o ho
                    obtain ⟨i, hi, e⟩ := (hLS'.2 o).mp ho
                    rw [← e]; exact z i hi
                  · intro z i hi
                    exact z _ ((hLS'.2 _).mpr ⟨i, hi, rfl⟩)
                rcases hr with ⟨e, hr⟩ | ⟨i, hi, e, hr, _⟩
                · subst e
                  exact br_t rfl (sq_yBits (nm_r (nI_1 m) (ih (m + 1) _ _ _ _ _ _ _ _ _ _ (by omega) (by omega) (sq_lst_n hl ⟨hz, hG.mp hr⟩ g4))))
                · have h4 : ¬ r = -4 := by
                    have h5 := hPY _ _ ((hLS'.2 _).mpr ⟨i, hi, rfl⟩)
                    have := nI_pos (n := la' i) (by omega)
                    rw [← e] at this
                    exact fun w => this (by rw [w]; decide)
                  exact br_f h4 (nm_r (nI_1 m) (ih (m + 1) l _ _ _ _ _ _ _ _ _ (by omega) (by omega) (sq_lst_k hl (fun w => absurd (hG.mpr w.2 i hi) hr))))
              · subst e
                exact br_t rfl (nm_r (nI_1 m) (ih (m + 1) l _ _ _ _ _ _ _ _ _ (by omega) (by omega) (sq_lst_k hl (fun w => absurd w.1 hz))))
            · have s62 : ∀ y : Int32, ((y = 1 ∧ (i + 1 < n ∧ ow i = ow (i + 1))) ∨ (y = 0 ∧ ¬ (i + 1 < n ∧ ow i = ow (i + 1)))) → wY_fencesNeeded_62 post (wY_fencesNeeded_10 post N) (wY_fencesNeeded_21 post (wY_fencesNeeded_10 post N) (nI l) (nI m) (nI n) 0 sc lc li (nI S) (sq_nA kd) (sq_nA ow) (sq_nA vr) (sq_nA vl) st ld fo pl A la (sq_nA ss) K) (nI l) (nI m) z (nI i) y (nI n) 0 sc lc li (nI S) (sq_nA kd) (sq_nA ow) (sq_nA vr) (sq_nA vl) st ld fo pl A la (sq_nA ss) := by
                intro y hy
                rcases hz with ⟨e, hz⟩ | ⟨e, hz⟩
                · subst e
                  have mk : (bt (nI m) i = true → i + 1 < n ∧ ow i = ow (i + 1)) → sq_btw n ow m (i + 1) := by
                    intro w b hb hbt
                    by_cases e : b = i
                    · rw [e]; rw [e] at hbt; exact w hbt
                    · exact hz b (by omega) hbt
                  refine br_f (by decide) (ek_if (sq_bit0 (nI m) (k := i) (by omega)) (fun w => nm_r (nI_1 i) (ihK (i + 1) 1 (by omega) (by omega) (Or.inl ⟨rfl, mk (fun v => by rw [w] at v; exact absurd v (by decide))⟩))) (fun w => ?_))
                  have w' : bt (nI m) i = true := by
                    cases hh : bt (nI m) i
                    · exact absurd hh w
                    · rfl
                  rcases hy with ⟨e, hy⟩ | ⟨e, hy⟩
                  · subst e
                    exact br_f (by decide) (nm_r (nI_1 i) (ihK (i + 1) 1 (by omega) (by omega) (Or.inl ⟨rfl, mk (fun _ => hy)⟩)))
                  · subst e
                    exact br_t rfl (nm_r (nI_1 i) (ihK (i + 1) 0 (by omega) (by omega) (Or.inr ⟨rfl, fun v => hy (v i (by omega) w')⟩)))
                · subst e
                  exact br_t rfl (nm_r (nI_1 i) (ihK (i + 1) 0 (by omega) (by omega) (Or.inr ⟨rfl, fun v => hz (fun b hb => v b (by omega))⟩)))
              have hwi := hw i
              have hwi1 := hw (i + 1)
              have e1 : nI i + 1 = nI (i + 1) := nI_1 i
              refine pk_le n (i + 1) (fun k4 => s62 0 (Or.inr ⟨rfl, fun v => by omega⟩)) (fun k4 => ⟨pk_in i 6 (by omega), pk_in (i + 1) 6 (by omega) e1, pk_eq (ow i) (ow (i + 1)) (fun k5 => s62 1 (Or.inl ⟨rfl, k4, k5⟩)) (fun k5 => s62 0 (Or.inr ⟨rfl, fun v => k5 v.2⟩)) (sq_at ow (by omega)) (by rw [e1]; exact sq_at ow (by omega)) (by omega) (by omega)⟩) rfl e1
        exact inn 6 0 1 (by omega) (by omega) (Or.inl ⟨rfl, fun b hb => by omega⟩)
  exact ⟨33, key 33 0 6 _ _ _ _ _ _ _ _ _ (by omega) (by omega) (sq_lst_0 _)⟩
end
/-! only fences between two instructions of one thread matter -/
theorem sq_E_in {n : Nat} {ow kd : Nat → Nat} {F G : Nat → Bool} (hn : n ≤ 6) (hso : ∀ i j, i < j → j < n → ow i ≤ ow j) (hG : ∀ b, b < 5 → b + 1 < n → ow b = ow (b + 1) → G b = F b) (hG2 : ∀ b, b < 5 → G b = true → F b = true) {i j : Nat} (hj : j < n) : sq_E ow kd F i j ↔ sq_E ow kd G i j := by
  constructor
  · rintro ⟨a, b, c⟩
    refine ⟨a, b, c.imp id (fun d => d.imp id (fun ⟨x, y1, y2, y3⟩ => ⟨x, y1, y2, ?_⟩))⟩
    have h1 : ow i ≤ ow x := by
      by_cases e : i = x
      · rw [e]; exact Nat.le_refl _
      · exact hso i x (by omega) (by omega)
    have h2 := hso x (x + 1) (by omega) (by omega)
    have h3 : ow (x + 1) ≤ ow j := by
      by_cases e : x + 1 = j
      · rw [e]; exact Nat.le_refl _
      · exact hso (x + 1) j (by omega) hj
    rw [hG x (by omega) (by omega) (by omega)]
    exact y3
  · rintro ⟨a, b, c⟩
    exact ⟨a, b, c.imp id (fun d => d.imp id (fun ⟨x, y1, y2, y3⟩ => ⟨x, y1, y2, hG2 x (by omega) y3⟩))⟩
theorem sq_PX_in {n : Nat} {ow kd vr vl : Nat → Nat} {F G : Nat → Bool} (hn : n ≤ 6) (hso : ∀ i j, i < j → j < n → ow i ≤ ow j) (hG : ∀ b, b < 5 → b + 1 < n → ow b = ow (b + 1) → G b = F b) (hG2 : ∀ b, b < 5 → G b = true → F b = true) (o : Nat) : sq_PX n ow kd vr vl F o ↔ sq_PX n ow kd vr vl G o := by
  constructor
  · rintro ⟨q, hm, hv, e⟩
    exact ⟨q, hm, fun t ht i hi => hv t ht i ((sq_E_in hn hso hG hG2 (hm t ht).1).mpr hi), e⟩
  · rintro ⟨q, hm, hv, e⟩
    exact ⟨q, hm, fun t ht i hi => hv t ht i ((sq_E_in hn hso hG hG2 (hm t ht).1).mp hi), e⟩
theorem sq_five : ∀ a b c d e : Bool, bt (nI (a.toNat + 2 * b.toNat + 4 * c.toNat + 8 * d.toNat + 16 * e.toNat)) 0 = a ∧ bt (nI (a.toNat + 2 * b.toNat + 4 * c.toNat + 8 * d.toNat + 16 * e.toNat)) 1 = b ∧ bt (nI (a.toNat + 2 * b.toNat + 4 * c.toNat + 8 * d.toNat + 16 * e.toNat)) 2 = c ∧ bt (nI (a.toNat + 2 * b.toNat + 4 * c.toNat + 8 * d.toNat + 16 * e.toNat)) 3 = d ∧ bt (nI (a.toNat + 2 * b.toNat + 4 * c.toNat + 8 * d.toNat + 16 * e.toNat)) 4 = e ∧ bt (nI (a.toNat + 2 * b.toNat + 4 * c.toNat + 8 * d.toNat + 16 * e.toNat)) 5 = false ∧ a.toNat + 2 * b.toNat + 4 * c.toNat + 8 * d.toNat + 16 * e.toNat < 32 := by decide +kernel
theorem sq_mk5 (g : Nat → Bool) : ∃ m, m < 32 ∧ (∀ b, b < 5 → bt (nI m) b = g b) ∧ bt (nI m) 5 = false := by
  obtain ⟨h0, h1, h2, h3, h4, h5, h6⟩ := sq_five (g 0) (g 1) (g 2) (g 3) (g 4)
  refine ⟨_, h6, fun b hb => ?_, h5⟩
  have : b = 0 ∨ b = 1 ∨ b = 2 ∨ b = 3 ∨ b = 4 := by omega
  rcases this with e | e | e | e | e
  · rw [e]; exact h0
  · rw [e]; exact h1
  · rw [e]; exact h2
  · rw [e]; exact h3
  · rw [e]; exact h4
theorem sq_lst_eq {n : Nat} {ow kd vr vl : Nat → Nat} (hW : sq_W n ow kd vr vl) {Q Q' : Nat → Prop} (hQ : ∀ o, Q o ↔ Q' o) {l l' : Nat} (h : sq_lst (fun m => ∀ o, sq_PX n ow kd vr vl (bt (nI m)) o → Q o) 32 l) (h' : sq_lst (fun m => sq_btw n ow m 5 ∧ ∀ o, sq_PY n ow kd vr vl false (bt (nI m)) o → Q' o) 32 l') : l' = l := by
  obtain ⟨hn, _, _, _, _, hso⟩ := id hW
  have hbr : ∀ m, (∀ o, sq_PX n ow kd vr vl (bt (nI m)) o → Q o) ↔ ∀ o, sq_PY n ow kd vr vl false (bt (nI m)) o → Q' o := by
    intro m
    have hb := sq_bridge hW (S := false) (F := bt (nI m)) (X := bt (nI m)) (Or.inr ⟨rfl, fun _ _ => rfl⟩)
    exact ⟨fun z o ho => (hQ o).mp (z o ((hb o).mpr ho)), fun z o ho => (hQ o).mpr (z o ((hb o).mp ho))⟩
  obtain ⟨a1, a2, a3⟩ := h
  obtain ⟨b1, b2, b3⟩ := h'
  apply Nat.le_antisymm
  · rcases a2 with e | ⟨r, hr, hg, e⟩
    · omega
    · obtain ⟨m, hm, hm1, hm5⟩ := sq_mk5 (fun b => bt (nI r) b && decide (b + 1 < n ∧ ow b = ow (b + 1)))
      have hbt : sq_btw n ow m 5 := by
        intro b hb hbt
        rw [hm1 b hb, Bool.and_eq_true, decide_eq_true_eq] at hbt
        exact hbt.2
      have hin := sq_PX_in (n := n) (ow := ow) (kd := kd) (vr := vr) (vl := vl) (F := bt (nI r)) (G := bt (nI m)) hn hso (fun b x y z => by rw [hm1 b x, decide_eq_true ⟨y, z⟩, Bool.and_true]) (fun b x y => by rw [hm1 b x, Bool.and_eq_true] at y; exact y.1)
      have hle : sq_cn (bt (nI m)) 6 ≤ sq_cn (bt (nI r)) 6 := by
        refine sq_cn_sub (fun i hi z => ?_)
        by_cases e : i = 5
        · rw [e, hm5] at z; exact absurd z (by decide)
        · rw [hm1 i (by omega), Bool.and_eq_true] at z; exact z.1
      have := b3 m hm ⟨hbt, (hbr m).mp (fun o ho => hg o ((hin o).mpr ho))⟩
      omega
  · rcases b2 with e | ⟨r, hr, hg, e⟩
    · omega
    · have := a3 r hr ((hbr r).mpr hg.2)
      omega
end
section
/-! the questions: both sides meet in the answer -/
theorem sq_rel {k n : Nat} {ow kd vr vl : Nat → Nat} {f_explored f_loadCount f_orderCount f_lateCount f_strictCount : Int32} {a_lateSet a_strictSet a_place a_earlier : Nat → Int32} {yf_storeCount yf_loadCount yf_listed yf_strictListed : Int32} {ya_stores ya_loads ya_found ya_place ya_after ya_list ya_strictList : Nat → Int32} (hW : sq_W n ow kd vr vl) (hE : sq_XE n ow kd vr vl f_loadCount f_orderCount f_lateCount f_strictCount a_lateSet a_strictSet a_place) : i_Rel k ((nI n), f_explored, f_loadCount, f_orderCount, f_lateCount, f_strictCount, (sq_nA ow), (sq_nA kd), (sq_nA vr), (sq_nA vl), a_lateSet, a_strictSet, a_place, a_earlier) ((nI n), 0, yf_storeCount, yf_loadCount, yf_listed, yf_strictListed, (sq_nA kd), (sq_nA ow), (sq_nA vr), (sq_nA vl), ya_stores, ya_loads, ya_found, ya_place, ya_after, ya_list, ya_strictList) :=
  ⟨rfl, n, ow, kd, vr, vl, hW, ⟨_, _, _, _, _, _, _, _, _, rfl, Or.inr hE⟩, ⟨_, _, _, _, _, _, _, _, _, _, _, rfl⟩⟩
theorem sq_b31 : ∀ b, b < 5 → bt 31 b = true := by decide +kernel
theorem sq_lat {n : Nat} {ow kd vr vl : Nat → Nat} (hW : sq_W n ow kd vr vl) {la lb : Nat → Nat} {L M : Nat} (h : sq_SS la L (sq_PX n ow kd vr vl (bt 0))) (h' : sq_SS lb M (sq_PY n ow kd vr vl false (bt 0))) : L = M ∧ ∀ i, i < L → la i = lb i :=
  sq_SS_uniq (sq_SS_c h (sq_bridge hW (Or.inr ⟨rfl, fun _ _ => rfl⟩))) h'
theorem sq_str {n : Nat} {ow kd vr vl : Nat → Nat} (hW : sq_W n ow kd vr vl) {la lb : Nat → Nat} {L M : Nat} (h : sq_SS la L (sq_PX n ow kd vr vl (bt 31))) (h' : sq_SS lb M (sq_PY n ow kd vr vl true (bt 0))) : L = M ∧ ∀ i, i < L → la i = lb i :=
  sq_SS_uniq (sq_SS_c h (sq_bridge hW (Or.inl ⟨rfl, sq_b31⟩))) h'
theorem sq_PY_lt {n : Nat} {ow kd vr vl : Nat → Nat} {S : Bool} {F : Nat → Bool} (hl : ∀ i, vl i < 4) {o : Nat} (h : sq_PY n ow kd vr vl S F o) : o < 262144 := by
  obtain ⟨P, Fo, f, _, _, _, _, hd, e⟩ := h
  rw [e]
  exact sq_dg_4 hl hd
theorem i_vc_outcomes {k : Nat} {u : SX} {v : SY} (I : i_Rel k u v) (hk : k + 5 ≤ 2560) : wpX_outcomes (fun r u' => wpY_outcomes (fun r' v' => r' = r ∧ i_Rel (k + 5) u' v') v) u := by
  obtain ⟨_, n, ow, kd, vr, vl, hW, ⟨f_explored, f_loadCount, f_orderCount, f_lateCount, f_strictCount, a_lateSet, a_strictSet, a_place, a_earlier, rfl, hX⟩, ⟨y1, y2, y3, y4, y5, y6, y7, y8, y9, y10, y11, rfl⟩⟩ := I
  unfold wpX_outcomes
  refine sq_xExp hW hX (fun e x1 x2 x3 x4 x5 x6 x7 x8 hE => ?_)
  obtain ⟨rfl, rfl, hp, L, S, la, ss, rfl, rfl, rfl, rfl, hL, hS, hLS, hSS⟩ := id hE
  refine sq_yGo0 (yf_storeCount := y1) (yf_loadCount := y2) hW (fun lb M st ld fo pl A hM hMS => ⟨?_, sq_rel hW hE⟩)
  rw [(sq_lat hW hLS hMS).1]
theorem i_vc_strictOutcomes {k : Nat} {u : SX} {v : SY} (I : i_Rel k u v) (hk : k + 5 ≤ 2560) : wpX_strictOutcomes (fun r u' => wpY_strictOutcomes (fun r' v' => r' = r ∧ i_Rel (k + 5) u' v') v) u := by
  obtain ⟨_, n, ow, kd, vr, vl, hW, ⟨f_explored, f_loadCount, f_orderCount, f_lateCount, f_strictCount, a_lateSet, a_strictSet, a_place, a_earlier, rfl, hX⟩, ⟨y1, y2, y3, y4, y5, y6, y7, y8, y9, y10, y11, rfl⟩⟩ := I
  unfold wpX_strictOutcomes
  refine sq_xExp hW hX (fun e x1 x2 x3 x4 x5 x6 x7 x8 hE => ?_)
  obtain ⟨rfl, rfl, hp, L, S, la, ss, rfl, rfl, rfl, rfl, hL, hS, hLS, hSS⟩ := id hE
  refine sq_yGo1 (yf_storeCount := y1) (yf_loadCount := y2) hW (fun lb M st ld fo pl A hM hMS => ⟨?_, sq_rel hW hE⟩)
  rw [(sq_str hW hSS hMS).1]
theorem i_vc_outcome {k : Nat} {u : SX} {v : SY} (I : i_Rel k u v) (hk : k + 5 ≤ 2560) (v1 : Int32) : wpX_outcome (fun r u' => wpY_outcome (fun r' v' => r' = r ∧ i_Rel (k + 5) u' v') v v1) u v1 := by
  obtain ⟨_, n, ow, kd, vr, vl, hW, ⟨f_explored, f_loadCount, f_orderCount, f_lateCount, f_strictCount, a_lateSet, a_strictSet, a_place, a_earlier, rfl, hX⟩, ⟨y1, y2, y3, y4, y5, y6, y7, y8, y9, y10, y11, rfl⟩⟩ := I
  unfold wpX_outcome
  refine sq_xExp hW hX (fun e x1 x2 x3 x4 x5 x6 x7 x8 hE => ?_)
  obtain ⟨rfl, rfl, hp, L, S, la, ss, rfl, rfl, rfl, rfl, hL, hS, hLS, hSS⟩ := id hE
  rcases pk_ix v1 (n := L) (by omega) with a | a | ⟨j, hj, rfl⟩
  · refine br_t a ?_
    exact sq_yGo0 (yf_storeCount := y1) (yf_loadCount := y2) hW (fun lb M st ld fo pl A hM hMS => br_t a ⟨rfl, sq_rel hW hE⟩)
  · have a0 : ¬ v1 < 0 := fun z => by
      have := nI_pos (n := L) (by omega)
      exact this (Int32.lt_of_le_of_lt a z)
    refine br_f a0 (br_t a ?_)
    refine sq_yGo0 (yf_storeCount := y1) (yf_loadCount := y2) hW (fun lb M st ld fo pl A hM hMS => ?_)
    have e := sq_lat hW hLS hMS
    rw [e.1] at a
    exact br_f a0 (br_t a ⟨rfl, sq_rel hW hE⟩)
  · refine br_f (nI_pos (by omega)) (br_f (nI_ge hj (by omega)) ⟨pk_in j 720 (by omega), ?_⟩)
    refine sq_yGo0 (yf_storeCount := y1) (yf_loadCount := y2) hW (fun lb M st ld fo pl A hM hMS => ?_)
    have e := sq_lat hW hLS hMS
    refine br_f (nI_pos (by omega)) (br_f (nI_ge (by omega) (by omega)) ⟨pk_in j 720 (by omega), ?_, sq_rel hW hE⟩)
    rw [sq_at la (by omega), sq_at lb (by omega), e.2 j hj]
theorem i_vc_possible {k : Nat} {u : SX} {v : SY} (I : i_Rel k u v) (hk : k + 5 ≤ 2560) (v1 : Int32) : wpX_possible (fun r u' => wpY_possible (fun r' v' => r' = r ∧ i_Rel (k + 5) u' v') v v1) u v1 := by
  obtain ⟨_, n, ow, kd, vr, vl, hW, ⟨f_explored, f_loadCount, f_orderCount, f_lateCount, f_strictCount, a_lateSet, a_strictSet, a_place, a_earlier, rfl, hX⟩, ⟨y1, y2, y3, y4, y5, y6, y7, y8, y9, y10, y11, rfl⟩⟩ := I
  unfold wpX_possible
  refine sq_xExp hW hX (fun e x1 x2 x3 x4 x5 x6 x7 x8 hE => ?_)
  obtain ⟨rfl, rfl, hp, L, S, la, ss, rfl, rfl, rfl, rfl, hL, hS, hLS, hSS⟩ := id hE
  have hl4 := hW.2.2.2.2.1
  have hla : ∀ i, i < L → la i < 262144 := fun i hi => sq_PX_lt hl4 ((hLS.2 _).mpr ⟨i, hi, rfl⟩)
  refine sq_xHas_lateSet hL hla hLS.1 (fun z => ⟨rfl, ?_⟩) (fun z => ⟨rfl, ?_⟩)
  · refine sq_yGo0 (yf_storeCount := y1) (yf_loadCount := y2) hW (fun lb M st ld fo pl A hM hMS => ?_)
    have e := sq_lat hW hLS hMS
    refine sq_yHas hM (fun w => ⟨rfl, sq_rel hW hE⟩) (fun w => absurd ?_ w)
    obtain ⟨i, hi, ei⟩ := z
    exact ⟨i, by omega, by rw [← e.2 i hi]; exact ei⟩
  · refine sq_yGo0 (yf_storeCount := y1) (yf_loadCount := y2) hW (fun lb M st ld fo pl A hM hMS => ?_)
    have e := sq_lat hW hLS hMS
    refine sq_yHas hM (fun w => absurd ?_ z) (fun w => ⟨rfl, sq_rel hW hE⟩)
    obtain ⟨i, hi, ei⟩ := w
    exact ⟨i, by omega, by rw [e.2 i (by omega)]; exact ei⟩
theorem i_vc_strictlyPossible {k : Nat} {u : SX} {v : SY} (I : i_Rel k u v) (hk : k + 5 ≤ 2560) (v1 : Int32) : wpX_strictlyPossible (fun r u' => wpY_strictlyPossible (fun r' v' => r' = r ∧ i_Rel (k + 5) u' v') v v1) u v1 := by
  obtain ⟨_, n, ow, kd, vr, vl, hW, ⟨f_explored, f_loadCount, f_orderCount, f_lateCount, f_strictCount, a_lateSet, a_strictSet, a_place, a_earlier, rfl, hX⟩, ⟨y1, y2, y3, y4, y5, y6, y7, y8, y9, y10, y11, rfl⟩⟩ := I
  unfold wpX_strictlyPossible
  refine sq_xExp hW hX (fun e x1 x2 x3 x4 x5 x6 x7 x8 hE => ?_)
  obtain ⟨rfl, rfl, hp, L, S, la, ss, rfl, rfl, rfl, rfl, hL, hS, hLS, hSS⟩ := id hE
  have hl4 := hW.2.2.2.2.1
  have hss : ∀ i, i < S → ss i < 262144 := fun i hi => sq_PX_lt hl4 ((hSS.2 _).mpr ⟨i, hi, rfl⟩)
  refine sq_xHas_strictSet hS hss hSS.1 (fun z => ⟨rfl, ?_⟩) (fun z => ⟨rfl, ?_⟩)
  · refine sq_yGo1 (yf_storeCount := y1) (yf_loadCount := y2) hW (fun lb M st ld fo pl A hM hMS => ?_)
    have e := sq_str hW hSS hMS
    refine sq_yIsS hM (fun w => ⟨rfl, rfl, sq_rel hW hE⟩) (fun w => absurd ?_ w)
    obtain ⟨i, hi, ei⟩ := z
    exact ⟨i, by omega, by rw [← e.2 i hi]; exact ei⟩
  · refine sq_yGo1 (yf_storeCount := y1) (yf_loadCount := y2) hW (fun lb M st ld fo pl A hM hMS => ?_)
    have e := sq_str hW hSS hMS
    refine sq_yIsS hM (fun w => absurd ?_ z) (fun w => ⟨rfl, rfl, sq_rel hW hE⟩)
    obtain ⟨i, hi, ei⟩ := w
    exact ⟨i, by omega, by rw [e.2 i (by omega)]; exact ei⟩
theorem i_vc_surprise {k : Nat} {u : SX} {v : SY} (I : i_Rel k u v) (hk : k + 5 ≤ 2560) : wpX_surprise (fun r u' => wpY_surprise (fun r' v' => r' = r ∧ i_Rel (k + 5) u' v') v) u := by
  obtain ⟨_, n, ow, kd, vr, vl, hW, ⟨f_explored, f_loadCount, f_orderCount, f_lateCount, f_strictCount, a_lateSet, a_strictSet, a_place, a_earlier, rfl, hX⟩, ⟨y1, y2, y3, y4, y5, y6, y7, y8, y9, y10, y11, rfl⟩⟩ := I
  unfold wpX_surprise
  refine sq_xExp hW hX (fun e x1 x2 x3 x4 x5 x6 x7 x8 hE => ?_)
  obtain ⟨rfl, rfl, hp, L, S, la, ss, rfl, rfl, rfl, rfl, hL, hS, hLS, hSS⟩ := id hE
  have hl4 := hW.2.2.2.2.1
  have hla : ∀ i, i < L → la i < 262144 := fun i hi => sq_PX_lt hl4 ((hLS.2 _).mpr ⟨i, hi, rfl⟩)
  refine sq_xSur hL hS hla (fun o ho => sq_PX_lt hl4 ho) hSS (fun r hr => ?_)
  refine sq_yGo1 (yf_storeCount := y1) (yf_loadCount := y2) hW (fun sb T st ld fo pl A hT hTS => ?_)
  refine sq_yFst (yf_storeCount := (nI (sq_cn (sq_ls kd) n))) (yf_loadCount := (nI (sq_cn (sq_ll kd) n))) hW hT (fun o ho => sq_PY_lt hl4 ho) hTS (fun o ho => sq_PY_lt hl4 ho) (fun lb M st' ld' fo' pl' A' r' hM hMS hr' => ⟨?_, sq_rel hW hE⟩)
  have e := sq_lat hW hLS hMS
  rw [← e.1] at hr'
  exact sq_sup_uniq e.2 (sq_bridge hW (Or.inl ⟨rfl, sq_b31⟩)) hr hr'
theorem i_vc_finds {k : Nat} {u : SX} {v : SY} (I : i_Rel k u v) (hk : k + 5 ≤ 2560) (v1 : Int32) : wpX_finds (fun r u' => wpY_finds (fun r' v' => r' = r ∧ i_Rel (k + 5) u' v') v v1) u v1 := by
  obtain ⟨_, n, ow, kd, vr, vl, hW, ⟨f_explored, f_loadCount, f_orderCount, f_lateCount, f_strictCount, a_lateSet, a_strictSet, a_place, a_earlier, rfl, hX⟩, ⟨y1, y2, y3, y4, y5, y6, y7, y8, y9, y10, y11, rfl⟩⟩ := I
  unfold wpX_finds
  refine sq_xExp hW hX (fun e x1 x2 x3 x4 x5 x6 x7 x8 hE => ?_)
  obtain ⟨rfl, rfl, hp, L, S, la, ss, rfl, rfl, rfl, rfl, hL, hS, hLS, hSS⟩ := id hE
  have hlc := sq_cn_le (sq_ll kd) n
  have hn := hW.1
  rcases pk_ix v1 (n := sq_cn (sq_ll kd) n) (by omega) with a | a | ⟨j, hj, rfl⟩
  · refine br_t a (br_t rfl ?_)
    exact sq_yGo0 (yf_storeCount := y1) (yf_loadCount := y2) hW (fun lb M st ld fo pl A hM hMS => br_t a ⟨rfl, sq_rel hW hE⟩)
  · have a0 : ¬ v1 < 0 := fun z => by
      have := nI_pos (n := sq_cn (sq_ll kd) n) (by omega)
      exact this (Int32.lt_of_le_of_lt a z)
    refine br_f a0 (br_t a (br_t rfl ?_))
    exact sq_yGo0 (yf_storeCount := y1) (yf_loadCount := y2) hW (fun lb M st ld fo pl A hM hMS => br_f a0 (br_f (Int32.not_lt.mpr a) ⟨rfl, sq_rel hW hE⟩))
  · refine br_f (nI_pos (by omega)) (br_f (nI_ge hj (by omega)) (br_f (by decide) ?_))
    refine sq_xVals hL ?_
    refine sq_yGo0 (yf_storeCount := y1) (yf_loadCount := y2) hW (fun lb M st ld fo pl A hM hMS => ?_)
    have e := sq_lat hW hLS hMS
    refine br_f (nI_pos (by omega)) (br_t (nI_lt hj (by omega)) (sq_yFds hM ⟨?_, sq_rel hW hE⟩))
    rw [← e.1]
    exact (sq_vs_ext e.2).symm
theorem i_vc_ends {k : Nat} {u : SX} {v : SY} (I : i_Rel k u v) (hk : k + 5 ≤ 2560) (v1 : Int32) : wpX_ends (fun r u' => wpY_ends (fun r' v' => r' = r ∧ i_Rel (k + 5) u' v') v v1) u v1 := by
  have I' := i_up I
  obtain ⟨_, n, ow, kd, vr, vl, hW, ⟨f_explored, f_loadCount, f_orderCount, f_lateCount, f_strictCount, a_lateSet, a_strictSet, a_place, a_earlier, rfl, hX⟩, ⟨y1, y2, y3, y4, y5, y6, y7, y8, y9, y10, y11, rfl⟩⟩ := I
  rcases sq_arg v1 (N := 3) (by decide) (by decide) with b | ⟨b0, b1, b2, b3⟩ | ⟨j, hj, rfl⟩
  · exact br_t b (br_t rfl (br_t b ⟨rfl, I'⟩))
  · exact br_f b0 (br_t b1 (br_t rfl (br_f b0 (br_f b3 ⟨rfl, I'⟩))))
  · refine br_f (nI_pos (by omega)) (br_f (nI_ge (b := 3) hj (by decide)) (br_f (by decide) ?_))
    refine sq_xExp hW hX (fun e x1 x2 x3 x4 x5 x6 x7 x8 hE => ?_)
    obtain ⟨rfl, rfl, hp, L, S, la, ss, rfl, rfl, rfl, rfl, hL, hS, hLS, hSS⟩ := id hE
    refine sq_xVals hL ?_
    refine br_f (nI_pos (by omega)) (br_t (nI_le (b := 2) (by omega) (by decide)) ?_)
    refine sq_yGo0 (yf_storeCount := y1) (yf_loadCount := y2) hW (fun lb M st ld fo pl A hM hMS => ?_)
    have e := sq_lat hW hLS hMS
    refine sq_yEnds hM ⟨?_, sq_rel hW hE⟩
    have e1 : (2 : Int32) * (6 + nI j) = 12 + 2 * nI j := by
      have h1 : (6 : Int32) + nI j = nI (6 + j) := nI_add 6 j
      have h2 : (2 : Int32) * nI (6 + j) = nI (2 * (6 + j)) := pk_mul 2 _
      have h3 : (2 : Int32) * nI j = nI (2 * j) := pk_mul 2 _
      have h4 : (12 : Int32) + nI (2 * j) = nI (12 + 2 * j) := nI_add 12 _
      rw [h1, h2, h3, h4]
      congr 1
      omega
    rw [← e.1, e1]
    exact (sq_vs_ext e.2).symm
theorem i_vc_implies {k : Nat} {u : SX} {v : SY} (I : i_Rel k u v) (hk : k + 5 ≤ 2560) (v1 : Int32) (v2 : Int32) (v3 : Int32) (v4 : Int32) : wpX_implies (fun r u' => wpY_implies (fun r' v' => r' = r ∧ i_Rel (k + 5) u' v') v v1 v2 v3 v4) u v1 v2 v3 v4 := by
  obtain ⟨_, n, ow, kd, vr, vl, hW, ⟨f_explored, f_loadCount, f_orderCount, f_lateCount, f_strictCount, a_lateSet, a_strictSet, a_place, a_earlier, rfl, hX⟩, ⟨y1, y2, y3, y4, y5, y6, y7, y8, y9, y10, y11, rfl⟩⟩ := I
  unfold wpX_implies
  refine sq_xExp hW hX (fun e x1 x2 x3 x4 x5 x6 x7 x8 hE => ?_)
  obtain ⟨rfl, rfl, hp, L, S, la, ss, rfl, rfl, rfl, rfl, hL, hS, hLS, hSS⟩ := id hE
  have hlc := sq_cn_le (sq_ll kd) n
  have hn := hW.1
  rcases pk_ix v1 (n := sq_cn (sq_ll kd) n) (by omega) with a | a | ⟨j, hj, rfl⟩
  · refine br_t a (br_t rfl ?_)
    exact sq_yGo0 (yf_storeCount := y1) (yf_loadCount := y2) hW (fun lb M st ld fo pl A hM hMS => br_t a ⟨rfl, sq_rel hW hE⟩)
  · have a0 : ¬ v1 < 0 := fun z => by
      have := nI_pos (n := sq_cn (sq_ll kd) n) (by omega)
      exact this (Int32.lt_of_le_of_lt a z)
    refine br_f a0 (br_t a (br_t rfl ?_))
    exact sq_yGo0 (yf_storeCount := y1) (yf_loadCount := y2) hW (fun lb M st ld fo pl A hM hMS => br_f a0 (br_t a ⟨rfl, sq_rel hW hE⟩))
  · have j0 : ¬ nI j < 0 := nI_pos (by omega)
    have j1 : ¬ nI (sq_cn (sq_ll kd) n) ≤ nI j := nI_ge hj (by omega)
    refine br_f j0 (br_f j1 (br_f (by decide) ?_))
    rcases pk_ix v3 (n := sq_cn (sq_ll kd) n) (by omega) with a | a | ⟨i, hi, rfl⟩
    · refine br_t a (br_t rfl ?_)
      exact sq_yGo0 (yf_storeCount := y1) (yf_loadCount := y2) hW (fun lb M st ld fo pl A hM hMS => br_f j0 (br_f j1 (br_t a ⟨rfl, sq_rel hW hE⟩)))
    · have a0 : ¬ v3 < 0 := fun z => by
        have := nI_pos (n := sq_cn (sq_ll kd) n) (by omega)
        exact this (Int32.lt_of_le_of_lt a z)
      refine br_f a0 (br_t a (br_t rfl ?_))
      exact sq_yGo0 (yf_storeCount := y1) (yf_loadCount := y2) hW (fun lb M st ld fo pl A hM hMS => br_f j0 (br_f j1 (br_f a0 (br_f (Int32.not_lt.mpr a) ⟨rfl, sq_rel hW hE⟩))))
    · have i0 : ¬ nI i < 0 := nI_pos (by omega)
      refine br_f i0 (br_f (nI_ge hi (by omega)) (br_f (by decide) ?_))
      refine sq_xImp hL (fun z => ?_) (fun z => ?_)
      · refine sq_yGo0 (yf_storeCount := y1) (yf_loadCount := y2) hW (fun lb M st ld fo pl A hM hMS => ?_)
        have e := sq_lat hW hLS hMS
        refine br_f j0 (br_f j1 (br_f i0 (br_t (nI_lt hi (by omega)) (sq_yImp hM (fun w => ⟨rfl, sq_rel hW hE⟩) (fun w => absurd ?_ w)))))
        intro l hl
        rw [← e.2 l (by omega)]
        exact z l (by omega)
      · refine sq_yGo0 (yf_storeCount := y1) (yf_loadCount := y2) hW (fun lb M st ld fo pl A hM hMS => ?_)
        have e := sq_lat hW hLS hMS
        refine br_f j0 (br_f j1 (br_f i0 (br_t (nI_lt hi (by omega)) (sq_yImp hM (fun w => absurd ?_ z) (fun w => ⟨rfl, sq_rel hW hE⟩)))))
        intro l hl
        rw [e.2 l hl]
        exact w l (by omega)
theorem i_vc_fencesNeeded {k : Nat} {u : SX} {v : SY} (I : i_Rel k u v) (hk : k + 5 ≤ 2560) : wpX_fencesNeeded (fun r u' => wpY_fencesNeeded (fun r' v' => r' = r ∧ i_Rel (k + 5) u' v') v) u := by
  obtain ⟨_, n, ow, kd, vr, vl, hW, ⟨f_explored, f_loadCount, f_orderCount, f_lateCount, f_strictCount, a_lateSet, a_strictSet, a_place, a_earlier, rfl, hX⟩, ⟨y1, y2, y3, y4, y5, y6, y7, y8, y9, y10, y11, rfl⟩⟩ := I
  unfold wpX_fencesNeeded
  refine sq_xExp hW hX (fun e x1 x2 x3 x4 x5 x6 x7 x8 hE => ?_)
  obtain ⟨rfl, rfl, hp, L, S, la, ss, rfl, rfl, rfl, rfl, hL, hS, hLS, hSS⟩ := id hE
  have hl4 := hW.2.2.2.2.1
  refine sq_xFen hW hp hS (fun o ho => sq_PX_lt hl4 ho) hSS (fun l hl A => ?_)
  refine sq_yGo1 (yf_storeCount := y1) (yf_loadCount := y2) hW (fun sb T st ld fo pl A' hT hTS => ?_)
  refine sq_yNeed hW hT (fun o ho => sq_PY_lt hl4 ho) hTS (fun F o ho => sq_PY_lt hl4 ho) (fun l' z1 z2 z3 z4 z5 z6 z7 z8 z9 hl' => ⟨?_, sq_rel hW hE⟩)
  rw [sq_lst_eq hW (sq_bridge hW (Or.inl ⟨rfl, sq_b31⟩)) hl hl']
end
