/-! arrays of naturals -/
def sq_nA (f : Nat → Nat) : Nat → Int32 := fun i => nI (f i)
def sq_up (f : Nat → Nat) (k v : Nat) : Nat → Nat := fun i => if i = k then v else f i
theorem sq_up_s (f : Nat → Nat) (k v : Nat) : sq_up f k v k = v := if_pos rfl
theorem sq_up_n (f : Nat → Nat) {k i : Nat} (v : Nat) (h : i ≠ k) : sq_up f k v i = f i := if_neg h
theorem sq_upd (f : Nat → Nat) (k v : Nat) : upd (sq_nA f) k (nI v) = sq_nA (sq_up f k v) := by
  funext i
  show (if i = k then nI v else nI (f i)) = nI (if i = k then v else f i)
  split <;> rfl
theorem sq_at (f : Nat → Nat) {i : Nat} (h : i < 2 ^ 31) : sq_nA f (nI i).toNatClampNeg = nI (f i) := by rw [nI_clamp h]; rfl
theorem sq_ati (a : Nat → Int32) {i : Nat} (h : i < 2 ^ 31) : a (nI i).toNatClampNeg = a i := by rw [nI_clamp h]
theorem sq_u0 (f : Nat → Nat) (k : Nat) : sq_up f k (f k) = f := by
  funext i
  show (if i = k then f k else f i) = f i
  split
  · rename_i h; rw [h]
  · rfl
theorem sq_updS (a : Nat → Int32) (k : Nat) : upd a k (a k) = a := by
  funext i
  show (if i = k then a k else a i) = a i
  split
  · rename_i h; rw [h]
  · rfl
/-! bits -/
theorem sq_one : ∀ i, i < 32 → bt 1 i = decide (i = 0) := by decide +kernel
theorem sq_three : ∀ i, i < 32 → bt 3 i = decide (i < 2) := by decide +kernel
theorem sq_b1 {k i : Nat} (hk : k < 32) (hi : i < 32) : bt ((1 : Int32) <<< (nI k &&& 31)) i = decide (i = k) := by
  rw [b_shl k hk 1 hi, sq_one (i - k) (by omega)]
  by_cases h : k ≤ i
  · rw [decide_eq_true h, Bool.true_and]
    by_cases e : i = k
    · rw [decide_eq_true e, decide_eq_true (by omega)]
    · rw [decide_eq_false e, decide_eq_false (by omega)]
  · rw [decide_eq_false h, Bool.false_and, decide_eq_false (by omega)]
theorem sq_tst (x : Int32) {k : Nat} (hk : k < 32) : (x &&& ((1 : Int32) <<< (nI k &&& 31))) = 0 ↔ bt x k = false := by
  constructor
  · intro h
    have h1 : bt (x &&& ((1 : Int32) <<< (nI k &&& 31))) k = false := by rw [h]; exact b_0 k
    rw [b_and, sq_b1 hk hk, decide_eq_true rfl, Bool.and_true] at h1
    exact h1
  · intro h
    apply b_ext
    intro i hi
    rw [b_and, sq_b1 hk hi, b_0]
    by_cases e : i = k
    · rw [e, h, Bool.false_and]
    · rw [decide_eq_false e, Bool.and_false]
theorem sq_bit (x : Int32) {k : Nat} (hk : k < 32) : (x >>> (nI k &&& 31)) &&& 1 = if bt x k = true then 1 else 0 := by
  apply b_ext
  intro i hi
  rw [b_and, b_sshr k hk x hi, sq_one i hi]
  by_cases e : i = 0
  · subst e
    rw [if_pos (by omega), Nat.add_zero, decide_eq_true rfl, Bool.and_true]
    cases h : bt x k
    · rw [if_neg (by decide), b_0]
    · rw [if_pos rfl]; exact (by decide +kernel : true = bt 1 0)
  · rw [decide_eq_false e, Bool.and_false]
    split
    · rw [sq_one i hi, decide_eq_false e]
    · rw [b_0]
theorem sq_bit1 (x : Int32) {k : Nat} (hk : k < 32) : (x >>> (nI k &&& 31)) &&& 1 = 1 ↔ bt x k = true := by
  rw [sq_bit x hk]
  cases h : bt x k
  · exact ⟨fun z => absurd z (by decide), fun z => absurd z (by decide)⟩
  · exact ⟨fun _ => rfl, fun _ => rfl⟩
theorem sq_bit0 (x : Int32) {k : Nat} (hk : k < 32) : (x >>> (nI k &&& 31)) &&& 1 = 0 ↔ bt x k = false := by
  rw [sq_bit x hk]
  cases h : bt x k
  · exact ⟨fun _ => rfl, fun _ => rfl⟩
  · exact ⟨fun z => absurd z (by decide), fun z => absurd z (by decide)⟩
theorem sq_set (x : Int32) {k i : Nat} (hk : k < 32) (hi : i < 32) : bt (x ||| ((1 : Int32) <<< (nI k &&& 31))) i = (bt x i || decide (i = k)) := by
  rw [b_or, sq_b1 hk hi]
theorem sq_clr (x : Int32) {k i : Nat} (hk : k < 32) (hi : i < 32) : bt (x &&& (((1 : Int32) <<< (nI k &&& 31)) ^^^ (-1))) i = (bt x i && !decide (i = k)) := by
  rw [b_and, b_xor, sq_b1 hk hi, b_m1 i hi, Bool.xor_true]
theorem sq_subm (e x : Int32) : (e &&& (x ^^^ (-1))) = 0 ↔ ∀ i, i < 32 → bt e i = true → bt x i = true := by
  constructor
  · intro h i hi he
    have h1 : bt (e &&& (x ^^^ (-1))) i = false := by rw [h]; exact b_0 i
    rw [b_and, b_xor, b_m1 i hi, Bool.xor_true, he, Bool.true_and] at h1
    cases hx : bt x i
    · rw [hx] at h1; exact absurd h1 (by decide)
    · rfl
  · intro h
    apply b_ext
    intro i hi
    rw [b_and, b_xor, b_m1 i hi, Bool.xor_true, b_0]
    cases he : bt e i
    · rfl
    · rw [h i hi he]; rfl
theorem sq_btN (s : Nat) {i : Nat} (hi : i < 32) : bt (nI s) i = s.testBit i := by
  show (BitVec.ofNat 32 s).getLsbD i = s.testBit i
  rw [BitVec.getLsbD_ofNat, decide_eq_true hi, Bool.true_and]
theorem sq_low : ∀ k, k < 7 → ∀ i, i < 32 → bt (((1 : Int32) <<< (nI k &&& 31)) - 1) i = decide (i < k) := by decide +kernel
theorem sq_fen (F : Int32) {i j : Nat} (hij : i < j) (hj : j < 6) : ((F >>> (nI i &&& 31)) &&& (((1 : Int32) <<< ((nI j - nI i) &&& 31)) - 1)) = 0 ↔ ∀ b, i ≤ b → b < j → bt F b = false := by
  rw [pk_sub (Nat.le_of_lt hij)]
  constructor
  · intro h b hb hbj
    have h1 : bt ((F >>> (nI i &&& 31)) &&& (((1 : Int32) <<< (nI (j - i) &&& 31)) - 1)) (b - i) = false := by rw [h]; exact b_0 _
    rw [b_and, sq_low (j - i) (by omega) (b - i) (by omega), b_sshr i (by omega) F (by omega), if_pos (by omega), decide_eq_true (by omega), Bool.and_true, show i + (b - i) = b from by omega] at h1
    exact h1
  · intro h
    apply b_ext
    intro b hb
    rw [b_and, sq_low (j - i) (by omega) b hb, b_0]
    by_cases hbj : b < j - i
    · rw [b_sshr i (by omega) F hb, if_pos (by omega), h (i + b) (by omega) (by omega), Bool.false_and]
    · rw [decide_eq_false hbj, Bool.and_false]
/-! a number by its digits to the base 4 -/
def sq_sm (f : Nat → Nat) : Nat → Nat
  | 0 => 0
  | k + 1 => 2 ^ (2 * k) * f k + sq_sm f k
theorem sq_sm_s (f : Nat → Nat) (k : Nat) : sq_sm f (k + 1) = 2 ^ (2 * k) * f k + sq_sm f k := rfl
theorem sq_sm_lt {f : Nat → Nat} (h : ∀ d, f d < 4) : ∀ k, sq_sm f k < 2 ^ (2 * k) := by
  intro k
  induction k with
  | zero => show 0 < 2 ^ 0; decide
  | succ k ih =>
    rw [sq_sm_s, show 2 * (k + 1) = 2 * k + 2 from by omega, Nat.pow_add]
    have h1 : 2 ^ (2 * k) * f k ≤ 2 ^ (2 * k) * 3 := Nat.mul_le_mul_left _ (by have := h k; omega)
    have : (2 : Nat) ^ 2 = 4 := by decide
    rw [this]
    omega
theorem sq_sm_ext {f g : Nat → Nat} : ∀ {k : Nat}, (∀ d, d < k → f d = g d) → sq_sm f k = sq_sm g k := by
  intro k
  induction k with
  | zero => intro _; rfl
  | succ k ih => intro h; rw [sq_sm_s, sq_sm_s, h k (by omega), ih (fun d hd => h d (by omega))]
theorem sq_sm_bit {f : Nat → Nat} (h : ∀ d, f d < 4) : ∀ k j, (sq_sm f k).testBit j = (decide (j < 2 * k) && (f (j / 2)).testBit (j % 2)) := by
  intro k
  induction k with
  | zero => intro j; show (0 : Nat).testBit j = _; simp
  | succ k ih =>
    intro j
    rw [sq_sm_s, Nat.testBit_two_pow_mul_add _ (sq_sm_lt h k)]
    by_cases hj : j < 2 * k
    · rw [if_pos hj, ih, decide_eq_true hj, decide_eq_true (by omega)]
    · rw [if_neg hj]
      by_cases h2 : j < 2 * (k + 1)
      · have e1 : j / 2 = k := by omega
        have e2 : j - 2 * k = j % 2 := by omega
        rw [decide_eq_true h2, Bool.true_and, e1, e2]
      · rw [decide_eq_false h2, Bool.false_and]
        apply Nat.testBit_lt_two_pow
        have h3 := h k
        have h4 : 2 ^ 2 ≤ 2 ^ (j - 2 * k) := Nat.pow_le_pow_right (by decide) (by omega)
        have : (2 : Nat) ^ 2 = 4 := by decide
        omega
theorem sq_up4 {f : Nat → Nat} (h : ∀ d, f d < 4) {k v : Nat} (hv : v < 4) : ∀ d, sq_up f k v d < 4 := by
  intro d
  show (if d = k then v else f d) < 4
  split
  · exact hv
  · exact h d
theorem sq_put {f : Nat → Nat} (h : ∀ d, f d < 4) {k v : Nat} (hk : k < 9) (hv : v < 4) :
    (nI (sq_sm f 9) &&& (((3 : Int32) <<< (nI (2 * k) &&& 31)) ^^^ (-1))) ||| (nI v <<< (nI (2 * k) &&& 31)) = nI (sq_sm (sq_up f k v) 9) := by
  apply b_ext
  intro i hi
  rw [b_or, b_and, b_xor, b_m1 i hi, b_shl (2 * k) (by omega) _ hi, b_shl (2 * k) (by omega) _ hi, sq_btN _ hi, sq_btN _ hi, sq_sm_bit h, sq_sm_bit (sq_up4 h hv), sq_three (i - 2 * k) (by omega), sq_btN v (by omega), Bool.xor_true]
  by_cases h1 : i < 2 * 9
  · rw [decide_eq_true h1, Bool.true_and, Bool.true_and]
    by_cases e : i / 2 = k
    · have e1 : i - 2 * k = i % 2 := by omega
      rw [e, sq_up_s, decide_eq_true (by omega : 2 * k ≤ i), decide_eq_true (by omega : i - 2 * k < 2), e1]
      simp
    · rw [sq_up_n _ _ e]
      by_cases h2 : 2 * k ≤ i
      · rw [decide_eq_true h2, decide_eq_false (by omega : ¬ i - 2 * k < 2), Nat.testBit_lt_two_pow (x := v) (i := i - 2 * k) (by
          have h4 : 2 ^ 2 ≤ 2 ^ (i - 2 * k) := Nat.pow_le_pow_right (by decide) (by omega)
          have : (2 : Nat) ^ 2 = 4 := by decide
          omega)]
        simp
      · rw [decide_eq_false h2]
        simp
  · rw [decide_eq_false h1]
    by_cases h2 : 2 * k ≤ i
    · rw [Nat.testBit_lt_two_pow (x := v) (i := i - 2 * k) (by
          have h4 : 2 ^ 2 ≤ 2 ^ (i - 2 * k) := Nat.pow_le_pow_right (by decide) (by omega)
          have : (2 : Nat) ^ 2 = 4 := by decide
          omega)]
      simp
    · rw [decide_eq_false h2]
      simp
theorem sq_get {f : Nat → Nat} (h : ∀ d, f d < 4) {k : Nat} (hk : k < 9) : (nI (sq_sm f 9) >>> (nI (2 * k) &&& 31)) &&& 3 = nI (f k) := by
  apply b_ext
  intro i hi
  rw [b_and, b_sshr (2 * k) (by omega) _ hi, sq_three i hi, sq_btN _ hi]
  by_cases h1 : i < 2
  · rw [decide_eq_true h1, Bool.and_true, if_pos (by omega), sq_btN _ (by omega), sq_sm_bit h, decide_eq_true (by omega), Bool.true_and, show (2 * k + i) / 2 = k from by omega, show (2 * k + i) % 2 = i from by omega]
  · rw [decide_eq_false h1, Bool.and_false, Nat.testBit_lt_two_pow]
    have h3 := h k
    have h4 : 2 ^ 2 ≤ 2 ^ i := Nat.pow_le_pow_right (by decide) (by omega)
    have : (2 : Nat) ^ 2 = 4 := by decide
    omega
/-! rising sets -/
def sq_SS (f : Nat → Nat) (c : Nat) (P : Nat → Prop) : Prop := (∀ i j, i < j → j < c → f i < f j) ∧ ∀ o, P o ↔ ∃ i, i < c ∧ f i = o
theorem sq_SS_0 (f : Nat → Nat) {P : Nat → Prop} (h : ∀ o, ¬ P o) : sq_SS f 0 P := ⟨fun i j _ hj => by omega, fun o => ⟨fun z => absurd z (h o), fun ⟨i, hi, _⟩ => by omega⟩⟩
theorem sq_SS_c {f : Nat → Nat} {c : Nat} {P Q : Nat → Prop} (h : sq_SS f c P) (e : ∀ o, P o ↔ Q o) : sq_SS f c Q := ⟨h.1, fun o => (e o).symm.trans (h.2 o)⟩
theorem sq_SS_uniq {P : Nat → Prop} {f g : Nat → Nat} {c d : Nat} (hf : sq_SS f c P) (hg : sq_SS g d P) : c = d ∧ ∀ i, i < c → f i = g i := by
  have key : ∀ (f g : Nat → Nat) (c d : Nat), sq_SS f c P → sq_SS g d P → ∀ i, i < c → i < d ∧ f i = g i := by
    intro f g c d hf hg i
    induction i using Nat.strongRecOn with
    | ind i ih =>
      intro hi
      obtain ⟨j, hj, e⟩ := (hg.2 (f i)).mp ((hf.2 (f i)).mpr ⟨i, hi, rfl⟩)
      rcases Nat.lt_trichotomy j i with a | a | a
      · have h1 := (ih j a (by omega)).2
        have h2 := hf.1 j i a hi
        omega
      · subst a; exact ⟨hj, e.symm⟩
      · have hid : i < d := by omega
        refine ⟨hid, ?_⟩
        have h3 := hg.1 i j a hj
        obtain ⟨l, hl, e2⟩ := (hf.2 (g i)).mp ((hg.2 (g i)).mpr ⟨i, hid, rfl⟩)
        rcases Nat.lt_trichotomy l i with b | b | b
        · have h4 := ih l b (by omega)
          have h5 := hg.1 l i b hid
          omega
        · subst b; exact e2
        · have h4 := hf.1 i l b hl
          omega
  have h1 := key f g c d hf hg
  have h2 := key g f d c hg hf
  refine ⟨?_, fun i hi => (h1 i hi).2⟩
  rcases Nat.lt_trichotomy c d with a | a | a
  · have := (h2 c a).1; omega
  · exact a
  · have := (h1 d a).1; omega
/-- f with o put in at its place -/
def sq_pu (f : Nat → Nat) (c a o : Nat) : Nat → Nat := fun i => if i < a then f i else if i = a then o else if i ≤ c then f (i - 1) else f i
theorem sq_SS_in {f : Nat → Nat} {c a o : Nat} {P : Nat → Prop} (h : sq_SS f c P) (ha : a ≤ c) (hlo : ∀ i, i < a → f i < o) (hhi : a < c → o < f a) : sq_SS (sq_pu f c a o) (c + 1) (fun x => P x ∨ x = o) := by
  have v1 : ∀ i, i < a → sq_pu f c a o i = f i := fun i hi => if_pos hi
  have v2 : sq_pu f c a o a = o := by show (if a < a then _ else if a = a then o else _) = o; rw [if_neg (by omega), if_pos rfl]
  have v3 : ∀ i, a < i → i ≤ c → sq_pu f c a o i = f (i - 1) := by
    intro i h1 h2
    show (if i < a then _ else if i = a then o else if i ≤ c then f (i - 1) else _) = _
    rw [if_neg (by omega), if_neg (by omega), if_pos h2]
  have hup : ∀ i, a ≤ i → i < c → o < f i := by
    intro i h1 h2
    by_cases e : i = a
    · subst e; exact hhi h2
    · have h3 := h.1 a i (by omega) h2
      have h4 := hhi (by omega)
      omega
  constructor
  · intro i j hij hj
    by_cases ci : i < a
    · rw [v1 i ci]
      by_cases cj : j < a
      · rw [v1 j cj]; exact h.1 i j hij (by omega)
      · by_cases ej : j = a
        · rw [ej, v2]; exact hlo i ci
        · rw [v3 j (by omega) (by omega)]
          have h1 := hlo i ci
          have h2 := hup (j - 1) (by omega) (by omega)
          omega
    · by_cases ei : i = a
      · rw [ei, v2, v3 j (by omega) (by omega)]
        exact hup (j - 1) (by omega) (by omega)
      · rw [v3 i (by omega) (by omega), v3 j (by omega) (by omega)]
        exact h.1 (i - 1) (j - 1) (by omega) (by omega)
  · intro x
    constructor
    · rintro (hx | hx)
      · obtain ⟨i, hi, e⟩ := (h.2 x).mp hx
        by_cases ci : i < a
        · exact ⟨i, by omega, (v1 i ci).trans e⟩
        · exact ⟨i + 1, by omega, by rw [v3 (i + 1) (by omega) (by omega)]; exact e⟩
      · exact ⟨a, by omega, v2.trans hx.symm⟩
    · rintro ⟨i, hi, e⟩
      by_cases ci : i < a
      · left; exact (h.2 x).mpr ⟨i, by omega, (v1 i ci).symm.trans e⟩
      · by_cases ei : i = a
        · right; rw [← e, ei, v2]
        · left; exact (h.2 x).mpr ⟨i - 1, by omega, (v3 i (by omega) (by omega)).symm.trans e⟩
theorem sq_SS_old {f : Nat → Nat} {c o : Nat} {P : Nat → Prop} (h : sq_SS f c P) (ho : P o) : sq_SS f c (fun x => P x ∨ x = o) :=
  sq_SS_c h (fun x => ⟨Or.inl, fun z => z.elim id (fun e => by rw [e]; exact ho)⟩)
/-- f while the shift stands at i -/
def sq_ps (f : Nat → Nat) (c i : Nat) : Nat → Nat := fun j => if i < j ∧ j ≤ c then f (j - 1) else f j
theorem sq_ps_0 (f : Nat → Nat) (c : Nat) : sq_ps f c c = f := by
  funext j
  show (if c < j ∧ j ≤ c then f (j - 1) else f j) = f j
  rw [if_neg (by omega)]
theorem sq_ps_s (f : Nat → Nat) {c i : Nat} (hi : i < c) : sq_up (sq_ps f c (i + 1)) (i + 1) (sq_ps f c (i + 1) i) = sq_ps f c i := by
  have e0 : sq_ps f c (i + 1) i = f i := by show (if _ then _ else _) = _; rw [if_neg (by omega)]
  funext j
  rw [e0]
  show (if j = i + 1 then f i else (if i + 1 < j ∧ j ≤ c then f (j - 1) else f j)) = (if i < j ∧ j ≤ c then f (j - 1) else f j)
  by_cases e : j = i + 1
  · rw [if_pos e, if_pos (by omega), e]; rfl
  · rw [if_neg e]
    by_cases h : i < j ∧ j ≤ c
    · rw [if_pos h, if_pos (by omega)]
    · rw [if_neg h, if_neg (by omega)]
theorem sq_ps_e (f : Nat → Nat) (c a o : Nat) : sq_up (sq_ps f c a) a o = sq_pu f c a o := by
  funext j
  show (if j = a then o else (if a < j ∧ j ≤ c then f (j - 1) else f j)) = (if j < a then f j else if j = a then o else if j ≤ c then f (j - 1) else f j)
  by_cases e : j = a
  · rw [if_pos e, if_neg (by omega), if_pos e]
  · rw [if_neg e]
    by_cases h : j < a
    · rw [if_pos h, if_neg (by omega)]
    · rw [if_neg h, if_neg e]
      by_cases h2 : j ≤ c
      · rw [if_pos h2, if_pos (by omega)]
      · rw [if_neg h2, if_neg (by omega)]
