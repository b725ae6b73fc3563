/-! the program, the component's picture (an order of effects), the reference's picture (places and sources) -/
def sq_W (n : Nat) (ow kd vr vl : Nat → Nat) : Prop := n ≤ 6 ∧ (∀ i, ow i < 4) ∧ (∀ i, kd i < 3) ∧ (∀ i, vr i < 3) ∧ (∀ i, vl i < 4) ∧ (∀ i j, i < j → j < n → ow i ≤ ow j)
def sq_fb (ow kd vr vl : Nat → Nat) (d : Nat → Bool) (j v : Nat) : Nat → Nat
  | 0 => v
  | i + 1 => if ow i = ow j ∧ kd i = 0 ∧ vr i = vr j ∧ d i = false then vl i else sq_fb ow kd vr vl d j v i
theorem sq_fb_s (ow kd vr vl : Nat → Nat) (d : Nat → Bool) (j v i : Nat) : sq_fb ow kd vr vl d j v (i + 1) = if ow i = ow j ∧ kd i = 0 ∧ vr i = vr j ∧ d i = false then vl i else sq_fb ow kd vr vl d j v i := rfl
def sq_ll (kd : Nat → Nat) : Nat → Bool := fun i => decide (kd i = 1)
def sq_ls (kd : Nat → Nat) : Nat → Bool := fun i => decide (kd i = 0)
def sq_sl (kd vr : Nat → Nat) (i : Nat) : Nat := if kd i = 1 then sq_cn (sq_ll kd) i else 6 + vr i
def sq_fx (ow kd vr vl q : Nat → Nat) : Nat → Nat → Nat
  | 0 => fun _ => 0
  | t + 1 => if kd (q t) = 2 then sq_fx ow kd vr vl q t else sq_up (sq_fx ow kd vr vl q t) (sq_sl kd vr (q t)) (if kd (q t) = 0 then vl (q t) else sq_fb ow kd vr vl (sq_dn q t) (q t) (sq_fx ow kd vr vl q t (6 + vr (q t))) (q t))
theorem sq_fx_s (ow kd vr vl q : Nat → Nat) (t : Nat) : sq_fx ow kd vr vl q (t + 1) = if kd (q t) = 2 then sq_fx ow kd vr vl q t else sq_up (sq_fx ow kd vr vl q t) (sq_sl kd vr (q t)) (if kd (q t) = 0 then vl (q t) else sq_fb ow kd vr vl (sq_dn q t) (q t) (sq_fx ow kd vr vl q t (6 + vr (q t))) (q t)) := rfl
theorem sq_fb4 {ow kd vr vl : Nat → Nat} (hv : ∀ i, vl i < 4) (d : Nat → Bool) (j : Nat) {v : Nat} (h : v < 4) : ∀ i, sq_fb ow kd vr vl d j v i < 4 := by
  intro i
  induction i with
  | zero => exact h
  | succ i ih => rw [sq_fb_s]; split; exact hv i; exact ih
theorem sq_fx4 {ow kd vr vl : Nat → Nat} (hv : ∀ i, vl i < 4) (q : Nat → Nat) : ∀ t d, sq_fx ow kd vr vl q t d < 4 := by
  intro t
  induction t with
  | zero => intro d; show 0 < 4; decide
  | succ t ih =>
    rw [sq_fx_s]
    split
    · exact ih
    · refine sq_up4 ih ?_
      split
      · exact hv _
      · exact sq_fb4 hv _ _ (ih _) _
def sq_E (ow kd : Nat → Nat) (F : Nat → Bool) (i j : Nat) : Prop := i < j ∧ ow i = ow j ∧ (kd i ≠ 0 ∨ kd j ≠ 1 ∨ ∃ b, i ≤ b ∧ b < j ∧ F b = true)
def sq_va (n : Nat) (ow kd : Nat → Nat) (F : Nat → Bool) (q : Nat → Nat) : Prop := ∀ t, t < n → ∀ i, sq_E ow kd F i (q t) → sq_dn q t i = true
def sq_PX (n : Nat) (ow kd vr vl : Nat → Nat) (F : Nat → Bool) (o : Nat) : Prop := ∃ q, sq_pm n q ∧ sq_va n ow kd F q ∧ o = sq_sm (sq_fx ow kd vr vl q n) 9
def sq_vo (vl : Nat → Nat) : Option Nat → Nat
  | none => 0
  | some s => vl s
def sq_own (ow kd vr : Nat → Nat) (j i : Nat) : Prop := i < j ∧ kd i = 0 ∧ vr i = vr j ∧ ow i = ow j
def sq_src (n : Nat) (ow kd vr pos : Nat → Nat) (j : Nat) : Option Nat → Prop
  | none => (∀ i, i < n → kd i = 0 → vr i = vr j → ¬ pos i < pos j) ∧ (∀ i, sq_own ow kd vr j i → pos i < pos j)
  | some s => s < n ∧ kd s = 0 ∧ vr s = vr j ∧ ((s < j ∧ ow s = ow j ∧ pos j < pos s ∧ ∀ i, sq_own ow kd vr j i → s < i → pos i < pos j) ∨ (pos s < pos j ∧ (∀ i, sq_own ow kd vr j i → pos i < pos j) ∧ ∀ i, i < n → kd i = 0 → vr i = vr j → pos i < pos j → pos i ≤ pos s))
def sq_mem (n : Nat) (kd vr pos : Nat → Nat) (t x : Nat) : Option Nat → Prop
  | none => ∀ i, i < n → kd i = 0 → vr i = x → ¬ pos i < t
  | some s => s < n ∧ kd s = 0 ∧ vr s = x ∧ pos s < t ∧ ∀ i, i < n → kd i = 0 → vr i = x → pos i < t → pos i ≤ pos s
theorem sq_fb_sp (ow kd vr vl : Nat → Nat) (d : Nat → Bool) (j v : Nat) : ∀ l, (∃ s, s < l ∧ (ow s = ow j ∧ kd s = 0 ∧ vr s = vr j ∧ d s = false) ∧ (∀ i, s < i → i < l → ¬ (ow i = ow j ∧ kd i = 0 ∧ vr i = vr j ∧ d i = false)) ∧ sq_fb ow kd vr vl d j v l = vl s) ∨ ((∀ i, i < l → ¬ (ow i = ow j ∧ kd i = 0 ∧ vr i = vr j ∧ d i = false)) ∧ sq_fb ow kd vr vl d j v l = v) := by
  intro l
  induction l with
  | zero => right; exact ⟨fun i hi => by omega, rfl⟩
  | succ l ih =>
    rw [sq_fb_s]
    by_cases h : ow l = ow j ∧ kd l = 0 ∧ vr l = vr j ∧ d l = false
    · left
      exact ⟨l, by omega, h, fun i h1 h2 => by omega, by rw [if_pos h]⟩
    · rw [if_neg h]
      rcases ih with ⟨s, hs, hm, hl, e⟩ | ⟨hl, e⟩
      · left
        refine ⟨s, by omega, hm, fun i h1 h2 => ?_, e⟩
        by_cases ei : i = l
        · rw [ei]; exact h
        · exact hl i h1 (by omega)
      · right
        refine ⟨fun i hi => ?_, e⟩
        by_cases ei : i = l
        · rw [ei]; exact h
        · exact hl i (by omega)
theorem sq_dig {n : Nat} {ow kd vr vl q pos : Nat → Nat} (hn : n ≤ 6) (hk3 : ∀ i, kd i < 3) (hm : sq_pm n q) (hp : ∀ i, i < n → pos i < n ∧ q (pos i) = i) (hq : ∀ t, t < n → pos (q t) = t) :
    ∀ t, t ≤ n → (∀ x, ∃ o, sq_mem n kd vr pos t x o ∧ sq_fx ow kd vr vl q t (6 + x) = sq_vo vl o) ∧ (∀ j, j < n → kd j = 1 → pos j < t → ∃ o, sq_src n ow kd vr pos j o ∧ sq_fx ow kd vr vl q t (sq_sl kd vr j) = sq_vo vl o) ∧ (∀ k, k < 6 → (∀ j, j < n → kd j = 1 → sq_sl kd vr j = k → ¬ pos j < t) → sq_fx ow kd vr vl q t k = 0) := by
  intro t
  induction t with
  | zero =>
    intro _
    refine ⟨fun x => ⟨none, fun i _ _ _ => Nat.not_lt_zero _, rfl⟩, fun j _ _ h => absurd h (Nat.not_lt_zero _), fun k _ _ => rfl⟩
  | succ t ih =>
    intro ht
    obtain ⟨im, il, iz⟩ := ih (by omega)
    have hi := (hm t (by omega)).1
    have ei := hq t (by omega)
    have hdn : ∀ i, i < n → (sq_dn q t i = true ↔ pos i < t) := by
      intro i h
      rw [sq_dn_iff]
      constructor
      · rintro ⟨s, hs, e⟩
        rw [← e, hq s (by omega)]; exact hs
      · intro h2
        exact ⟨pos i, h2, (hp i h).2⟩
    have hs1 : ∀ i, i < n → pos i < t + 1 → pos i < t ∨ i = q t := by
      intro i h h2
      by_cases e : pos i = t
      · right; rw [← e]; exact (hp i h).2.symm
      · left; omega
    have hsl : ∀ j, j < n → kd j = 1 → sq_sl kd vr j < 6 := by
      intro j hj h1
      show (if kd j = 1 then sq_cn (sq_ll kd) j else 6 + vr j) < 6
      rw [if_pos h1]
      have := sq_cn_le (sq_ll kd) j
      omega
    rw [sq_fx_s]
    generalize hg : q t = g at *
    have hk := hk3 g
    by_cases c2 : kd g = 2
    · rw [if_pos c2]
      refine ⟨fun x => ?_, fun j hj h1 hjt => ?_, fun k hk6 hz => iz k hk6 (fun j a b c d => hz j a b c (by omega))⟩
      · obtain ⟨o, ho, e⟩ := im x
        refine ⟨o, ?_, e⟩
        cases o with
        | none =>
          intro i a b c d
          rcases hs1 i a d with z | z
          · exact ho i a b c z
          · rw [z, c2] at b; omega
        | some s =>
          obtain ⟨a1, a2, a3, a4, a5⟩ := ho
          refine ⟨a1, a2, a3, by omega, fun i a b c d => ?_⟩
          rcases hs1 i a d with z | z
          · exact a5 i a b c z
          · rw [z, c2] at b; omega
      · rcases hs1 j hj hjt with z | z
        · exact il j hj h1 z
        · rw [z, c2] at h1; omega
    · rw [if_neg c2]
      by_cases c0 : kd g = 0
      · have esl : sq_sl kd vr g = 6 + vr g := by
          show (if kd g = 1 then _ else _) = _
          rw [if_neg (by omega)]
        rw [if_pos c0, esl]
        refine ⟨fun x => ?_, fun j hj h1 hjt => ?_, fun k hk6 hz => ?_⟩
        · by_cases ex : x = vr g
          · refine ⟨some g, ⟨hi, c0, ex.symm, by omega, fun i a b c d => by omega⟩, ?_⟩
            rw [ex, sq_up_s]; rfl
          · obtain ⟨o, ho, e⟩ := im x
            refine ⟨o, ?_, ?_⟩
            · cases o with
              | none =>
                intro i a b c d
                rcases hs1 i a d with z | z
                · exact ho i a b c z
                · rw [z] at c; exact ex c.symm
              | some s =>
                obtain ⟨a1, a2, a3, a4, a5⟩ := ho
                refine ⟨a1, a2, a3, by omega, fun i a b c d => ?_⟩
                rcases hs1 i a d with z | z
                · exact a5 i a b c z
                · rw [z] at c; exact absurd c.symm ex
            · rw [sq_up_n _ _ (by omega)]; exact e
        · rcases hs1 j hj hjt with z | z
          · obtain ⟨o, ho, e⟩ := il j hj h1 z
            have h6 := hsl j hj h1
            exact ⟨o, ho, by rw [sq_up_n _ _ (by omega)]; exact e⟩
          · rw [z, c0] at h1; omega
        · rw [sq_up_n _ _ (by omega)]
          exact iz k hk6 (fun j a b c d => hz j a b c (by omega))
      · have c1 : kd g = 1 := by omega
        have esl : sq_sl kd vr g = sq_cn (sq_ll kd) g := if_pos c1
        have h6 := hsl g hi c1
        rw [if_neg c0]
        refine ⟨fun x => ?_, fun j hj h1 hjt => ?_, fun k hk6 hz => ?_⟩
        · obtain ⟨o, ho, e⟩ := im x
          refine ⟨o, ?_, ?_⟩
          · cases o with
            | none =>
              intro i a b c d
              rcases hs1 i a d with z | z
              · exact ho i a b c z
              · rw [z] at b; omega
            | some s =>
              obtain ⟨a1, a2, a3, a4, a5⟩ := ho
              refine ⟨a1, a2, a3, by omega, fun i a b c d => ?_⟩
              rcases hs1 i a d with z | z
              · exact a5 i a b c z
              · rw [z] at b; omega
          · rw [sq_up_n _ _ (by omega)]; exact e
        · by_cases ej : j = g
          · subst ej
            rw [sq_up_s]
            obtain ⟨o, ho, e⟩ := im (vr j)
            rw [e]
            rcases sq_fb_sp ow kd vr vl (sq_dn q t) j (sq_vo vl o) j with ⟨s, hs, ⟨m1, m2, m3, m4⟩, hl, ev⟩ | ⟨hl, ev⟩
            · refine ⟨some s, ⟨by omega, m2, m3, Or.inl ⟨hs, m1, ?_, ?_⟩⟩, ev⟩
              · have h1 : ¬ pos s < t := fun z => by
                  have := (hdn s (by omega)).mpr z
                  rw [m4] at this
                  exact absurd this (by decide)
                have h2 : pos s ≠ t := fun z => by
                  have := (hp s (by omega)).2
                  rw [z, hg] at this
                  omega
                omega
              · intro i ⟨o1, o2, o3, o4⟩ hsi
                have h1 := hl i hsi o1
                cases hd : sq_dn q t i
                · exact absurd ⟨o4, o2, o3, hd⟩ h1
                · rw [ei]; exact (hdn i (by omega)).mp hd
            · have hown : ∀ i, sq_own ow kd vr j i → pos i < pos j := by
                intro i ⟨o1, o2, o3, o4⟩
                have h1 := hl i o1
                cases hd : sq_dn q t i
                · exact absurd ⟨o4, o2, o3, hd⟩ h1
                · rw [ei]; exact (hdn i (by omega)).mp hd
              refine ⟨o, ?_, ev⟩
              cases o with
              | none =>
                refine ⟨fun i a b c => ?_, hown⟩
                rw [ei]; exact ho i a b c
              | some s =>
                obtain ⟨a1, a2, a3, a4, a5⟩ := ho
                refine ⟨a1, a2, a3, Or.inr ⟨by rw [ei]; exact a4, hown, fun i a b c d => a5 i a b c (by rw [ei] at d; exact d)⟩⟩
          · rcases hs1 j hj hjt with z | z
            · obtain ⟨o, ho, e⟩ := il j hj h1 z
              refine ⟨o, ho, ?_⟩
              rw [sq_up_n]
              · exact e
              · intro z2
                have z3 : sq_sl kd vr j = sq_cn (sq_ll kd) j := if_pos h1
                rw [z3, esl] at z2
                exact ej (sq_cn_inj (p := sq_ll kd) (decide_eq_true h1) (decide_eq_true c1) z2)
            · exact absurd z ej
        · have hne : k ≠ sq_sl kd vr g := fun z => hz g hi c1 z.symm (by omega)
          rw [sq_up_n _ _ hne]
          exact iz k hk6 (fun j a b c d => hz j a b c (by omega))
theorem sq_src_uniq {n : Nat} {ow kd vr pos : Nat → Nat} {j : Nat} (hj : j < n) (hinj : ∀ a b, a < n → b < n → pos a = pos b → a = b) {o1 o2 : Option Nat} (h1 : sq_src n ow kd vr pos j o1) (h2 : sq_src n ow kd vr pos j o2) : o1 = o2 := by
  have key : ∀ s, sq_src n ow kd vr pos j none → sq_src n ow kd vr pos j (some s) → False := by
    intro s ⟨a1, a2⟩ ⟨b1, b2, b3, b4⟩
    rcases b4 with ⟨c1, c2, c3, c4⟩ | ⟨c1, c2, c3⟩
    · have := a2 s ⟨c1, b2, b3, c2⟩; omega
    · exact a1 s b1 b2 b3 c1
  cases o1 with
  | none =>
    cases o2 with
    | none => rfl
    | some s => exact (key s h1 h2).elim
  | some s =>
    cases o2 with
    | none => exact (key s h2 h1).elim
    | some r =>
      obtain ⟨a1, a2, a3, a4⟩ := h1
      obtain ⟨b1, b2, b3, b4⟩ := h2
      have : s = r := by
        rcases a4 with ⟨c1, c2, c3, c4⟩ | ⟨c1, c2, c3⟩
        · rcases b4 with ⟨d1, d2, d3, d4⟩ | ⟨d1, d2, d3⟩
          · rcases Nat.lt_trichotomy s r with z | z | z
            · have := c4 r ⟨d1, b2, b3, d2⟩ z; omega
            · exact z
            · have := d4 s ⟨c1, a2, a3, c2⟩ z; omega
          · have := d2 s ⟨c1, a2, a3, c2⟩; omega
        · rcases b4 with ⟨d1, d2, d3, d4⟩ | ⟨d1, d2, d3⟩
          · have := c2 r ⟨d1, b2, b3, d2⟩; omega
          · have e1 := c3 r b1 b2 b3 d1
            have e2 := d3 s a1 a2 a3 c1
            exact hinj s r a1 b1 (by omega)
      rw [this]
theorem sq_mem_uniq {n : Nat} {kd vr pos : Nat → Nat} {t x : Nat} (hinj : ∀ a b, a < n → b < n → pos a = pos b → a = b) {o1 o2 : Option Nat} (h1 : sq_mem n kd vr pos t x o1) (h2 : sq_mem n kd vr pos t x o2) : o1 = o2 := by
  cases o1 with
  | none =>
    cases o2 with
    | none => rfl
    | some s => obtain ⟨a1, a2, a3, a4, a5⟩ := h2; exact (h1 s a1 a2 a3 a4).elim
  | some s =>
    obtain ⟨a1, a2, a3, a4, a5⟩ := h1
    cases o2 with
    | none => exact (h2 s a1 a2 a3 a4).elim
    | some r =>
      obtain ⟨b1, b2, b3, b4, b5⟩ := h2
      have e1 := a5 r b1 b2 b3 b4
      have e2 := b5 s a1 a2 a3 a4
      rw [hinj s r a1 b1 (by omega)]
/-! the reference's conditions, by instructions -/
def sq_MF (n : Nat) (ow kd vr P : Nat → Nat) (j : Nat) : Option Nat → Prop
  | none => ∀ i, ¬ sq_own ow kd vr j i
  | some s => s < n ∧ kd s = 0 ∧ vr s = vr j ∧ ¬ (ow s = ow j ∧ j < s) ∧ ∀ i, sq_own ow kd vr j i → (∀ l, sq_own ow kd vr j l → l ≤ i) → P i ≤ P s
def sq_R0 (n : Nat) (ow kd : Nat → Nat) (S : Bool) (F : Nat → Bool) (a b : Nat) : Prop := a < b ∧ b < n ∧ ow a = ow b ∧ ¬ (kd a = 0 ∧ kd b = 1 ∧ S = false ∧ ∀ i, a ≤ i → i < b → F i = false ∧ kd i ≠ 2)
def sq_R (n : Nat) (ow kd vr P : Nat → Nat) (Fo : Nat → Option Nat) (S : Bool) (F : Nat → Bool) (a b : Nat) : Prop :=
  sq_R0 n ow kd S F a b ∨ (a < n ∧ b < n ∧ kd a = 0 ∧ kd b = 0 ∧ vr a = vr b ∧ P a < P b) ∨ (b < n ∧ kd b = 1 ∧ Fo b = some a ∧ (S = true ∨ ow a ≠ ow b)) ∨ (a < n ∧ kd a = 1 ∧ b < n ∧ kd b = 0 ∧ vr b = vr a ∧ ∀ s, Fo a = some s → P s < P b)
def sq_mx (n : Nat) (kd vr P : Nat → Nat) (x : Nat) : Option Nat → Prop
  | none => ∀ i, i < n → kd i = 0 → vr i ≠ x
  | some s => s < n ∧ kd s = 0 ∧ vr s = x ∧ ∀ i, i < n → kd i = 0 → vr i = x → P i ≤ P s
def sq_dg (n : Nat) (kd vr vl P : Nat → Nat) (Fo : Nat → Option Nat) (f : Nat → Nat) : Prop :=
  (∀ j, j < n → kd j = 1 → f (sq_sl kd vr j) = sq_vo vl (Fo j)) ∧ (∀ k, k < 6 → (∀ j, j < n → kd j = 1 → sq_sl kd vr j ≠ k) → f k = 0) ∧ (∀ x, x < 3 → ∃ o, sq_mx n kd vr P x o ∧ f (6 + x) = sq_vo vl o)
/-- what the reference asks of places and sources -/
def sq_ok (n : Nat) (ow kd vr : Nat → Nat) (S : Bool) (F : Nat → Bool) (P : Nat → Nat) (Fo : Nat → Option Nat) : Prop :=
  (∀ j, j < n → kd j = 1 → sq_MF n ow kd vr P j (Fo j)) ∧ ∃ pos, sq_pm n pos ∧ ∀ a b, a < n → b < n → sq_R n ow kd vr P Fo S F a b → pos a < pos b
/-- nothing is said where there is no store, no load -/
def sq_cl (n : Nat) (kd P : Nat → Nat) (Fo : Nat → Option Nat) : Prop := (∀ a, ¬ (a < n ∧ kd a = 0) → P a = 0) ∧ (∀ j, ¬ (j < n ∧ kd j = 1) → Fo j = none)
def sq_PY (n : Nat) (ow kd vr vl : Nat → Nat) (S : Bool) (F : Nat → Bool) (o : Nat) : Prop :=
  ∃ P Fo f, sq_cl n kd P Fo ∧ (∀ a, a < n → kd a = 0 → P a < sq_cn (sq_ls kd) n) ∧ (∀ a b, a < n → b < n → kd a = 0 → kd b = 0 → P a = P b → a = b) ∧ sq_ok n ow kd vr S F P Fo ∧ sq_dg n kd vr vl P Fo f ∧ o = sq_sm f 9
theorem sq_last (p : Nat → Prop) : ∀ j, (∃ i, i < j ∧ p i) → ∃ i, i < j ∧ p i ∧ ∀ l, l < j → p l → l ≤ i := by
  intro j
  induction j with
  | zero => rintro ⟨i, h, _⟩; omega
  | succ j ih =>
    rintro ⟨i, h, hp⟩
    by_cases hj : p j
    · exact ⟨j, by omega, hj, fun l hl _ => by omega⟩
    · have hij : i ≠ j := fun e => hj (e ▸ hp)
      obtain ⟨r, a, b, c⟩ := ih ⟨i, by omega, hp⟩
      refine ⟨r, by omega, b, fun l hl hpl => ?_⟩
      have : l ≠ j := fun e => hj (e ▸ hpl)
      exact c l (by omega) hpl
theorem sq_pm_inj {n : Nat} {pos : Nat → Nat} (h : sq_pm n pos) : ∀ a b, a < n → b < n → pos a = pos b → a = b := by
  intro a b ha hb e
  rcases Nat.lt_trichotomy a b with z | z | z
  · exact absurd e (sq_pm_ne h z hb)
  · exact z
  · exact absurd e.symm (sq_pm_ne h z ha)
theorem sq_back {n : Nat} {ow kd vr P pos : Nat → Nat} {Fo : Nat → Option Nat} {S : Bool} {F : Nat → Bool} (hm : sq_pm n pos) (hP : ∀ a b, a < n → b < n → kd a = 0 → kd b = 0 → P a = P b → a = b) (hR : ∀ a b, a < n → b < n → sq_R n ow kd vr P Fo S F a b → pos a < pos b) {j : Nat} (hj : j < n) (h1 : kd j = 1) (hF : sq_MF n ow kd vr P j (Fo j)) : sq_src n ow kd vr pos j (Fo j) := by
  have hinj := sq_pm_inj hm
  have hss : ∀ a b, a < b → b < n → ow a = ow b → kd b = 0 → pos a < pos b := by
    intro a b x1 x2 x3 x4
    exact hR a b (by omega) x2 (Or.inl ⟨x1, x2, x3, fun z => by omega⟩)
  have hco : ∀ a b, a < n → b < n → kd a = 0 → kd b = 0 → vr a = vr b → P a < P b → pos a < pos b := by
    intro a b x1 x2 x3 x4 x5 x6
    exact hR a b x1 x2 (Or.inr (Or.inl ⟨x1, x2, x3, x4, x5, x6⟩))
  have hfr : ∀ b, b < n → kd b = 0 → vr b = vr j → (∀ s, Fo j = some s → P s < P b) → pos j < pos b := by
    intro b x1 x2 x3 x4
    exact hR j b hj x1 (Or.inr (Or.inr (Or.inr ⟨hj, h1, x1, x2, x3, x4⟩)))
  cases hf : Fo j with
  | none =>
    rw [hf] at hF
    refine ⟨fun i a b c d => ?_, fun i z => absurd z (hF i)⟩
    have := hfr i a b c (fun s z => by rw [hf] at z; exact absurd z (by simp))
    omega
  | some s =>
    rw [hf] at hF
    obtain ⟨f1, f2, f3, f4, f5⟩ := hF
    have hmax : ∀ i, i < n → kd i = 0 → vr i = vr j → pos i < pos j → pos i ≤ pos s := by
      intro i a b c d
      rcases Nat.lt_trichotomy (P i) (P s) with z | z | z
      · exact Nat.le_of_lt (hco i s a f1 b f2 (by omega) z)
      · rw [hP i s a f1 b f2 z]; exact Nat.le_refl _
      · have := hfr i a b c (fun r hr => by
          have e := hf.symm.trans hr
          injection e with e'
          rw [← e']; exact z)
        omega
    have hsj : s ≠ j := fun e => by rw [e] at f2; omega
    refine ⟨f1, f2, f3, ?_⟩
    by_cases ho : ow s = ow j
    · have hs : s < j := by
        have : ¬ j < s := fun z => f4 ⟨ho, z⟩
        omega
      have own_s : sq_own ow kd vr j s := ⟨hs, f2, f3, ho⟩
      obtain ⟨l, l1, l2, l3⟩ := sq_last (sq_own ow kd vr j) j ⟨s, hs, own_s⟩
      have l4 : ∀ i, sq_own ow kd vr j i → i ≤ l := fun i hi => l3 i hi.1 hi
      have l5 := f5 l l2 l4
      have l6 := l4 s own_s
      have e : s = l := by
        rcases Nat.lt_or_ge s l with z | z
        · have p1 := hss s l z (by omega) (by rw [ho, l2.2.2.2]) l2.2.1
          rcases Nat.lt_or_ge (P l) (P s) with y | y
          · have := hco l s (by omega) f1 l2.2.1 f2 (by rw [l2.2.2.1, f3]) y
            omega
          · exact hP s l f1 (by omega) f2 l2.2.1 (by omega)
        · omega
      rcases Nat.lt_trichotomy (pos s) (pos j) with z | z | z
      · right
        refine ⟨z, fun i hi => ?_, hmax⟩
        have h2 := l4 i hi
        by_cases ei : i = s
        · rw [ei]; exact z
        · have := hss i s (by omega) f1 (by rw [hi.2.2.2, ho]) f2
          omega
      · exact absurd (hinj s j f1 hj z) hsj
      · left
        refine ⟨hs, ho, z, fun i hi hsi => ?_⟩
        have := l4 i hi
        omega
    · right
      have hrf : pos s < pos j := hR s j f1 hj (Or.inr (Or.inr (Or.inl ⟨hj, h1, hf, Or.inr ho⟩)))
      refine ⟨hrf, fun i hi => ?_, hmax⟩
      obtain ⟨l, l1, l2, l3⟩ := sq_last (sq_own ow kd vr j) j ⟨i, hi.1, hi⟩
      have l4 : ∀ i, sq_own ow kd vr j i → i ≤ l := fun i hi => l3 i hi.1 hi
      have l5 := f5 l l2 l4
      have hls : l ≠ s := fun e => ho (by rw [← e]; exact l2.2.2.2)
      have l7 : P l ≠ P s := fun e => hls (hP l s (by omega) f1 l2.2.1 f2 e)
      have l6 := hco l s (by omega) f1 l2.2.1 f2 (by rw [l2.2.2.1, f3]) (by omega)
      have l8 := l4 i hi
      by_cases ei : i = l
      · rw [ei]; omega
      · have := hss i l (by omega) (by omega) (by rw [hi.2.2.2, l2.2.2.2]) l2.2.1
        omega
theorem sq_forw {n : Nat} {ow kd vr P pos : Nat → Nat} {Fo : Nat → Option Nat} {S : Bool} {F : Nat → Bool} (hk3 : ∀ i, kd i < 3) (hm : sq_pm n pos) (hPo : ∀ a b, a < n → b < n → kd a = 0 → kd b = 0 → (P a < P b ↔ pos a < pos b)) (hR0 : ∀ a b, sq_R0 n ow kd S F a b → pos a < pos b) (hs : ∀ j, j < n → kd j = 1 → sq_src n ow kd vr pos j (Fo j)) : sq_ok n ow kd vr S F P Fo := by
  have hinj := sq_pm_inj hm
  have hss : ∀ a b, a < b → b < n → ow a = ow b → (kd a ≠ 0 ∨ kd b ≠ 1 ∨ S = true) → pos a < pos b := by
    intro a b x1 x2 x3 x4
    refine hR0 a b ⟨x1, x2, x3, fun z => ?_⟩
    rcases x4 with y | y | y
    · exact y z.1
    · exact y z.2.1
    · rw [y] at z; exact absurd z.2.2.1 (by decide)
  refine ⟨?_, pos, hm, ?_⟩
  · intro j hj h1
    have h := hs j hj h1
    cases hf : Fo j with
    | none =>
      rw [hf] at h
      intro i hi
      exact h.1 i (by have := hi.1; omega) hi.2.1 hi.2.2.1 (h.2 i hi)
    | some s =>
      rw [hf] at h
      obtain ⟨f1, f2, f3, f4⟩ := h
      refine ⟨f1, f2, f3, ?_, ?_⟩
      · rintro ⟨y1, y2⟩
        have := hss j s y2 f1 y1.symm (Or.inl (by omega))
        rcases f4 with ⟨c1, _⟩ | ⟨c1, _⟩ <;> omega
      · intro i hi _
        have hle : pos i ≤ pos s := by
          rcases f4 with ⟨c1, c2, c3, c4⟩ | ⟨c1, c2, c3⟩
          · rcases Nat.lt_trichotomy i s with z | z | z
            · exact Nat.le_of_lt (hss i s z f1 (by rw [hi.2.2.2, c2]) (Or.inr (Or.inl (by omega))))
            · rw [z]; exact Nat.le_refl _
            · have := c4 i hi z; omega
          · exact c3 i (by have := hi.1; omega) hi.2.1 hi.2.2.1 (c2 i hi)
        have := hPo s i f1 (by have := hi.1; omega) f2 hi.2.1
        omega
  · intro a b ha hb hr
    rcases hr with h | ⟨_, _, x3, x4, x5, x6⟩ | ⟨_, x2, x3, x4⟩ | ⟨_, x2, _, x4, x5, x6⟩
    · exact hR0 a b h
    · exact (hPo a b ha hb x3 x4).mp x6
    · have h := hs b hb x2
      rw [x3] at h
      obtain ⟨f1, f2, f3, f4⟩ := h
      rcases f4 with ⟨c1, c2, c3, c4⟩ | ⟨c1, c2, c3⟩
      · rcases x4 with y | y
        · exact hss a b c1 hb c2 (Or.inr (Or.inr y))
        · exact absurd c2 y
      · exact c1
    · have h := hs a ha x2
      have hne : pos a ≠ pos b := fun e => by
        have := hinj a b ha hb e
        rw [this] at x2; omega
      cases hf : Fo a with
      | none =>
        rw [hf] at h
        have := h.1 b hb x4 x5
        omega
      | some s =>
        rw [hf] at h
        obtain ⟨f1, f2, f3, f4⟩ := h
        have h3 := (hPo s b f1 hb f2 x4).mp (x6 s hf)
        rcases f4 with ⟨c1, c2, c3, c4⟩ | ⟨c1, c2, c3⟩
        · omega
        · rcases Nat.lt_or_ge (pos b) (pos a) with z | z
          · have := c3 b hb x4 x5 z; omega
          · omega
theorem sq_same {n : Nat} {ow kd vr vl P q pos f : Nat → Nat} {Fo : Nat → Option Nat} (hn : n ≤ 6) (hk3 : ∀ i, kd i < 3) (hm : sq_pm n q) (hp : ∀ i, i < n → pos i < n ∧ q (pos i) = i) (hq : ∀ t, t < n → pos (q t) = t) (hinj : ∀ a b, a < n → b < n → pos a = pos b → a = b)
    (hPo : ∀ a b, a < n → b < n → kd a = 0 → kd b = 0 → vr a = vr b → pos a < pos b → P a < P b) (hs : ∀ j, j < n → kd j = 1 → sq_src n ow kd vr pos j (Fo j)) (hd : sq_dg n kd vr vl P Fo f) : ∀ d, d < 9 → sq_fx ow kd vr vl q n d = f d := by
  obtain ⟨dm, dl, dz⟩ := sq_dig (ow := ow) (vr := vr) (vl := vl) hn hk3 hm hp hq n (Nat.le_refl _)
  obtain ⟨g1, g2, g3⟩ := hd
  intro d h9
  by_cases h6 : d < 6
  · by_cases hx : ∃ j, j < n ∧ kd j = 1 ∧ sq_sl kd vr j = d
    · obtain ⟨j, hj, h1, e⟩ := hx
      obtain ⟨o, ho, eo⟩ := dl j hj h1 (hp j hj).1
      have := sq_src_uniq hj hinj ho (hs j hj h1)
      rw [← e, eo, g1 j hj h1, this]
    · have hx' : ∀ j, j < n → kd j = 1 → sq_sl kd vr j ≠ d := fun j a b c => hx ⟨j, a, b, c⟩
      rw [dz d h6 (fun j a b c => absurd c (hx' j a b)), g2 d h6 hx']
  · have ed : d = 6 + (d - 6) := by omega
    rw [ed]
    generalize hx : d - 6 = x
    obtain ⟨o, ho, eo⟩ := dm x
    obtain ⟨o', ho', eo'⟩ := g3 x (by omega)
    have : sq_mem n kd vr pos n x o' := by
      cases o' with
      | none => exact fun i a b c => absurd c (ho' i a b)
      | some s =>
        obtain ⟨b1, b2, b3, b4⟩ := ho'
        refine ⟨b1, b2, b3, (hp s b1).1, fun i a b c _ => ?_⟩
        rcases Nat.lt_or_ge (pos s) (pos i) with z | z
        · have h2 := hPo s i b1 a b2 b (by rw [b3, c]) z
          have h3 := b4 i a b c
          omega
        · exact z
    rw [eo, eo', sq_mem_uniq hinj ho this]
theorem sq_bridge {n : Nat} {ow kd vr vl : Nat → Nat} (hW : sq_W n ow kd vr vl) {S : Bool} {F X : Nat → Bool} (hX : (S = true ∧ ∀ b, b < 5 → X b = true) ∨ (S = false ∧ ∀ b, b < 5 → X b = F b)) : ∀ o, sq_PX n ow kd vr vl X o ↔ sq_PY n ow kd vr vl S F o := by
  obtain ⟨hn, _, hk3, hv3, _, hso⟩ := hW
  intro o
  constructor
  · rintro ⟨q, hm, hva, eo⟩
    obtain ⟨pos, hpm, hqp, hpq⟩ := sq_pm_inv hm
    have hp : ∀ i, i < n → pos i < n ∧ q (pos i) = i := fun i hi => ⟨(hpm i hi).1, hqp i hi⟩
    have hinj := sq_pm_inj hpm
    have hE : ∀ i j, j < n → sq_E ow kd X i j → pos i < pos j := by
      intro i j hj h
      have h1 := hva (pos j) (hp j hj).1 i (by rw [(hp j hj).2]; exact h)
      obtain ⟨s, hs, e⟩ := (sq_dn_iff q (pos j) i).mp h1
      have := (hp j hj).1
      rw [← e, hpq s (by omega)]
      exact hs
    have hR0 : ∀ a b, sq_R0 n ow kd S F a b → pos a < pos b := by
      intro a b ⟨x1, x2, x3, x4⟩
      by_cases c : kd a ≠ 0 ∨ kd b ≠ 1
      · refine hE a b x2 ⟨x1, x3, ?_⟩
        rcases c with y | y
        · exact Or.inl y
        · exact Or.inr (Or.inl y)
      · have ca : kd a = 0 := by omega
        have cb : kd b = 1 := by omega
        rcases hX with ⟨hS, hb⟩ | ⟨hS, hb⟩
        · exact hE a b x2 ⟨x1, x3, Or.inr (Or.inr ⟨a, by omega, x1, hb a (by omega)⟩)⟩
        · by_cases hz : ∃ i, a ≤ i ∧ i < b ∧ X i = true
          · exact hE a b x2 ⟨x1, x3, Or.inr (Or.inr hz)⟩
          · have hy : ∃ i, a ≤ i ∧ i < b ∧ kd i = 2 := by
              refine Classical.byContradiction fun hno => x4 ⟨ca, cb, hS, fun i y1 y2 => ⟨?_, ?_⟩⟩
              · cases hf : F i
                · rfl
                · exact absurd ⟨i, y1, y2, by rw [hb i (by omega)]; exact hf⟩ hz
              · exact fun e => hno ⟨i, y1, y2, e⟩
            obtain ⟨i, y1, y2, y3⟩ := hy
            have hai : a ≠ i := fun e => by rw [e] at ca; omega
            have o1 := hso a i (by omega) (by omega)
            have o2 := hso i b y2 x2
            have p1 := hE a i (by omega) ⟨by omega, by omega, Or.inr (Or.inl (by omega))⟩
            have p2 := hE i b x2 ⟨y2, by omega, Or.inl (by omega)⟩
            omega
    obtain ⟨dm, dl, dz⟩ := sq_dig (ow := ow) (vr := vr) (vl := vl) hn hk3 hm hp hpq n (Nat.le_refl _)
    have hch : ∀ j, ∃ o, (j < n → kd j = 1 → sq_src n ow kd vr pos j o ∧ sq_fx ow kd vr vl q n (sq_sl kd vr j) = sq_vo vl o) ∧ (¬ (j < n ∧ kd j = 1) → o = none) := by
      intro j
      by_cases c : j < n ∧ kd j = 1
      · obtain ⟨o, h⟩ := dl j c.1 c.2 (hp j c.1).1
        exact ⟨o, fun _ _ => h, fun z => absurd c z⟩
      · exact ⟨none, fun a b => absurd ⟨a, b⟩ c, fun _ => rfl⟩
    have hFo := fun j => (Classical.choose_spec (hch j)).1
    have hFc := fun j => (Classical.choose_spec (hch j)).2
    have hrk := sq_rank (N := n) (key := pos) (p := sq_ls kd) (fun i j a b _ _ e => hinj i j a b e)
    have hls : ∀ a, kd a = 0 → sq_ls kd a = true := fun a h => decide_eq_true h
    obtain ⟨P, hPc, hPv⟩ : ∃ P : Nat → Nat, (∀ a, ¬ (a < n ∧ kd a = 0) → P a = 0) ∧ ∀ a, a < n → kd a = 0 → P a = sq_cn (fun j => sq_ls kd j && decide (pos j < pos a)) n :=
      ⟨fun a => if a < n ∧ kd a = 0 then sq_cn (fun j => sq_ls kd j && decide (pos j < pos a)) n else 0, fun a h => if_neg h, fun a x y => if_pos ⟨x, y⟩⟩
    have hPo : ∀ a b, a < n → b < n → kd a = 0 → kd b = 0 → (P a < P b ↔ pos a < pos b) := by
      intro a b x y z w
      rw [hPv a x z, hPv b y w]
      exact hrk.2 a b x y (hls a z) (hls b w)
    have hPi : ∀ a b, a < n → b < n → kd a = 0 → kd b = 0 → P a = P b → a = b := by
      intro a b x y z w e
      have h1 := hPo a b x y z w
      have h2 := hPo b a y x w z
      exact hinj a b x y (by omega)
    refine ⟨P, fun j => Classical.choose (hch j), sq_fx ow kd vr vl q n, ⟨hPc, hFc⟩, fun a x y => by rw [hPv a x y]; exact hrk.1 a x (hls a y), hPi, ?_, ⟨fun j x y => (hFo j x y).2, fun k hk hz => dz k hk (fun j x y z => absurd z (hz j x y)), fun x hx => ?_⟩, eo⟩
    · exact sq_forw hk3 hpm hPo hR0 (fun j x y => (hFo j x y).1)
    · obtain ⟨o, ho, e⟩ := dm x
      refine ⟨o, ?_, e⟩
      cases o with
      | none => exact fun i a b c => ho i a b c (hp i a).1
      | some s =>
        obtain ⟨b1, b2, b3, b4, b5⟩ := ho
        refine ⟨b1, b2, b3, fun i a b c => ?_⟩
        have h1 := b5 i a b c (hp i a).1
        have h2 := hPo s i b1 a b2 b
        omega
  · rintro ⟨P, Fo, f, _, hP1, hP2, ⟨hMF, pos, hpm, hR⟩, hd, eo⟩
    obtain ⟨q, hm, hpq, hqp⟩ := sq_pm_inv hpm
    have hp : ∀ i, i < n → pos i < n ∧ q (pos i) = i := fun i hi => ⟨(hpm i hi).1, hqp i hi⟩
    have hinj := sq_pm_inj hpm
    refine ⟨q, hm, ?_, ?_⟩
    · intro t ht i hE
      have hqt := (hm t ht).1
      obtain ⟨x1, x2, x3⟩ := hE
      have h1 : pos i < pos (q t) := by
        refine hR i (q t) (by omega) hqt (Or.inl ⟨x1, hqt, x2, fun z => ?_⟩)
        rcases x3 with y | y | ⟨b, y1, y2, y3⟩
        · exact y z.1
        · exact y z.2.1
        · rcases hX with ⟨hS, _⟩ | ⟨hS, hb⟩
          · rw [hS] at z; exact absurd z.2.2.1 (by decide)
          · have h2 := (z.2.2.2 b y1 y2).1
            rw [hb b (by omega), h2] at y3
            exact absurd y3 (by decide)
      rw [hpq t ht] at h1
      exact (sq_dn_iff q t i).mpr ⟨pos i, h1, (hp i (by omega)).2⟩
    · rw [eo]
      apply sq_sm_ext
      intro d hd9
      refine (sq_same hn hk3 hm hp hpq hinj ?_ (fun j x y => sq_back hpm hP2 hR x y (hMF j x y)) hd d hd9).symm
      intro a b x y z w v h
      rcases Nat.lt_trichotomy (P a) (P b) with c | c | c
      · exact c
      · have := hP2 a b x y z w c
        rw [this] at h; omega
      · have := hR b a y x (Or.inr (Or.inl ⟨y, x, w, z, v.symm, c⟩))
        omega
