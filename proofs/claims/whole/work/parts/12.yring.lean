/-! the reference: hasRing (Warshall) and isAllowed -/
def sq_wr (A : Nat → Int32) (k a : Nat) : Nat → Int32 := fun x => if x < a ∧ bt (A x) k = true then A x ||| A k else A x
theorem sq_wr_0 (A : Nat → Int32) (k : Nat) : sq_wr A k 0 = A := by
  funext x
  show (if x < 0 ∧ bt (A x) k = true then A x ||| A k else A x) = A x
  rw [if_neg (by omega)]
theorem sq_orI (x : Int32) : x ||| x = x := by
  apply b_ext
  intro i _
  rw [b_or, Bool.or_self]
theorem sq_wr_k (A : Nat → Int32) (k a : Nat) : sq_wr A k a k = A k := by
  show (if k < a ∧ bt (A k) k = true then A k ||| A k else A k) = A k
  rw [sq_orI]
  split <;> rfl
theorem sq_wr_a (A : Nat → Int32) (k a : Nat) : sq_wr A k a a = A a := by
  show (if a < a ∧ bt (A a) k = true then A a ||| A k else A a) = A a
  rw [if_neg (by omega)]
theorem sq_wr_t (A : Nat → Int32) {k a : Nat} (h : bt (A a) k = true) : upd (sq_wr A k a) a (sq_wr A k a a ||| sq_wr A k a k) = sq_wr A k (a + 1) := by
  rw [sq_wr_k, sq_wr_a]
  funext x
  show (if x = a then A a ||| A k else if x < a ∧ bt (A x) k = true then A x ||| A k else A x) = (if x < a + 1 ∧ bt (A x) k = true then A x ||| A k else A x)
  by_cases e : x = a
  · rw [if_pos e, e, if_pos ⟨by omega, h⟩]
  · rw [if_neg e]
    by_cases c : x < a ∧ bt (A x) k = true
    · rw [if_pos c, if_pos ⟨by omega, c.2⟩]
    · rw [if_neg c, if_neg (fun z => c ⟨by omega, z.2⟩)]
theorem sq_wr_f (A : Nat → Int32) {k a : Nat} (h : ¬ bt (A a) k = true) : upd (sq_wr A k a) a (sq_wr A k a a) = sq_wr A k (a + 1) := by
  rw [sq_updS]
  funext x
  show (if x < a ∧ bt (A x) k = true then A x ||| A k else A x) = (if x < a + 1 ∧ bt (A x) k = true then A x ||| A k else A x)
  by_cases c : x < a ∧ bt (A x) k = true
  · rw [if_pos c, if_pos ⟨by omega, c.2⟩]
  · rw [if_neg c, if_neg]
    intro z
    by_cases e : x = a
    · rw [e] at z; exact h z.2
    · exact c ⟨by omega, z.2⟩
theorem sq_wr_b (A : Nat → Int32) {n k x c : Nat} (hx : x < n) : bt (sq_wr A k n x) c = true ↔ bt (A x) c = true ∨ (bt (A x) k = true ∧ bt (A k) c = true) := by
  show bt (if x < n ∧ bt (A x) k = true then A x ||| A k else A x) c = true ↔ _
  by_cases h : bt (A x) k = true
  · rw [if_pos ⟨hx, h⟩, b_or, Bool.or_eq_true]
    exact ⟨fun z => z.imp id (fun y => ⟨h, y⟩), fun z => z.imp id (fun y => y.2)⟩
  · rw [if_neg (fun z => h z.2)]
    exact ⟨Or.inl, fun z => z.elim id (fun y => absurd y.1 h)⟩
def sq_wa (n : Nat) (A : Nat → Int32) : Nat → Nat → Int32
  | 0 => A
  | k + 1 => sq_wr (sq_wa n A k) k n
theorem sq_wa_s (n : Nat) (A : Nat → Int32) (k : Nat) : sq_wa n A (k + 1) = sq_wr (sq_wa n A k) k n := rfl
theorem sq_wa_m {n : Nat} {A : Nat → Int32} {x c : Nat} (hx : x < n) (h : bt (A x) c = true) : ∀ k, bt (sq_wa n A k x) c = true := by
  intro k
  induction k with
  | zero => exact h
  | succ k ih => rw [sq_wa_s, sq_wr_b _ hx]; exact Or.inl ih
theorem sq_wa_p {n : Nat} {A : Nat → Int32} {pos : Nat → Nat} (h : ∀ x c, x < n → bt (A x) c = true → c < n ∧ pos x < pos c) : ∀ k, k ≤ n → ∀ x c, x < n → bt (sq_wa n A k x) c = true → c < n ∧ pos x < pos c := by
  intro k
  induction k with
  | zero => intro _; exact h
  | succ k ih =>
    intro hk x c hx hb
    rw [sq_wa_s, sq_wr_b _ hx] at hb
    rcases hb with hb | ⟨h1, h2⟩
    · exact ih (by omega) x c hx hb
    · have a := ih (by omega) x k hx h1
      have b := ih (by omega) k c (by omega) h2
      exact ⟨b.1, by omega⟩
theorem sq_wa_t {n : Nat} {A : Nat → Int32} : ∀ k, k ≤ n → ∀ x j c, x < n → j < k → bt (sq_wa n A k x) j = true → bt (sq_wa n A k j) c = true → bt (sq_wa n A k x) c = true := by
  intro k
  induction k with
  | zero => intro _ x j c _ hj; omega
  | succ k ih =>
    intro hk x j c hx hj h1 h2
    have ih' := ih (by omega)
    rw [sq_wa_s, sq_wr_b _ hx] at h1
    rw [sq_wa_s, sq_wr_b _ (by omega)] at h2
    rw [sq_wa_s, sq_wr_b _ hx]
    by_cases e : j = k
    · subst e
      have a : bt (sq_wa n A j x) j = true := h1.elim id (fun y => y.1)
      have b : bt (sq_wa n A j j) c = true := h2.elim id (fun y => y.2)
      exact Or.inr ⟨a, b⟩
    · have hjk : j < k := by omega
      rcases h1 with h1 | ⟨h1, h1'⟩
      · rcases h2 with h2 | ⟨h2, h2'⟩
        · exact Or.inl (ih' x j c hx hjk h1 h2)
        · exact Or.inr ⟨ih' x j k hx hjk h1 h2, h2'⟩
      · rcases h2 with h2 | ⟨h2, h2'⟩
        · exact Or.inr ⟨h1, ih' k j c (by omega) hjk h1' h2⟩
        · exact Or.inr ⟨h1, h2'⟩
/-- a transitive relation without rings keeps to some order -/
theorem sq_lin {n : Nat} (hn : n ≤ 6) {T : Nat → Nat → Bool} (htr : ∀ x j c, x < n → j < n → c < n → T x j = true → T j c = true → T x c = true) (hir : ∀ x, x < n → T x x = false) : ∃ pos, sq_pm n pos ∧ ∀ a b, a < n → b < n → T a b = true → pos a < pos b := by
  have hh : ∀ a b, a < n → b < n → T a b = true → sq_cn (fun x => T x a) n < sq_cn (fun x => T x b) n := by
    intro a b ha hb h
    exact sq_cn_lt (k := a) (p := fun x => T x a) (q := fun x => T x b) h (hir a ha) (fun i hi hi2 => htr i a b hi ha hb hi2 h) ha
  have hrk := sq_rank (N := n) (key := fun i => sq_cn (fun x => T x i) n * 7 + i) (p := fun _ => true) (fun i j hi hj _ _ e => by
    have e' : sq_cn (fun x => T x i) n * 7 + i = sq_cn (fun x => T x j) n * 7 + j := e
    omega)
  have hfull : sq_cn (fun _ => true) n ≤ n := sq_cn_le _ n
  refine ⟨fun i => sq_cn (fun j => (fun _ => true) j && decide ((fun i => sq_cn (fun x => T x i) n * 7 + i) j < (fun i => sq_cn (fun x => T x i) n * 7 + i) i)) n, sq_pm_of (fun t ht => ?_) (fun s t hst ht e => ?_), fun a b ha hb h => ?_⟩
  · have := hrk.1 t ht rfl
    exact Nat.lt_of_lt_of_le this hfull
  · have h1 := hrk.2 s t (by omega) ht rfl rfl
    have h2 := hrk.2 t s ht (by omega) rfl rfl
    dsimp only at h1 h2 e
    rw [e] at h1 h2
    omega
  · refine (hrk.2 a b ha hb rfl rfl).mpr ?_
    have := hh a b ha hb h
    show sq_cn (fun x => T x a) n * 7 + a < sq_cn (fun x => T x b) n * 7 + b
    omega
theorem sq_ring {n : Nat} (hn : n ≤ 6) {A : Nat → Int32} {R : Nat → Nat → Prop} (hR : ∀ x c, x < n → c < 32 → (bt (A x) c = true ↔ R x c)) (hRn : ∀ x c, R x c → c < n) :
    ((∀ a, a < n → bt (sq_wa n A n a) a = false) → ∃ pos, sq_pm n pos ∧ ∀ a b, a < n → b < n → R a b → pos a < pos b) ∧ ((∃ a, a < n ∧ bt (sq_wa n A n a) a = true) → ¬ ∃ pos, sq_pm n pos ∧ ∀ a b, a < n → b < n → R a b → pos a < pos b) := by
  constructor
  · intro h
    obtain ⟨pos, h1, h2⟩ := sq_lin hn (T := fun a b => bt (sq_wa n A n a) b) (fun x j c hx hj _ a b => sq_wa_t n (Nat.le_refl _) x j c hx hj a b) h
    exact ⟨pos, h1, fun a b ha hb hr => h2 a b ha hb (sq_wa_m ha ((hR a b ha (by omega)).mpr hr) n)⟩
  · rintro ⟨a, ha, h⟩ ⟨pos, _, h2⟩
    have := sq_wa_p (n := n) (A := A) (pos := pos) (fun x c hx hb => by
      have h32 : c < 32 := by
        rcases Nat.lt_or_ge c 32 with z | z
        · exact z
        · rw [b_big z] at hb; exact absurd hb (by decide)
      have r := (hR x c hx h32).mp hb
      exact ⟨hRn x c r, h2 x c hx (hRn x c r) r⟩) n (Nat.le_refl _) a a ha h
    omega
section
variable {n : Nat} {ow kd vr vl : Nat → Nat} {yf_fences yf_storeCount yf_loadCount yf_listed yf_strictListed : Int32} {ya_stores ya_loads ya_found ya_place ya_after ya_list ya_strictList : Nat → Int32}
theorem sq_yRing {R : Nat → Nat → Prop} {post : Int32 → SY → Prop} (hn : n ≤ 6) (hR : ∀ x c, x < n → c < 32 → (bt (ya_after x) c = true ↔ R x c)) (hRn : ∀ x c, R x c → c < n)
    (h0 : (∃ pos, sq_pm n pos ∧ ∀ a b, a < n → b < n → R a b → pos a < pos b) → ∀ A : Nat → Int32, post 0 ((nI n), yf_fences, yf_storeCount, yf_loadCount, yf_listed, yf_strictListed, (sq_nA kd), (sq_nA ow), (sq_nA vr), (sq_nA vl), ya_stores, ya_loads, ya_found, ya_place, A, ya_list, ya_strictList)) (h1 : (¬ ∃ pos, sq_pm n pos ∧ ∀ a b, a < n → b < n → R a b → pos a < pos b) → ∀ A : Nat → Int32, post 1 ((nI n), yf_fences, yf_storeCount, yf_loadCount, yf_listed, yf_strictListed, (sq_nA kd), (sq_nA ow), (sq_nA vr), (sq_nA vl), ya_stores, ya_loads, ya_found, ya_place, A, ya_list, ya_strictList)) : wpY_hasRing post ((nI n), yf_fences, yf_storeCount, yf_loadCount, yf_listed, yf_strictListed, (sq_nA kd), (sq_nA ow), (sq_nA vr), (sq_nA vl), ya_stores, ya_loads, ya_found, ya_place, ya_after, ya_list, ya_strictList) := by
  have hring := sq_ring hn hR hRn
  have fin : ∀ N a, n - a < N → a ≤ n → (∀ b, b < a → bt (sq_wa n ya_after n b) b = false) → wY_hasRing_76 post (nI n) yf_fences yf_storeCount yf_loadCount yf_listed yf_strictListed (sq_nA kd) (sq_nA ow) (sq_nA vr) (sq_nA vl) ya_stores ya_loads ya_found ya_place (sq_wa n ya_after n) ya_list ya_strictList N (nI a) := by
    intro N
    induction N with
    | zero => intro a g; omega
    | succ N ih =>
      intro a g1 g2 ha
      refine pk_le n a (fun g3 => ?_) (fun g3 => ⟨pk_in a 6 (by omega), ?_⟩)
      · exact h0 (hring.1 (fun b hb => ha b (by omega))) _
      · rw [sq_ati (sq_wa n ya_after n) (by omega)]
        refine ek_if (sq_bit1 _ (k := a) (by omega)) (fun z => h1 (hring.2 ⟨a, g3, z⟩) _) (fun z => nm_r (nI_1 a) (ih (a + 1) (by omega) (by omega) (fun b hb => ?_)))
        by_cases e : b = a
        · rw [e]
          cases hh : bt (sq_wa n ya_after n a) a
          · rfl
          · exact absurd hh z
        · exact ha b (by omega)
  have inn : ∀ {J2 : Int32 → (Nat → Int32) → (Nat → Int32) → (Nat → Int32) → (Nat → Int32) → (Nat → Int32) → (Nat → Int32) → (Nat → Int32) → (Nat → Int32) → (Nat → Int32) → (Nat → Int32) → (Nat → Int32) → Prop} (k : Nat) (B : Nat → Int32), k < n → J2 (nI (k + 1)) (sq_nA kd) (sq_nA ow) (sq_nA vr) (sq_nA vl) ya_stores ya_loads ya_found ya_place (sq_wr B k n) ya_list ya_strictList → ∀ N a, n - a < N → a ≤ n → wY_hasRing_12 post J2 (nI k) (nI n) yf_fences yf_storeCount yf_loadCount yf_listed yf_strictListed N (nI a) (sq_nA kd) (sq_nA ow) (sq_nA vr) (sq_nA vl) ya_stores ya_loads ya_found ya_place (sq_wr B k a) ya_list ya_strictList := by
    intro J2 k B hk hJ N
    induction N with
    | zero => intro a g; omega
    | succ N ih =>
      intro a g1 g2
      refine pk_le n a (fun g3 => nm_r (nI_1 k) ?_) (fun g3 => ⟨pk_in a 6 (by omega), ?_⟩)
      · have : a = n := by omega
        rw [this]; exact hJ
      · have e1 : sq_wr B k a (nI a).toNatClampNeg = B a := by rw [nI_clamp (by omega), sq_wr_a]
        rw [e1]
        refine ek_if (sq_bit1 _ (k := k) (by omega)) (fun z => ⟨pk_in a 6 (by omega), pk_in k 6 (by omega), pk_in a 6 (by omega), nm_r ?_ (nm_r (nI_1 a) (ih (a + 1) (by omega) (by omega)))⟩) (fun z => ⟨pk_in a 6 (by omega), pk_in a 6 (by omega), nm_r ?_ (nm_r (nI_1 a) (ih (a + 1) (by omega) (by omega)))⟩)
        · rw [nI_clamp (by omega), nI_clamp (by omega)]
          have := sq_wr_t B (a := a) z
          rw [sq_wr_a] at this
          exact this
        · rw [nI_clamp (by omega)]
          have := sq_wr_f B (a := a) z
          rw [sq_wr_a] at this
          exact this
  have out : ∀ N k, n - k < N → k ≤ n → wY_hasRing_2 post (nI n) yf_fences yf_storeCount yf_loadCount yf_listed yf_strictListed N (nI k) (sq_nA kd) (sq_nA ow) (sq_nA vr) (sq_nA vl) ya_stores ya_loads ya_found ya_place (sq_wa n ya_after k) ya_list ya_strictList := by
    intro N
    induction N with
    | zero => intro k g; omega
    | succ N ih =>
      intro k g1 g2
      refine pk_le n k (fun g3 => Exists.intro (n + 1) ?_) (fun g3 => Exists.intro (n + 1) ?_)
      · have : k = n := by omega
        rw [this]
        exact fin (n + 1) 0 (by omega) (by omega) (fun b hb => by omega)
      · have := inn (J2 := wY_hasRing_2 post (nI n) yf_fences yf_storeCount yf_loadCount yf_listed yf_strictListed N) k (sq_wa n ya_after k) g3 (ih (k + 1) (by omega) (by omega)) (n + 1) 0 (by omega) (by omega)
        rw [sq_wr_0] at this
        exact this
  exact Exists.intro (n + 1) (out (n + 1) 0 (by omega) (by omega))
theorem sq_yAll {S : Bool} {x1 : Int32} {P : Nat → Nat} {Fo : Nat → Option Nat} {post : Int32 → SY → Prop} (hW : sq_W n ow kd vr vl) (hS : x1 = 0 ↔ S = false) (hSt : sq_St n kd ya_stores) (hLd : sq_Ld n kd ya_loads) (hPl : sq_Pl n kd P ya_place) (hFd : sq_Fd n kd Fo ya_found)
    (h1 : sq_ok n ow kd vr S (bt yf_fences) P Fo → ∀ A : Nat → Int32, post 1 ((nI n), yf_fences, (nI (sq_cn (sq_ls kd) n)), (nI (sq_cn (sq_ll kd) n)), yf_listed, yf_strictListed, (sq_nA kd), (sq_nA ow), (sq_nA vr), (sq_nA vl), ya_stores, ya_loads, ya_found, ya_place, A, ya_list, ya_strictList)) (h0 : ¬ sq_ok n ow kd vr S (bt yf_fences) P Fo → ∀ A : Nat → Int32, post 0 ((nI n), yf_fences, (nI (sq_cn (sq_ls kd) n)), (nI (sq_cn (sq_ll kd) n)), yf_listed, yf_strictListed, (sq_nA kd), (sq_nA ow), (sq_nA vr), (sq_nA vl), ya_stores, ya_loads, ya_found, ya_place, A, ya_list, ya_strictList)) : wpY_isAllowed post ((nI n), yf_fences, (nI (sq_cn (sq_ls kd) n)), (nI (sq_cn (sq_ll kd) n)), yf_listed, yf_strictListed, (sq_nA kd), (sq_nA ow), (sq_nA vr), (sq_nA vl), ya_stores, ya_loads, ya_found, ya_place, ya_after, ya_list, ya_strictList) x1 := by
  obtain ⟨hn, hw, hk3, hv3, hl4, hso⟩ := id hW
  have hlc := sq_cn_le (sq_ll kd) n
  have hRn : ∀ x c, sq_R n ow kd vr P Fo S (bt yf_fences) x c → c < n := by
    intro x c h
    rcases h with h | h | h | h
    · exact h.2.1
    · exact h.2.1
    · exact h.1
    · exact h.2.2.1
  have rel : (∀ j, j < n → kd j = 1 → sq_MF n ow kd vr P j (Fo j)) → ∀ N k (A : Nat → Int32), sq_cn (sq_ll kd) n - k < N → k ≤ sq_cn (sq_ll kd) n → (∀ x c, x < n → c < 32 → (bt (A x) c = true ↔ (sq_R0 n ow kd S (bt yf_fences) x c ∨ (kd x = 0 ∧ c < n ∧ kd c = 0 ∧ vr x = vr c ∧ P x < P c)) ∨ ∃ j, j < n ∧ kd j = 1 ∧ sq_cn (sq_ll kd) j < k ∧ ((c = j ∧ Fo j = some x ∧ (S = true ∨ ow x ≠ ow j)) ∨ (x = j ∧ c < n ∧ kd c = 0 ∧ vr c = vr j ∧ ∀ s, Fo j = some s → P s < P c)))) → wY_isAllowed_37 post x1 N (nI k) (nI n) yf_fences (nI (sq_cn (sq_ls kd) n)) (nI (sq_cn (sq_ll kd) n)) yf_listed yf_strictListed (sq_nA kd) (sq_nA ow) (sq_nA vr) (sq_nA vl) ya_stores ya_loads ya_found ya_place A ya_list ya_strictList := by
    intro hMF N
    induction N with
    | zero => intro k A g; omega
    | succ N ih =>
      intro k A g1 g2 hA
      refine pk_le (sq_cn (sq_ll kd) n) k (fun g3 => ?_) (fun g3 => ?_)
      · refine sq_yRing (R := sq_R n ow kd vr P Fo S (bt yf_fences)) hn (fun x c hx hc => ?_) hRn (fun hp A' => br_t rfl (h1 ⟨hMF, hp⟩ A')) (fun hp A' => br_f (by decide) (h0 (fun z => hp z.2) A'))
        rw [hA x c hx hc]
        constructor
        · rintro ((z | z) | ⟨j, hj, hj1, _, z | z⟩)
          · exact Or.inl z
          · exact Or.inr (Or.inl ⟨hx, z.2.1, z.1, z.2.2.1, z.2.2.2⟩)
          · rw [z.1]; exact Or.inr (Or.inr (Or.inl ⟨hj, hj1, z.2⟩))
          · rw [z.1]; exact Or.inr (Or.inr (Or.inr ⟨hj, hj1, z.2⟩))
        · rintro (z | ⟨_, z2, z3, z4, z5⟩ | ⟨z1, z2, z3⟩ | ⟨z1, z2, z3⟩)
          · exact Or.inl (Or.inl z)
          · exact Or.inl (Or.inr ⟨z3, z2, z4, z5⟩)
          · exact Or.inr ⟨c, z1, z2, by have := sq_ldL z1 z2; omega, Or.inl ⟨rfl, z3⟩⟩
          · exact Or.inr ⟨x, z1, z2, by have := sq_ldL z1 z2; omega, Or.inr ⟨rfl, z3⟩⟩
      · obtain ⟨j, hj, hj1, ej⟩ := sq_ldA g3
        subst ej
        refine sq_yRlt (Fo := Fo) hW hS hSt hLd hPl hFd hj hj1 (fun A' hA' => nm_r (nI_1 _) (ih _ A' (by omega) (by omega) (fun x c hx hc => ?_)))
        rw [hA' x c hx hc, hA x c hx hc]
        constructor
        · rintro ((z | ⟨i, y1, y2, y3, y4⟩) | z | z)
          · exact Or.inl z
          · exact Or.inr ⟨i, y1, y2, by omega, y4⟩
          · exact Or.inr ⟨j, hj, hj1, by omega, Or.inl z⟩
          · exact Or.inr ⟨j, hj, hj1, by omega, Or.inr z⟩
        · rintro (z | ⟨i, y1, y2, y3, y4⟩)
          · exact Or.inl (Or.inl z)
          · by_cases e : i = j
            · subst e; exact Or.inr y4
            · have : sq_cn (sq_ll kd) i ≠ sq_cn (sq_ll kd) j := fun w => e (sq_ldI y2 hj1 w)
              exact Or.inl (Or.inr ⟨i, y1, y2, by omega, y4⟩)
  have may : ∀ N k, sq_cn (sq_ll kd) n - k < N → k ≤ sq_cn (sq_ll kd) n → (∀ j, j < n → kd j = 1 → sq_cn (sq_ll kd) j < k → sq_MF n ow kd vr P j (Fo j)) → wY_isAllowed_2 post x1 (nI n) yf_fences (nI (sq_cn (sq_ls kd) n)) (nI (sq_cn (sq_ll kd) n)) yf_listed yf_strictListed (sq_nA kd) (sq_nA ow) (sq_nA vr) (sq_nA vl) ya_stores ya_loads ya_found ya_place ya_after ya_list ya_strictList N (nI k) := by
    intro N
    induction N with
    | zero => intro k g; omega
    | succ N ih =>
      intro k g1 g2 hM
      refine pk_le (sq_cn (sq_ll kd) n) k (fun g3 => ?_) (fun g3 => ?_)
      · have hMF : ∀ j, j < n → kd j = 1 → sq_MF n ow kd vr P j (Fo j) := fun j a b => hM j a b (by have := sq_ldL a b; omega)
        refine sq_ySta (S := S) hn hw hk3 hS (fun A hA => ?_)
        refine sq_yOrd (P := P) hn hv3 hSt hPl (fun A' hA' => ?_)
        refine Exists.intro (sq_cn (sq_ll kd) n + 1) (rel hMF (sq_cn (sq_ll kd) n + 1) 0 A' (by omega) (by omega) (fun x c hx hc => ?_))
        rw [hA' x c hx hc, hA x hx c hc]
        exact ⟨Or.inl, fun z => z.elim id (fun ⟨j, _, _, y, _⟩ => absurd y (Nat.not_lt_zero _))⟩
      · obtain ⟨j, hj, hj1, ej⟩ := sq_ldA g3
        subst ej
        refine sq_yMay (P := P) hW hSt hLd hPl hFd hj hj1 (fun hm => br_f (by decide) (nm_r (nI_1 _) (ih _ (by omega) (by omega) (fun i a b c => ?_)))) (fun hm => br_t rfl (h0 (fun z => hm (z.1 j hj hj1)) _))
        by_cases e : i = j
        · rw [e]; exact hm
        · have : sq_cn (sq_ll kd) i ≠ sq_cn (sq_ll kd) j := fun w => e (sq_ldI b hj1 w)
          exact hM i a b (by omega)
  exact Exists.intro (sq_cn (sq_ll kd) n + 1) (may (sq_cn (sq_ll kd) n + 1) 0 (by omega) (by omega) (fun j _ _ z => absurd z (Nat.not_lt_zero _)))
end
