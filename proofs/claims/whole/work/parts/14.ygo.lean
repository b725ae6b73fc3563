/-! the reference: setOrder, setFound, note -/
def sq_od (c : Nat) : Nat → Nat
  | 0 => 1
  | s + 1 => sq_od c s * (c - s)
theorem sq_od_s (c s : Nat) : sq_od c (s + 1) = sq_od c s * (c - s) := rfl
theorem sq_od_f (c : Nat) : ∀ s, s ≤ c → sq_od c s * sq_fac (c - s) = sq_fac c := by
  intro s
  induction s with
  | zero => intro _; show 1 * sq_fac (c - 0) = _; rw [Nat.one_mul, Nat.sub_zero]
  | succ s ih =>
    intro h
    rw [← ih (by omega), sq_od_s, Nat.mul_assoc]
    congr 1
    rw [show c - s = (c - (s + 1)) + 1 from by omega]
    rfl
theorem sq_od_c (c : Nat) : sq_od c c = sq_fac c := by
  have := sq_od_f c c (Nat.le_refl _)
  rw [Nat.sub_self] at this
  rw [← this]
  show _ = _ * 1
  rw [Nat.mul_one]
section
variable {n : Nat} {ow kd vr vl : Nat → Nat} {yf_fences yf_storeCount yf_loadCount yf_listed yf_strictListed : Int32} {ya_stores ya_loads ya_found ya_place ya_after ya_list ya_strictList : Nat → Int32}
theorem sq_yOrder {c m : Nat} {x : Int32} {q : Nat → Nat} {post : Int32 → SY → Prop} (hc : c ≤ 6) (hm : m < 2 ^ 31) (hx : x = nI m) (hq : sq_cd c m q) (h : ∀ pl : Nat → Int32, (∀ s, s < c → pl s = nI (q s)) → post (nI (sq_fac c)) ((nI n), yf_fences, (nI c), yf_loadCount, yf_listed, yf_strictListed, (sq_nA kd), (sq_nA ow), (sq_nA vr), (sq_nA vl), ya_stores, ya_loads, ya_found, pl, ya_after, ya_list, ya_strictList)) : wpY_setOrder post ((nI n), yf_fences, (nI c), yf_loadCount, yf_listed, yf_strictListed, (sq_nA kd), (sq_nA ow), (sq_nA vr), (sq_nA vl), ya_stores, ya_loads, ya_found, ya_place, ya_after, ya_list, ya_strictList) x := by
  subst hx
  have inn : ∀ {J : Int32 → Int32 → Int32 → Int32 → (Nat → Int32) → (Nat → Int32) → (Nat → Int32) → (Nat → Int32) → (Nat → Int32) → (Nat → Int32) → (Nat → Int32) → (Nat → Int32) → (Nat → Int32) → (Nat → Int32) → (Nat → Int32) → Prop} (x2 x3 y : Int32) (pl : Nat → Int32) (s : Nat), s < c → (∀ b, b < 32 → bt y b = (decide (b < c) && !sq_dn q s b)) → (∀ y' : Int32, (∀ b, b < 32 → bt y' b = (decide (b < c) && !sq_dn q (s + 1) b)) → J x2 x3 y' (nI (s + 1)) (sq_nA kd) (sq_nA ow) (sq_nA vr) (sq_nA vl) ya_stores ya_loads ya_found (upd pl s (nI (q s))) ya_after ya_list ya_strictList) → ∀ N a k, q s - a < N → a ≤ q s → k + sq_cn (sq_ud q s) a = sq_cn (sq_ud q s) (q s) → wY_setOrder_54 post J x2 x3 y (nI s) (nI n) yf_fences (nI c) yf_loadCount yf_listed yf_strictListed (sq_nA kd) (sq_nA ow) (sq_nA vr) (sq_nA vl) ya_stores ya_loads ya_found pl ya_after ya_list ya_strictList N (nI k) (nI a) := by
    intro J x2 x3 y pl s hs hy hJ N
    obtain ⟨q1, q2, _⟩ := hq s hs
    induction N with
    | zero => intro a k g; omega
    | succ N ih =>
      intro a k g1 g2 hk
      have hcl := sq_cn_le (sq_ud q s) (q s)
      have hb := hy a (by omega)
      rw [decide_eq_true (by omega : a < c), Bool.true_and] at hb
      refine ek_if (sq_bit0 y (k := a) (by omega)) (fun z => ?_) (fun z => ?_)
      · rw [hb] at z
        have hna : a ≠ q s := fun e => by rw [e, q2] at z; exact absurd z (by decide)
        refine ek_if (sq_bit1 y (k := a) (by omega)) (fun w => ?_) (fun w => nm_r (nI_1 a) (ih (a + 1) k (by omega) (by omega) ?_))
        · rw [hb, z] at w; exact absurd w (by decide)
        · rw [sq_cn_f (p := sq_ud q s) z]; exact hk
      · have z' : (!sq_dn q s a) = true := by
          rw [hb] at z
          cases hh : (!sq_dn q s a)
          · exact absurd hh z
          · rfl
        refine pk_le k 0 (fun g3 => ?_) (fun g3 => ?_)
        · have ea : a = q s := by
            rcases Nat.lt_or_ge a (q s) with w | w
            · have := sq_cn_lo (p := sq_ud q s) (i := a) (j := q s) z' w
              omega
            · omega
          subst ea
          refine ⟨pk_in s 6 (by omega), nm_r (by rw [nI_clamp (by omega)]) (nm_e (nm_r (nI_1 s) (hJ _ (fun b hb32 => ?_))))⟩
          rw [sq_clr y (by omega) hb32, hy b hb32, sq_dn_s, Bool.not_or, Bool.and_assoc]
        · obtain ⟨k', rfl⟩ : ∃ k', k = k' + 1 := ⟨k - 1, by omega⟩
          have hna : a ≠ q s := fun e => by rw [e] at hk; omega
          refine ek_if (sq_bit1 y (k := a) (by omega)) (fun w => nm_r (nI_pred k') (nm_r (nI_1 a) (ih (a + 1) k' (by omega) (by omega) ?_))) (fun w => ?_)
          · rw [sq_cn_t (p := sq_ud q s) z']; omega
          · rw [hb] at w; exact absurd z' w
  have key : ∀ N s (y : Int32) (pl : Nat → Int32), c - s < N → s ≤ c → (∀ b, b < 32 → bt y b = (decide (b < c) && !sq_dn q s b)) → (∀ l, l < s → pl l = nI (q l)) → wY_setOrder_17 post (nI n) yf_fences (nI c) yf_loadCount yf_listed yf_strictListed N (nI (sq_rs c m s)) (nI (sq_od c s)) y (nI s) (sq_nA kd) (sq_nA ow) (sq_nA vr) (sq_nA vl) ya_stores ya_loads ya_found pl ya_after ya_list ya_strictList := by
    intro N
    induction N with
    | zero => intro s y pl g; omega
    | succ N ih =>
      intro s y pl g1 g2 hy hpl
      refine pk_le c s (fun g3 => ?_) (fun g3 => ?_)
      · have es : s = c := by omega
        subst es
        rw [sq_od_c]
        exact h pl hpl
      · obtain ⟨q1, q2, q3⟩ := hq s g3
        have hrs := sq_rs_le c m s
        have hne : ¬ nI (c - s) = 0 := nI_ne0 (by omega) (by omega)
        refine nm_r (pk_sub (by omega)) ⟨hne, nm_r (pk_rem (by omega) (by omega) (by omega)) ⟨hne, nm_r (pk_div (by omega) (by omega) (by omega)) (nm_r (pk_mul _ _) (Exists.intro (q s + 1) ?_))⟩⟩
        rw [← q3]
        refine inn (nI (sq_rs c m (s + 1))) (nI (sq_od c (s + 1))) y pl s g3 hy (fun y' hy' => ih (s + 1) y' _ (by omega) (by omega) hy' (fun l hl => ?_)) (q s + 1) 0 _ (by omega) (by omega) rfl
        by_cases e : l = s
        · rw [e, pk_us]
        · rw [pk_un e]; exact hpl l (by omega)
  refine nm_e (Exists.intro (c + 1) (key (c + 1) 0 _ ya_place (by omega) (by omega) (fun b hb => ?_) (fun l hl => by omega)))
  rw [sq_low c (by omega) b hb]
  show _ = (decide (b < c) && !false)
  rw [Bool.not_false, Bool.and_true]
theorem sq_yFound {c l m : Nat} {x : Int32} {post : Int32 → SY → Prop} (hc : c ≤ 6) (hl : l ≤ 6) (hm : m < 2 ^ 31) (hx : x = nI m) (h : ∀ fo : Nat → Int32, (∀ k, k < l → fo k = nI (m / (c + 1) ^ k % (c + 1)) - 1) → post (nI ((c + 1) ^ l)) ((nI n), yf_fences, (nI c), (nI l), yf_listed, yf_strictListed, (sq_nA kd), (sq_nA ow), (sq_nA vr), (sq_nA vl), ya_stores, ya_loads, fo, ya_place, ya_after, ya_list, ya_strictList)) : wpY_setFound post ((nI n), yf_fences, (nI c), (nI l), yf_listed, yf_strictListed, (sq_nA kd), (sq_nA ow), (sq_nA vr), (sq_nA vl), ya_stores, ya_loads, ya_found, ya_place, ya_after, ya_list, ya_strictList) x := by
  subst hx
  have key : ∀ N k (fo : Nat → Int32), l - k < N → k ≤ l → (∀ i, i < k → fo i = nI (m / (c + 1) ^ i % (c + 1)) - 1) → wY_setFound_7 post (nI n) yf_fences (nI c) (nI l) yf_listed yf_strictListed N (nI (m / (c + 1) ^ k)) (nI ((c + 1) ^ k)) (nI k) (sq_nA kd) (sq_nA ow) (sq_nA vr) (sq_nA vl) ya_stores ya_loads fo ya_place ya_after ya_list ya_strictList := by
    intro N
    induction N with
    | zero => intro k fo g; omega
    | succ N ih =>
      intro k fo g1 g2 hfo
      refine pk_le l k (fun g3 => ?_) (fun g3 => ?_)
      · have ek : k = l := by omega
        subst ek
        exact h fo hfo
      · have hd := Nat.div_le_self m ((c + 1) ^ k)
        have hne : ¬ nI c + 1 = 0 := by rw [nI_1]; exact nI_ne0 (by omega) (by omega)
        refine ⟨hne, pk_in k 6 (by omega), nm_e ⟨hne, nm_r (e' := nI (m / (c + 1) ^ (k + 1))) ?_ (nm_r (e' := nI ((c + 1) ^ (k + 1))) ?_ (nm_r (nI_1 k) (ih (k + 1) _ (by omega) (by omega) (fun i hi => ?_))))⟩⟩
        · rw [nI_1, pk_div (by omega) (by omega) (by omega), Nat.div_div_eq_div_mul, Nat.pow_succ]
        · rw [nI_1, pk_mul, Nat.pow_succ]
        · rw [nI_1, pk_rem (by omega) (by omega) (by omega), nI_clamp (by omega)]
          by_cases e : i = k
          · rw [e, pk_us]
          · rw [pk_un e]; exact hfo i (by omega)
  refine Exists.intro (l + 1) ?_
  have := key (l + 1) 0 ya_found (by omega) (by omega) (fun i hi => by omega)
  rw [Nat.pow_zero, Nat.div_one] at this
  exact this
theorem sq_yNoL {f : Nat → Nat} {c a o : Nat} {post : SY → Prop} (hc : c < 720) (h : post ((nI n), yf_fences, yf_storeCount, yf_loadCount, (nI (c + 1)), yf_strictListed, (sq_nA kd), (sq_nA ow), (sq_nA vr), (sq_nA vl), ya_stores, ya_loads, ya_found, ya_place, ya_after, (sq_nA (sq_pu f c a o)), ya_strictList)) : ∀ N i, i < N → a ≤ i → i ≤ c → wY_note_91 post (nI o) 0 (nI a) (nI n) yf_fences yf_storeCount yf_loadCount (nI c) yf_strictListed N (nI i) (sq_nA kd) (sq_nA ow) (sq_nA vr) (sq_nA vl) ya_stores ya_loads ya_found ya_place ya_after (sq_nA (sq_ps f c i)) ya_strictList := by
  intro N
  induction N with
  | zero => intro i h1; omega
  | succ N ih =>
    intro i h1 h2 h3
    refine pk_le i a (fun h4 => ?_) (fun h4 => ?_)
    · have ei : i = a := by omega
      subst ei
      refine (br_t rfl ⟨pk_in i 720 (by omega), nm_r (sq_sto _ o (by omega)) (nm_r (nI_1 c) ?_)⟩)
      rw [sq_ps_e]
      exact h
    · obtain ⟨j, rfl⟩ : ∃ j, i = j + 1 := ⟨i - 1, by omega⟩
      have hp : nI (j + 1) - 1 = nI j := nI_pred j
      have cp : upd (sq_nA (sq_ps f c (j + 1))) (nI (j + 1)).toNatClampNeg (sq_nA (sq_ps f c (j + 1)) (nI (j + 1) - 1).toNatClampNeg) = sq_nA (sq_ps f c j) := by
        rw [hp, sq_cpy _ (by omega) (by omega), sq_ps_s f (by omega)]
      exact (br_t rfl ⟨pk_in j 720 (by omega) hp, pk_in (j + 1) 720 (by omega), nm_r cp (nm_r (pk_m1 j) (ih j (by omega) (by omega) (by omega)))⟩)
theorem sq_yNo_ {f : Nat → Nat} {c o : Nat} {P : Nat → Prop} {post : SY → Prop} (hc : c < 720) (ho : o < 262144) (hP : ∀ o, P o → o < 262144) (hS : sq_SS f c P) (h : ∀ f' c', c' ≤ c + 1 → sq_SS f' c' (fun x => P x ∨ x = o) → post ((nI n), yf_fences, yf_storeCount, yf_loadCount, (nI c'), yf_strictListed, (sq_nA kd), (sq_nA ow), (sq_nA vr), (sq_nA vl), ya_stores, ya_loads, ya_found, ya_place, ya_after, (sq_nA f'), ya_strictList)) : wpY_note post ((nI n), yf_fences, yf_storeCount, yf_loadCount, (nI c), yf_strictListed, (sq_nA kd), (sq_nA ow), (sq_nA vr), (sq_nA vl), ya_stores, ya_loads, ya_found, ya_place, ya_after, (sq_nA f), ya_strictList) (nI o) 0 := by
  have hf : ∀ i, i < c → f i < 262144 := fun i hi => hP _ ((hS.2 _).mpr ⟨i, hi, rfl⟩)
  have put : ∀ a, a ≤ c → (∀ i, i < a → f i < o) → (a < c → o < f a) → ∃ N, wY_note_91 post (nI o) 0 (nI a) (nI n) yf_fences yf_storeCount yf_loadCount (nI c) yf_strictListed N (nI c) (sq_nA kd) (sq_nA ow) (sq_nA vr) (sq_nA vl) ya_stores ya_loads ya_found ya_place ya_after (sq_nA f) ya_strictList := by
    intro a ha hlo hne
    refine ⟨c + 1, ?_⟩
    have := sq_yNoL (n := n) (ow := ow) (kd := kd) (vr := vr) (vl := vl) (f := f) (c := c) (a := a) (o := o) hc (h _ _ (Nat.le_refl _) (sq_SS_in hS ha hlo hne)) (c + 1) c (by omega) ha (Nat.le_refl _)
    rw [sq_ps_0] at this
    exact this
  have at56 : ∀ a, a ≤ c → (∀ i, i < a → f i < o) → (a < c → o ≤ f a) → wY_note_56 post (nI o) 0 (nI c) (nI a) (nI n) yf_fences yf_storeCount yf_loadCount (nI c) yf_strictListed (sq_nA kd) (sq_nA ow) (sq_nA vr) (sq_nA vl) ya_stores ya_loads ya_found ya_place ya_after (sq_nA f) ya_strictList := by
    intro a ha hlo hhi
    refine pk_le c a (fun h3 => put a ha hlo (fun z => by omega)) (fun h3 => (br_t rfl ⟨pk_in a 720 (by omega), ?_⟩))
    have h5 := hhi h3
    have h6 := hf a h3
    refine pk_eq (f a) o (fun h4 => ?_) (fun h4 => put a ha hlo (fun _ => by omega)) (sq_at f (by omega)) rfl (by omega) (by omega)
    exact h f c (by omega) (sq_SS_old hS ((hS.2 o).mpr ⟨a, h3, h4⟩))
  have key : ∀ N a, c - a < N → a ≤ c → (∀ i, i < a → f i < o) → wY_note_19 post (nI o) 0 (nI c) (nI n) yf_fences yf_storeCount yf_loadCount (nI c) yf_strictListed (sq_nA kd) (sq_nA ow) (sq_nA vr) (sq_nA vl) ya_stores ya_loads ya_found ya_place ya_after (sq_nA f) ya_strictList N (nI a) := by
    intro N
    induction N with
    | zero => intro a h1; omega
    | succ N ih =>
      intro a h1 h2 ha
      refine pk_le c a (fun h3 => at56 a h2 ha (fun z => by omega)) (fun h3 => (br_t rfl ⟨pk_in a 720 (by omega), ?_⟩))
      have h6 := hf a h3
      refine pk_le o (f a) (fun h4 => at56 a h2 ha (fun _ => h4)) (fun h4 => nm_r (nI_1 a) (ih (a + 1) (by omega) (by omega) (fun i hi => ?_))) rfl (sq_at f (by omega)) (by omega) (by omega)
      by_cases e : i = a
      · rw [e]; exact h4
      · exact ha i (by omega)
  exact (br_t rfl (Exists.intro (c + 1) (key (c + 1) 0 (by omega) (by omega) (fun i hi => by omega))))
theorem sq_ySnL {f : Nat → Nat} {c a o : Nat} {post : SY → Prop} (hc : c < 720) (h : post ((nI n), yf_fences, yf_storeCount, yf_loadCount, yf_listed, (nI (c + 1)), (sq_nA kd), (sq_nA ow), (sq_nA vr), (sq_nA vl), ya_stores, ya_loads, ya_found, ya_place, ya_after, ya_list, (sq_nA (sq_pu f c a o)))) : ∀ N i, i < N → a ≤ i → i ≤ c → wY_note_91 post (nI o) 1 (nI a) (nI n) yf_fences yf_storeCount yf_loadCount yf_listed (nI c) N (nI i) (sq_nA kd) (sq_nA ow) (sq_nA vr) (sq_nA vl) ya_stores ya_loads ya_found ya_place ya_after ya_list (sq_nA (sq_ps f c i)) := by
  intro N
  induction N with
  | zero => intro i h1; omega
  | succ N ih =>
    intro i h1 h2 h3
    refine pk_le i a (fun h4 => ?_) (fun h4 => ?_)
    · have ei : i = a := by omega
      subst ei
      refine (br_f (by decide) ⟨pk_in i 720 (by omega), nm_r (sq_sto _ o (by omega)) (nm_r (nI_1 c) ?_)⟩)
      rw [sq_ps_e]
      exact h
    · obtain ⟨j, rfl⟩ : ∃ j, i = j + 1 := ⟨i - 1, by omega⟩
      have hp : nI (j + 1) - 1 = nI j := nI_pred j
      have cp : upd (sq_nA (sq_ps f c (j + 1))) (nI (j + 1)).toNatClampNeg (sq_nA (sq_ps f c (j + 1)) (nI (j + 1) - 1).toNatClampNeg) = sq_nA (sq_ps f c j) := by
        rw [hp, sq_cpy _ (by omega) (by omega), sq_ps_s f (by omega)]
      exact (br_f (by decide) ⟨pk_in j 720 (by omega) hp, pk_in (j + 1) 720 (by omega), nm_r cp (nm_r (pk_m1 j) (ih j (by omega) (by omega) (by omega)))⟩)
theorem sq_ySn_ {f : Nat → Nat} {c o : Nat} {P : Nat → Prop} {post : SY → Prop} (hc : c < 720) (ho : o < 262144) (hP : ∀ o, P o → o < 262144) (hS : sq_SS f c P) (h : ∀ f' c', c' ≤ c + 1 → sq_SS f' c' (fun x => P x ∨ x = o) → post ((nI n), yf_fences, yf_storeCount, yf_loadCount, yf_listed, (nI c'), (sq_nA kd), (sq_nA ow), (sq_nA vr), (sq_nA vl), ya_stores, ya_loads, ya_found, ya_place, ya_after, ya_list, (sq_nA f'))) : wpY_note post ((nI n), yf_fences, yf_storeCount, yf_loadCount, yf_listed, (nI c), (sq_nA kd), (sq_nA ow), (sq_nA vr), (sq_nA vl), ya_stores, ya_loads, ya_found, ya_place, ya_after, ya_list, (sq_nA f)) (nI o) 1 := by
  have hf : ∀ i, i < c → f i < 262144 := fun i hi => hP _ ((hS.2 _).mpr ⟨i, hi, rfl⟩)
  have put : ∀ a, a ≤ c → (∀ i, i < a → f i < o) → (a < c → o < f a) → ∃ N, wY_note_91 post (nI o) 1 (nI a) (nI n) yf_fences yf_storeCount yf_loadCount yf_listed (nI c) N (nI c) (sq_nA kd) (sq_nA ow) (sq_nA vr) (sq_nA vl) ya_stores ya_loads ya_found ya_place ya_after ya_list (sq_nA f) := by
    intro a ha hlo hne
    refine ⟨c + 1, ?_⟩
    have := sq_ySnL (n := n) (ow := ow) (kd := kd) (vr := vr) (vl := vl) (f := f) (c := c) (a := a) (o := o) hc (h _ _ (Nat.le_refl _) (sq_SS_in hS ha hlo hne)) (c + 1) c (by omega) ha (Nat.le_refl _)
    rw [sq_ps_0] at this
    exact this
  have at56 : ∀ a, a ≤ c → (∀ i, i < a → f i < o) → (a < c → o ≤ f a) → wY_note_56 post (nI o) 1 (nI c) (nI a) (nI n) yf_fences yf_storeCount yf_loadCount yf_listed (nI c) (sq_nA kd) (sq_nA ow) (sq_nA vr) (sq_nA vl) ya_stores ya_loads ya_found ya_place ya_after ya_list (sq_nA f) := by
    intro a ha hlo hhi
    refine pk_le c a (fun h3 => put a ha hlo (fun z => by omega)) (fun h3 => (br_f (by decide) ⟨pk_in a 720 (by omega), ?_⟩))
    have h5 := hhi h3
    have h6 := hf a h3
    refine pk_eq (f a) o (fun h4 => ?_) (fun h4 => put a ha hlo (fun _ => by omega)) (sq_at f (by omega)) rfl (by omega) (by omega)
    exact h f c (by omega) (sq_SS_old hS ((hS.2 o).mpr ⟨a, h3, h4⟩))
  have key : ∀ N a, c - a < N → a ≤ c → (∀ i, i < a → f i < o) → wY_note_19 post (nI o) 1 (nI c) (nI n) yf_fences yf_storeCount yf_loadCount yf_listed (nI c) (sq_nA kd) (sq_nA ow) (sq_nA vr) (sq_nA vl) ya_stores ya_loads ya_found ya_place ya_after ya_list (sq_nA f) N (nI a) := by
    intro N
    induction N with
    | zero => intro a h1; omega
    | succ N ih =>
      intro a h1 h2 ha
      refine pk_le c a (fun h3 => at56 a h2 ha (fun z => by omega)) (fun h3 => (br_f (by decide) ⟨pk_in a 720 (by omega), ?_⟩))
      have h6 := hf a h3
      refine pk_le o (f a) (fun h4 => at56 a h2 ha (fun _ => h4)) (fun h4 => nm_r (nI_1 a) (ih (a + 1) (by omega) (by omega) (fun i hi => ?_))) rfl (sq_at f (by omega)) (by omega) (by omega)
      by_cases e : i = a
      · rw [e]; exact h4
      · exact ha i (by omega)
  exact (br_f (by decide) (Exists.intro (c + 1) (key (c + 1) 0 (by omega) (by omega) (fun i hi => by omega))))
end
