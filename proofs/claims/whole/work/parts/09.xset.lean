/-! the component: the rising sets; explore -/
theorem sq_rep (a : Nat → Int32) : ∃ f : Nat → Nat, a = sq_nA f := by
  refine ⟨fun i => (a i).toBitVec.toNat, ?_⟩
  funext i
  apply Int32.toBitVec_inj.1
  show (a i).toBitVec = BitVec.ofNat 32 (a i).toBitVec.toNat
  simp
theorem sq_fac6 : ∀ n, n ≤ 6 → sq_fac n ≤ 720 := by decide +kernel
theorem sq_cd_det {n m : Nat} {q p : Nat → Nat} (hq : sq_cd n m q) (hp : sq_cd n m p) : ∀ t, t < n → q t = p t := by
  intro t
  induction t using Nat.strongRecOn with
  | ind t ih =>
    intro ht
    have e : sq_dn q t = sq_dn p t := sq_dn_ext (fun s hs => ih s hs (by omega))
    have eu : sq_ud q t = sq_ud p t := by
      funext i
      show (!sq_dn q t i) = (!sq_dn p t i)
      rw [e]
    obtain ⟨a1, a2, a3⟩ := hq t ht
    obtain ⟨b1, b2, b3⟩ := hp t ht
    rw [← b3, eu] at a3
    refine sq_cn_inj (p := sq_ud p t) ?_ ?_ a3
    · show (!sq_dn p t (q t)) = true
      rw [← e, a2]; rfl
    · show (!sq_dn p t (p t)) = true
      rw [b2]; rfl
theorem sq_fx_ext {ow kd vr vl q p : Nat → Nat} : ∀ {t : Nat}, (∀ s, s < t → q s = p s) → sq_fx ow kd vr vl q t = sq_fx ow kd vr vl p t := by
  intro t
  induction t with
  | zero => intro _; rfl
  | succ t ih =>
    intro h
    rw [sq_fx_s, sq_fx_s, ih (fun s hs => h s (by omega)), h t (by omega), sq_dn_ext (fun s hs => h s (by omega) : ∀ s, s < t → q s = p s)]
theorem sq_va_ext {n : Nat} {ow kd q p : Nat → Nat} {F : Nat → Bool} (h : ∀ s, s < n → q s = p s) (hv : sq_va n ow kd F q) : sq_va n ow kd F p := by
  intro t ht i hi
  rw [← h t ht] at hi
  have := hv t ht i hi
  rw [sq_dn_ext (fun s hs => h s (by omega) : ∀ s, s < t → q s = p s)] at this
  exact this
noncomputable def sq_Q (n m : Nat) : Nat → Nat := Classical.choose (sq_cd_ex n m)
theorem sq_Qc (n m : Nat) : sq_cd n m (sq_Q n m) := Classical.choose_spec (sq_cd_ex n m)
def sq_Pk (n : Nat) (ow kd vr vl : Nat → Nat) (F : Nat → Bool) (k o : Nat) : Prop := ∃ m, m < k ∧ sq_va n ow kd F (sq_Q n m) ∧ o = sq_sm (sq_fx ow kd vr vl (sq_Q n m) n) 9
theorem sq_Pk_all {n : Nat} {ow kd vr vl : Nat → Nat} {F : Nat → Bool} (o : Nat) : sq_Pk n ow kd vr vl F (sq_fac n) o ↔ sq_PX n ow kd vr vl F o := by
  constructor
  · rintro ⟨m, _, hv, e⟩
    exact ⟨sq_Q n m, sq_cd_pm (sq_Qc n m), hv, e⟩
  · rintro ⟨q, hm, hv, e⟩
    obtain ⟨m, hmf, hc⟩ := sq_cd_all hm
    have hd := sq_cd_det hc (sq_Qc n m)
    exact ⟨m, hmf, sq_va_ext hd hv, by rw [e, sq_fx_ext hd]⟩
theorem sq_PX_lt {n : Nat} {ow kd vr vl : Nat → Nat} {F : Nat → Bool} (hl : ∀ i, vl i < 4) {o : Nat} (h : sq_PX n ow kd vr vl F o) : o < 262144 := by
  obtain ⟨q, _, _, e⟩ := h
  rw [e]
  exact sq_sm_lt (sq_fx4 hl q n) 9
section
variable {n : Nat} {ow kd vr vl : Nat → Nat} {f_explored f_loadCount f_orderCount f_lateCount f_strictCount : Int32} {a_lateSet a_strictSet a_place a_earlier : Nat → Int32}
theorem sq_xFnl_lateSet {f : Nat → Nat} {c : Nat} {x : Int32} {post : Int32 → Prop} (hc : c ≤ 720) (h : ∀ a, a ≤ c → (∀ i, i < a → ¬ x ≤ nI (f i)) → (a < c → x ≤ nI (f a)) → post (nI a)) : wpX_firstNotLess__lateSet post ((nI n), f_explored, f_loadCount, f_orderCount, f_lateCount, f_strictCount, (sq_nA ow), (sq_nA kd), (sq_nA vr), (sq_nA vl), (sq_nA f), a_strictSet, a_place, a_earlier) (nI c) x := by
  have key : ∀ N a, c - a < N → a ≤ c → (∀ i, i < a → ¬ x ≤ nI (f i)) → wX_firstNotLess__lateSet_3 post (nI c) x (nI n) f_explored f_loadCount f_orderCount f_lateCount f_strictCount (sq_nA ow) (sq_nA kd) (sq_nA vr) (sq_nA vl) (sq_nA f) a_strictSet a_place a_earlier N (nI a) := by
    intro N
    induction N with
    | zero => intro a h1; omega
    | succ N ih =>
      intro a h1 h2 ha
      refine pk_le c a (fun h3 => h a h2 ha (fun z => by omega)) (fun h3 => ⟨pk_in a 720 (by omega), ?_⟩)
      rw [sq_at f (by omega)]
      refine br_c (fun h4 => h a h2 ha (fun _ => h4)) (fun h4 => nm_r (nI_1 a) (ih (a + 1) (by omega) (by omega) (fun i hi => ?_)))
      by_cases e : i = a
      · rw [e]; exact h4
      · exact ha i (by omega)
  exact Exists.intro (c + 1) (key (c + 1) 0 (by omega) (by omega) (fun i hi => by omega))
theorem sq_xHas_lateSet {f : Nat → Nat} {c : Nat} {x : Int32} {post : Int32 → Prop} (hc : c ≤ 720) (hf : ∀ i, i < c → f i < 262144) (hup : ∀ i j, i < j → j < c → f i < f j) (h1 : (∃ i, i < c ∧ nI (f i) = x) → post 1) (h0 : (¬ ∃ i, i < c ∧ nI (f i) = x) → post 0) : wpX_contains__lateSet post ((nI n), f_explored, f_loadCount, f_orderCount, f_lateCount, f_strictCount, (sq_nA ow), (sq_nA kd), (sq_nA vr), (sq_nA vl), (sq_nA f), a_strictSet, a_place, a_earlier) (nI c) x := by
  refine sq_xFnl_lateSet hc (fun a ha hlo hhi => ?_)
  refine pk_le c a (fun h3 => h0 ?_) (fun h3 => ⟨pk_in a 720 (by omega), ?_⟩)
  · rintro ⟨i, hi, e⟩
    exact hlo i (by omega) (by rw [e]; exact Int32.le_refl _)
  · rw [sq_at f (by omega)]
    refine br_c (fun h4 => h1 ⟨a, h3, h4⟩) (fun h4 => h0 ?_)
    rintro ⟨i, hi, e⟩
    rcases Nat.lt_trichotomy i a with z | z | z
    · exact hlo i z (by rw [e]; exact Int32.le_refl _)
    · rw [z] at e; exact h4 e
    · have h5 := hhi h3
      have h6 := hup a i z hi
      have h7 := hf i hi
      rw [← e] at h5
      exact nI_ge h6 (by omega) h5
theorem sq_xPutL_lateSet {f : Nat → Nat} {c a o : Nat} {post : Int32 → SX → Prop} (hc : c < 720) (h : post (nI (c + 1)) ((nI n), f_explored, f_loadCount, f_orderCount, f_lateCount, f_strictCount, (sq_nA ow), (sq_nA kd), (sq_nA vr), (sq_nA vl), (sq_nA (sq_pu f c a o)), a_strictSet, a_place, a_earlier)) : ∀ N i, i < N → a ≤ i → i ≤ c → wX_insert__lateSet_47 post (nI c) (nI o) (nI a) (nI n) f_explored f_loadCount f_orderCount f_lateCount f_strictCount N (nI i) (sq_nA ow) (sq_nA kd) (sq_nA vr) (sq_nA vl) (sq_nA (sq_ps f c i)) a_strictSet a_place a_earlier := by
  intro N
  induction N with
  | zero => intro i h1; omega
  | succ N ih =>
    intro i h1 h2 h3
    refine pk_le i a (fun h4 => ?_) (fun h4 => ?_)
    · have ei : i = a := by omega
      subst ei
      refine ⟨pk_in i 720 (by omega), nm_r (sq_sto _ o (by omega)) ?_⟩
      rw [sq_ps_e, nI_1]
      exact h
    · obtain ⟨j, rfl⟩ : ∃ j, i = j + 1 := ⟨i - 1, by omega⟩
      have hp : nI (j + 1) - 1 = nI j := nI_pred j
      have cp : upd (sq_nA (sq_ps f c (j + 1))) (nI (j + 1)).toNatClampNeg (sq_nA (sq_ps f c (j + 1)) (nI (j + 1) - 1).toNatClampNeg) = sq_nA (sq_ps f c j) := by
        rw [hp, sq_cpy _ (by omega) (by omega), sq_ps_s f (by omega)]
      exact ⟨pk_in j 720 (by omega) hp, pk_in (j + 1) 720 (by omega), nm_r cp (nm_r (pk_m1 j) (ih j (by omega) (by omega) (by omega)))⟩
theorem sq_xPut_lateSet {f : Nat → Nat} {c o : Nat} {P : Nat → Prop} {post : Int32 → SX → Prop} (hc : c < 720) (ho : o < 262144) (hP : ∀ o, P o → o < 262144) (hS : sq_SS f c P) (h : ∀ f' c', c' ≤ c + 1 → sq_SS f' c' (fun x => P x ∨ x = o) → post (nI c') ((nI n), f_explored, f_loadCount, f_orderCount, f_lateCount, f_strictCount, (sq_nA ow), (sq_nA kd), (sq_nA vr), (sq_nA vl), (sq_nA f'), a_strictSet, a_place, a_earlier)) : wpX_insert__lateSet post ((nI n), f_explored, f_loadCount, f_orderCount, f_lateCount, f_strictCount, (sq_nA ow), (sq_nA kd), (sq_nA vr), (sq_nA vl), (sq_nA f), a_strictSet, a_place, a_earlier) (nI c) (nI o) := by
  have hf : ∀ i, i < c → f i < 262144 := fun i hi => hP _ ((hS.2 _).mpr ⟨i, hi, rfl⟩)
  refine sq_xFnl_lateSet (by omega) (fun a ha hlo hhi => ?_)
  have hlo' : ∀ i, i < a → f i < o := by
    intro i hi
    have h1 := hlo i hi
    have h2 := hf i (by omega)
    rw [nI_leI (by omega) (by omega)] at h1
    omega
  have fin : (a < c → o < f a) → wX_insert__lateSet_28 post (nI c) (nI o) (nI a) 0 (nI n) f_explored f_loadCount f_orderCount f_lateCount f_strictCount (sq_nA ow) (sq_nA kd) (sq_nA vr) (sq_nA vl) (sq_nA f) a_strictSet a_place a_earlier := by
    intro hne
    refine br_t rfl (pk_lt c 720 (fun _ => Exists.intro (c + 1) ?_) (fun z => by omega))
    have := sq_xPutL_lateSet (n := n) (ow := ow) (kd := kd) (vr := vr) (vl := vl) hc (h _ _ (Nat.le_refl _) (sq_SS_in hS ha hlo' hne)) (c + 1) c (by omega) ha (Nat.le_refl _)
    rw [sq_ps_0] at this
    exact this
  refine pk_le c a (fun h3 => fin (fun z => by omega)) (fun h3 => ⟨pk_in a 720 (by omega), ?_⟩)
  have h5 := hhi h3
  have h6 := hf a h3
  rw [nI_leI (by omega) (by omega)] at h5
  refine pk_eq (f a) o (fun h4 => ?_) (fun h4 => fin (fun _ => by omega)) (sq_at f (by omega)) rfl (by omega) (by omega)
  exact br_f (by decide) (h f c (by omega) (sq_SS_old hS ((hS.2 o).mpr ⟨a, h3, h4⟩)))
theorem sq_xCol_lateSet {F : Int32} {la0 : Nat → Nat} {post : Int32 → SX → Prop} (hW : sq_W n ow kd vr vl) (hP : ∀ i, i < n → a_place i = nI (2 * sq_sl kd vr i)) (h : ∀ (la : Nat → Nat) (L : Nat) (A : Nat → Int32), L ≤ 720 → sq_SS la L (sq_PX n ow kd vr vl (bt F)) → post (nI L) ((nI n), f_explored, f_loadCount, (nI (sq_fac n)), f_lateCount, f_strictCount, (sq_nA ow), (sq_nA kd), (sq_nA vr), (sq_nA vl), (sq_nA la), a_strictSet, a_place, A)) : wpX_collect__lateSet post ((nI n), f_explored, f_loadCount, (nI (sq_fac n)), f_lateCount, f_strictCount, (sq_nA ow), (sq_nA kd), (sq_nA vr), (sq_nA vl), (sq_nA la0), a_strictSet, a_place, a_earlier) F := by
  obtain ⟨hn, hw, hk3, hv3, hl4, _⟩ := id hW
  have h720 := sq_fac6 n hn
  refine sq_xEar hn hw hk3 (fun A hA => ?_)
  have key : ∀ N k c (la : Nat → Nat), sq_fac n - k < N → k ≤ sq_fac n → c ≤ k → sq_SS la c (sq_Pk n ow kd vr vl (bt F) k) → wX_collect__lateSet_10 post N (nI c) (nI k) (nI n) f_explored f_loadCount (nI (sq_fac n)) f_lateCount f_strictCount (sq_nA ow) (sq_nA kd) (sq_nA vr) (sq_nA vl) (sq_nA la) a_strictSet a_place A := by
    intro N
    induction N with
    | zero => intro k c la h1; omega
    | succ N ih =>
      intro k c la h1 h2 h3 hS
      refine pk_le (sq_fac n) k (fun h4 => ?_) (fun h4 => ?_)
      · have ek : k = sq_fac n := by omega
        subst ek
        exact h la c A (by omega) (sq_SS_c hS (fun o => sq_Pk_all o))
      · refine sq_xOut (F := F) hW (by omega) (sq_Qc n k) hA hP (fun hv => ?_) (fun hv => ?_)
        · have hlt := sq_sm_lt (sq_fx4 (ow := ow) (kd := kd) (vr := vr) (vl := vl) hl4 (sq_Q n k) n) 9
          have hlt' : sq_sm (sq_fx ow kd vr vl (sq_Q n k) n) 9 < 262144 := hlt
          have hne : ¬ nI (sq_sm (sq_fx ow kd vr vl (sq_Q n k) n) 9) = -4 := by
            intro z
            have := nI_pos (n := sq_sm (sq_fx ow kd vr vl (sq_Q n k) n) 9) (by omega)
            rw [z] at this
            exact this (by decide)
          refine br_f hne ?_
          refine sq_xPut_lateSet (P := sq_Pk n ow kd vr vl (bt F) k) (by omega) hlt' ?_ hS (fun f' c' hc' hS' => nm_r (nI_1 k) (ih (k + 1) c' f' (by omega) (by omega) (by omega) (sq_SS_c hS' (fun o => ?_))))
          · rintro o ⟨m, _, _, e⟩
            rw [e]
            exact sq_sm_lt (sq_fx4 hl4 _ n) 9
          · constructor
            · rintro (⟨m, hm, a, b⟩ | e)
              · exact ⟨m, by omega, a, b⟩
              · exact ⟨k, by omega, hv, e⟩
            · rintro ⟨m, hm, a, b⟩
              by_cases e : m = k
              · right; rw [b, e]
              · left; exact ⟨m, by omega, a, b⟩
        · refine br_t rfl (nm_r (nI_1 k) (ih (k + 1) c la (by omega) (by omega) (by omega) (sq_SS_c hS (fun o => ?_))))
          constructor
          · rintro ⟨m, hm, a, b⟩
            exact ⟨m, by omega, a, b⟩
          · rintro ⟨m, hm, a, b⟩
            by_cases e : m = k
            · rw [e] at a; exact absurd a hv
            · exact ⟨m, by omega, a, b⟩
  exact Exists.intro (sq_fac n + 1) (key (sq_fac n + 1) 0 0 la0 (by omega) (by omega) (by omega) (sq_SS_0 _ (fun o z => by obtain ⟨m, hm, _⟩ := z; omega)))
theorem sq_xFnl_strictSet {f : Nat → Nat} {c : Nat} {x : Int32} {post : Int32 → Prop} (hc : c ≤ 720) (h : ∀ a, a ≤ c → (∀ i, i < a → ¬ x ≤ nI (f i)) → (a < c → x ≤ nI (f a)) → post (nI a)) : wpX_firstNotLess__strictSet post ((nI n), f_explored, f_loadCount, f_orderCount, f_lateCount, f_strictCount, (sq_nA ow), (sq_nA kd), (sq_nA vr), (sq_nA vl), a_lateSet, (sq_nA f), a_place, a_earlier) (nI c) x := by
  have key : ∀ N a, c - a < N → a ≤ c → (∀ i, i < a → ¬ x ≤ nI (f i)) → wX_firstNotLess__strictSet_3 post (nI c) x (nI n) f_explored f_loadCount f_orderCount f_lateCount f_strictCount (sq_nA ow) (sq_nA kd) (sq_nA vr) (sq_nA vl) a_lateSet (sq_nA f) a_place a_earlier N (nI a) := by
    intro N
    induction N with
    | zero => intro a h1; omega
    | succ N ih =>
      intro a h1 h2 ha
      refine pk_le c a (fun h3 => h a h2 ha (fun z => by omega)) (fun h3 => ⟨pk_in a 720 (by omega), ?_⟩)
      rw [sq_at f (by omega)]
      refine br_c (fun h4 => h a h2 ha (fun _ => h4)) (fun h4 => nm_r (nI_1 a) (ih (a + 1) (by omega) (by omega) (fun i hi => ?_)))
      by_cases e : i = a
      · rw [e]; exact h4
      · exact ha i (by omega)
  exact Exists.intro (c + 1) (key (c + 1) 0 (by omega) (by omega) (fun i hi => by omega))
theorem sq_xHas_strictSet {f : Nat → Nat} {c : Nat} {x : Int32} {post : Int32 → Prop} (hc : c ≤ 720) (hf : ∀ i, i < c → f i < 262144) (hup : ∀ i j, i < j → j < c → f i < f j) (h1 : (∃ i, i < c ∧ nI (f i) = x) → post 1) (h0 : (¬ ∃ i, i < c ∧ nI (f i) = x) → post 0) : wpX_contains__strictSet post ((nI n), f_explored, f_loadCount, f_orderCount, f_lateCount, f_strictCount, (sq_nA ow), (sq_nA kd), (sq_nA vr), (sq_nA vl), a_lateSet, (sq_nA f), a_place, a_earlier) (nI c) x := by
  refine sq_xFnl_strictSet hc (fun a ha hlo hhi => ?_)
  refine pk_le c a (fun h3 => h0 ?_) (fun h3 => ⟨pk_in a 720 (by omega), ?_⟩)
  · rintro ⟨i, hi, e⟩
    exact hlo i (by omega) (by rw [e]; exact Int32.le_refl _)
  · rw [sq_at f (by omega)]
    refine br_c (fun h4 => h1 ⟨a, h3, h4⟩) (fun h4 => h0 ?_)
    rintro ⟨i, hi, e⟩
    rcases Nat.lt_trichotomy i a with z | z | z
    · exact hlo i z (by rw [e]; exact Int32.le_refl _)
    · rw [z] at e; exact h4 e
    · have h5 := hhi h3
      have h6 := hup a i z hi
      have h7 := hf i hi
      rw [← e] at h5
      exact nI_ge h6 (by omega) h5
theorem sq_xPutL_strictSet {f : Nat → Nat} {c a o : Nat} {post : Int32 → SX → Prop} (hc : c < 720) (h : post (nI (c + 1)) ((nI n), f_explored, f_loadCount, f_orderCount, f_lateCount, f_strictCount, (sq_nA ow), (sq_nA kd), (sq_nA vr), (sq_nA vl), a_lateSet, (sq_nA (sq_pu f c a o)), a_place, a_earlier)) : ∀ N i, i < N → a ≤ i → i ≤ c → wX_insert__strictSet_47 post (nI c) (nI o) (nI a) (nI n) f_explored f_loadCount f_orderCount f_lateCount f_strictCount N (nI i) (sq_nA ow) (sq_nA kd) (sq_nA vr) (sq_nA vl) a_lateSet (sq_nA (sq_ps f c i)) a_place a_earlier := by
  intro N
  induction N with
  | zero => intro i h1; omega
  | succ N ih =>
    intro i h1 h2 h3
    refine pk_le i a (fun h4 => ?_) (fun h4 => ?_)
    · have ei : i = a := by omega
      subst ei
      refine ⟨pk_in i 720 (by omega), nm_r (sq_sto _ o (by omega)) ?_⟩
      rw [sq_ps_e, nI_1]
      exact h
    · obtain ⟨j, rfl⟩ : ∃ j, i = j + 1 := ⟨i - 1, by omega⟩
      have hp : nI (j + 1) - 1 = nI j := nI_pred j
      have cp : upd (sq_nA (sq_ps f c (j + 1))) (nI (j + 1)).toNatClampNeg (sq_nA (sq_ps f c (j + 1)) (nI (j + 1) - 1).toNatClampNeg) = sq_nA (sq_ps f c j) := by
        rw [hp, sq_cpy _ (by omega) (by omega), sq_ps_s f (by omega)]
      exact ⟨pk_in j 720 (by omega) hp, pk_in (j + 1) 720 (by omega), nm_r cp (nm_r (pk_m1 j) (ih j (by omega) (by omega) (by omega)))⟩
theorem sq_xPut_strictSet {f : Nat → Nat} {c o : Nat} {P : Nat → Prop} {post : Int32 → SX → Prop} (hc : c < 720) (ho : o < 262144) (hP : ∀ o, P o → o < 262144) (hS : sq_SS f c P) (h : ∀ f' c', c' ≤ c + 1 → sq_SS f' c' (fun x => P x ∨ x = o) → post (nI c') ((nI n), f_explored, f_loadCount, f_orderCount, f_lateCount, f_strictCount, (sq_nA ow), (sq_nA kd), (sq_nA vr), (sq_nA vl), a_lateSet, (sq_nA f'), a_place, a_earlier)) : wpX_insert__strictSet post ((nI n), f_explored, f_loadCount, f_orderCount, f_lateCount, f_strictCount, (sq_nA ow), (sq_nA kd), (sq_nA vr), (sq_nA vl), a_lateSet, (sq_nA f), a_place, a_earlier) (nI c) (nI o) := by
  have hf : ∀ i, i < c → f i < 262144 := fun i hi => hP _ ((hS.2 _).mpr ⟨i, hi, rfl⟩)
  refine sq_xFnl_strictSet (by omega) (fun a ha hlo hhi => ?_)
  have hlo' : ∀ i, i < a → f i < o := by
    intro i hi
    have h1 := hlo i hi
    have h2 := hf i (by omega)
    rw [nI_leI (by omega) (by omega)] at h1
    omega
  have fin : (a < c → o < f a) → wX_insert__strictSet_28 post (nI c) (nI o) (nI a) 0 (nI n) f_explored f_loadCount f_orderCount f_lateCount f_strictCount (sq_nA ow) (sq_nA kd) (sq_nA vr) (sq_nA vl) a_lateSet (sq_nA f) a_place a_earlier := by
    intro hne
    refine br_t rfl (pk_lt c 720 (fun _ => Exists.intro (c + 1) ?_) (fun z => by omega))
    have := sq_xPutL_strictSet (n := n) (ow := ow) (kd := kd) (vr := vr) (vl := vl) hc (h _ _ (Nat.le_refl _) (sq_SS_in hS ha hlo' hne)) (c + 1) c (by omega) ha (Nat.le_refl _)
    rw [sq_ps_0] at this
    exact this
  refine pk_le c a (fun h3 => fin (fun z => by omega)) (fun h3 => ⟨pk_in a 720 (by omega), ?_⟩)
  have h5 := hhi h3
  have h6 := hf a h3
  rw [nI_leI (by omega) (by omega)] at h5
  refine pk_eq (f a) o (fun h4 => ?_) (fun h4 => fin (fun _ => by omega)) (sq_at f (by omega)) rfl (by omega) (by omega)
  exact br_f (by decide) (h f c (by omega) (sq_SS_old hS ((hS.2 o).mpr ⟨a, h3, h4⟩)))
theorem sq_xCol_strictSet {F : Int32} {la0 : Nat → Nat} {post : Int32 → SX → Prop} (hW : sq_W n ow kd vr vl) (hP : ∀ i, i < n → a_place i = nI (2 * sq_sl kd vr i)) (h : ∀ (la : Nat → Nat) (L : Nat) (A : Nat → Int32), L ≤ 720 → sq_SS la L (sq_PX n ow kd vr vl (bt F)) → post (nI L) ((nI n), f_explored, f_loadCount, (nI (sq_fac n)), f_lateCount, f_strictCount, (sq_nA ow), (sq_nA kd), (sq_nA vr), (sq_nA vl), a_lateSet, (sq_nA la), a_place, A)) : wpX_collect__strictSet post ((nI n), f_explored, f_loadCount, (nI (sq_fac n)), f_lateCount, f_strictCount, (sq_nA ow), (sq_nA kd), (sq_nA vr), (sq_nA vl), a_lateSet, (sq_nA la0), a_place, a_earlier) F := by
  obtain ⟨hn, hw, hk3, hv3, hl4, _⟩ := id hW
  have h720 := sq_fac6 n hn
  refine sq_xEar hn hw hk3 (fun A hA => ?_)
  have key : ∀ N k c (la : Nat → Nat), sq_fac n - k < N → k ≤ sq_fac n → c ≤ k → sq_SS la c (sq_Pk n ow kd vr vl (bt F) k) → wX_collect__strictSet_10 post N (nI c) (nI k) (nI n) f_explored f_loadCount (nI (sq_fac n)) f_lateCount f_strictCount (sq_nA ow) (sq_nA kd) (sq_nA vr) (sq_nA vl) a_lateSet (sq_nA la) a_place A := by
    intro N
    induction N with
    | zero => intro k c la h1; omega
    | succ N ih =>
      intro k c la h1 h2 h3 hS
      refine pk_le (sq_fac n) k (fun h4 => ?_) (fun h4 => ?_)
      · have ek : k = sq_fac n := by omega
        subst ek
        exact h la c A (by omega) (sq_SS_c hS (fun o => sq_Pk_all o))
      · refine sq_xOut (F := F) hW (by omega) (sq_Qc n k) hA hP (fun hv => ?_) (fun hv => ?_)
        · have hlt := sq_sm_lt (sq_fx4 (ow := ow) (kd := kd) (vr := vr) (vl := vl) hl4 (sq_Q n k) n) 9
          have hlt' : sq_sm (sq_fx ow kd vr vl (sq_Q n k) n) 9 < 262144 := hlt
          have hne : ¬ nI (sq_sm (sq_fx ow kd vr vl (sq_Q n k) n) 9) = -4 := by
            intro z
            have := nI_pos (n := sq_sm (sq_fx ow kd vr vl (sq_Q n k) n) 9) (by omega)
            rw [z] at this
            exact this (by decide)
          refine br_f hne ?_
          refine sq_xPut_strictSet (P := sq_Pk n ow kd vr vl (bt F) k) (by omega) hlt' ?_ hS (fun f' c' hc' hS' => nm_r (nI_1 k) (ih (k + 1) c' f' (by omega) (by omega) (by omega) (sq_SS_c hS' (fun o => ?_))))
          · rintro o ⟨m, _, _, e⟩
            rw [e]
            exact sq_sm_lt (sq_fx4 hl4 _ n) 9
          · constructor
            · rintro (⟨m, hm, a, b⟩ | e)
              · exact ⟨m, by omega, a, b⟩
              · exact ⟨k, by omega, hv, e⟩
            · rintro ⟨m, hm, a, b⟩
              by_cases e : m = k
              · right; rw [b, e]
              · left; exact ⟨m, by omega, a, b⟩
        · refine br_t rfl (nm_r (nI_1 k) (ih (k + 1) c la (by omega) (by omega) (by omega) (sq_SS_c hS (fun o => ?_))))
          constructor
          · rintro ⟨m, hm, a, b⟩
            exact ⟨m, by omega, a, b⟩
          · rintro ⟨m, hm, a, b⟩
            by_cases e : m = k
            · rw [e] at a; exact absurd a hv
            · exact ⟨m, by omega, a, b⟩
  exact Exists.intro (sq_fac n + 1) (key (sq_fac n + 1) 0 0 la0 (by omega) (by omega) (by omega) (sq_SS_0 _ (fun o z => by obtain ⟨m, hm, _⟩ := z; omega)))
theorem sq_xExp {post : SX → Prop} (hW : sq_W n ow kd vr vl) (hX : f_explored = 0 ∨ sq_XE n ow kd vr vl f_loadCount f_orderCount f_lateCount f_strictCount a_lateSet a_strictSet a_place)
    (h : ∀ (f_explored f_loadCount f_orderCount f_lateCount f_strictCount : Int32) (a_lateSet a_strictSet a_place a_earlier : Nat → Int32), sq_XE n ow kd vr vl f_loadCount f_orderCount f_lateCount f_strictCount a_lateSet a_strictSet a_place → post ((nI n), f_explored, f_loadCount, f_orderCount, f_lateCount, f_strictCount, (sq_nA ow), (sq_nA kd), (sq_nA vr), (sq_nA vl), a_lateSet, a_strictSet, a_place, a_earlier)) : wpX_explore post ((nI n), f_explored, f_loadCount, f_orderCount, f_lateCount, f_strictCount, (sq_nA ow), (sq_nA kd), (sq_nA vr), (sq_nA vl), a_lateSet, a_strictSet, a_place, a_earlier) := by
  obtain ⟨hn, hw, hk3, hv3, hl4, _⟩ := id hW
  refine br_c (fun _ => ?_) (fun h0 => h _ _ _ _ _ _ _ _ _ (hX.resolve_left h0))
  refine sq_xPlaces hn hk3 hv3 (fun p hp => ?_)
  refine sq_xCount hn ?_
  obtain ⟨la0, rfl⟩ := sq_rep a_lateSet
  obtain ⟨ss0, rfl⟩ := sq_rep a_strictSet
  refine sq_xCol_lateSet hW hp (fun la L A hL hS => ?_)
  refine sq_xCol_strictSet hW hp (fun ss S B hS2 hSS => ?_)
  exact h _ _ _ _ _ _ _ _ _ ⟨rfl, rfl, hp, L, S, la, ss, rfl, rfl, rfl, rfl, hL, hS2, hS, hSS⟩
end
