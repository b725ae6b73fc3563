/-! the reference: goOver -/
theorem sq_slc (kd : Nat → Nat) : ∀ n, sq_cn (sq_ls kd) n + sq_cn (sq_ll kd) n ≤ n := by
  intro n
  induction n with
  | zero => exact Nat.le_refl _
  | succ n ih =>
    by_cases h : kd n = 0
    · rw [sq_cn_t (sq_lsT.mpr h), sq_cn_f (sq_llF (by omega))]; omega
    · rw [sq_cn_f (sq_lsF h), sq_cn_s]; split <;> omega
theorem sq_m720 : ∀ c, c < 7 → ∀ l, l < 7 → c + l ≤ 6 → sq_fac c * (c + 1) ^ l ≤ 720 := by decide +kernel
noncomputable def sq_sg (n : Nat) (kd : Nat → Nat) (s : Nat) : Nat := Classical.epsilon (fun i => i < n ∧ kd i = 0 ∧ sq_cn (sq_ls kd) i = s)
theorem sq_sgP {n : Nat} {kd : Nat → Nat} {s : Nat} (h : s < sq_cn (sq_ls kd) n) : sq_sg n kd s < n ∧ kd (sq_sg n kd s) = 0 ∧ sq_cn (sq_ls kd) (sq_sg n kd s) = s := Classical.epsilon_spec (sq_stA h)
theorem sq_sgI {n : Nat} {kd : Nat → Nat} {i : Nat} (hi : i < n) (h : kd i = 0) : sq_sg n kd (sq_cn (sq_ls kd) i) = i := by
  have := sq_sgP (sq_stL hi h)
  exact sq_stI this.2.1 h this.2.2
noncomputable def sq_lg (n : Nat) (kd : Nat → Nat) (s : Nat) : Nat := Classical.epsilon (fun i => i < n ∧ kd i = 1 ∧ sq_cn (sq_ll kd) i = s)
theorem sq_lgP {n : Nat} {kd : Nat → Nat} {s : Nat} (h : s < sq_cn (sq_ll kd) n) : sq_lg n kd s < n ∧ kd (sq_lg n kd s) = 1 ∧ sq_cn (sq_ll kd) (sq_lg n kd s) = s := Classical.epsilon_spec (sq_ldA h)
theorem sq_lgI {n : Nat} {kd : Nat → Nat} {i : Nat} (hi : i < n) (h : kd i = 1) : sq_lg n kd (sq_cn (sq_ll kd) i) = i := by
  have := sq_lgP (sq_ldL hi h)
  exact sq_ldI this.2.1 h this.2.2
noncomputable def sq_Pm (n : Nat) (kd : Nat → Nat) (m : Nat) : Nat → Nat := fun i => if i < n ∧ kd i = 0 then sq_Q (sq_cn (sq_ls kd) n) m (sq_cn (sq_ls kd) i) else 0
noncomputable def sq_Fm (n : Nat) (kd : Nat → Nat) (m : Nat) : Nat → Option Nat := fun j => if j < n ∧ kd j = 1 then (if m / (sq_cn (sq_ls kd) n + 1) ^ (sq_cn (sq_ll kd) j) % (sq_cn (sq_ls kd) n + 1) = 0 then none else some (sq_sg n kd (m / (sq_cn (sq_ls kd) n + 1) ^ (sq_cn (sq_ll kd) j) % (sq_cn (sq_ls kd) n + 1) - 1))) else none
theorem sq_PmV {n : Nat} {kd : Nat → Nat} {m i : Nat} (hi : i < n) (h : kd i = 0) : sq_Pm n kd m i = sq_Q (sq_cn (sq_ls kd) n) m (sq_cn (sq_ls kd) i) := if_pos ⟨hi, h⟩
theorem sq_FmV {n : Nat} {kd : Nat → Nat} {m j : Nat} (hj : j < n) (h : kd j = 1) : sq_Fm n kd m j = if m / (sq_cn (sq_ls kd) n + 1) ^ (sq_cn (sq_ll kd) j) % (sq_cn (sq_ls kd) n + 1) = 0 then none else some (sq_sg n kd (m / (sq_cn (sq_ls kd) n + 1) ^ (sq_cn (sq_ll kd) j) % (sq_cn (sq_ls kd) n + 1) - 1)) := if_pos ⟨hj, h⟩
theorem sq_PmB {n : Nat} {kd : Nat → Nat} {m i : Nat} (hi : i < n) (h : kd i = 0) : sq_Pm n kd m i < sq_cn (sq_ls kd) n := by
  rw [sq_PmV hi h]
  exact (sq_Qc _ m _ (sq_stL hi h)).1
theorem sq_PmI {n : Nat} {kd : Nat → Nat} {m : Nat} : ∀ a b, a < n → b < n → kd a = 0 → kd b = 0 → sq_Pm n kd m a = sq_Pm n kd m b → a = b := by
  intro a b ha hb ha0 hb0 e
  rw [sq_PmV ha ha0, sq_PmV hb hb0] at e
  exact sq_stI ha0 hb0 (sq_pm_inj (sq_cd_pm (sq_Qc _ m)) _ _ (sq_stL ha ha0) (sq_stL hb hb0) e)
theorem sq_mcl (n : Nat) (kd : Nat → Nat) (m r : Nat) : sq_cl n kd (sq_Pm n kd m) (sq_Fm n kd r) := ⟨fun a h => if_neg h, fun j h => if_neg h⟩
def sq_Yk (n : Nat) (ow kd vr vl : Nat → Nat) (S : Bool) (F : Nat → Bool) (k o : Nat) : Prop :=
  ∃ m, m < k ∧ sq_ok n ow kd vr S F (sq_Pm n kd (m / (sq_cn (sq_ls kd) n + 1) ^ sq_cn (sq_ll kd) n)) (sq_Fm n kd (m % (sq_cn (sq_ls kd) n + 1) ^ sq_cn (sq_ll kd) n)) ∧ ∃ f, sq_dg n kd vr vl (sq_Pm n kd (m / (sq_cn (sq_ls kd) n + 1) ^ sq_cn (sq_ll kd) n)) (sq_Fm n kd (m % (sq_cn (sq_ls kd) n + 1) ^ sq_cn (sq_ll kd) n)) f ∧ o = sq_sm f 9
theorem sq_Yk_all {n : Nat} {ow kd vr vl : Nat → Nat} {S : Bool} {F : Nat → Bool} (o : Nat) : sq_Yk n ow kd vr vl S F (sq_fac (sq_cn (sq_ls kd) n) * (sq_cn (sq_ls kd) n + 1) ^ sq_cn (sq_ll kd) n) o ↔ sq_PY n ow kd vr vl S F o := by
  generalize hC : (sq_cn (sq_ls kd) n + 1) ^ sq_cn (sq_ll kd) n = C
  have hC0 : 0 < C := by rw [← hC]; exact Nat.pow_pos (by omega)
  constructor
  · rintro ⟨m, hm, hok, f, hd, e⟩
    exact ⟨_, _, f, sq_mcl n kd _ _, fun a x y => sq_PmB x y, sq_PmI, hok, hd, e⟩
  · rintro ⟨P, Fo, f, ⟨hc1, hc2⟩, hb, hi, hok, hd, e⟩
    have hpm : sq_pm (sq_cn (sq_ls kd) n) (fun s => P (sq_sg n kd s)) := by
      refine sq_pm_of (fun t ht => ?_) (fun s t hst ht z => ?_)
      · have := sq_sgP ht
        exact hb _ this.1 this.2.1
      · have a := sq_sgP ht
        have b := sq_sgP (n := n) (kd := kd) (s := s) (by omega)
        have := hi _ _ b.1 a.1 b.2.1 a.2.1 z
        have x1 := a.2.2
        have x2 := b.2.2
        rw [this] at x2
        omega
    obtain ⟨m1, hm1, hcd⟩ := sq_cd_all hpm
    have hdet := sq_cd_det hcd (sq_Qc _ m1)
    have hdig : ∀ k, k < sq_cn (sq_ll kd) n → (match Fo (sq_lg n kd k) with | none => 0 | some s => sq_cn (sq_ls kd) s + 1) < sq_cn (sq_ls kd) n + 1 := by
      intro k hk
      have hl := sq_lgP hk
      have hmf := hok.1 _ hl.1 hl.2.1
      cases hf : Fo (sq_lg n kd k) with
      | none => show 0 < _; omega
      | some s =>
        rw [hf] at hmf
        have := sq_stL hmf.1 hmf.2.1
        show sq_cn (sq_ls kd) s + 1 < _
        omega
    obtain ⟨m2, hm2, hdg⟩ := sq_bas (sq_cn (sq_ls kd) n + 1) (by omega) (sq_cn (sq_ll kd) n) (fun k => match Fo (sq_lg n kd k) with | none => 0 | some s => sq_cn (sq_ls kd) s + 1) hdig
    rw [hC] at hm2
    have eP : sq_Pm n kd m1 = P := by
      funext i
      by_cases c : i < n ∧ kd i = 0
      · rw [sq_PmV c.1 c.2, ← hdet _ (sq_stL c.1 c.2)]
        show P (sq_sg n kd (sq_cn (sq_ls kd) i)) = P i
        rw [sq_sgI c.1 c.2]
      · rw [hc1 i c]; exact if_neg c
    have eF : sq_Fm n kd m2 = Fo := by
      funext j
      by_cases c : j < n ∧ kd j = 1
      · rw [sq_FmV c.1 c.2, hdg _ (sq_ldL c.1 c.2), sq_lgI c.1 c.2]
        have hmf := hok.1 _ c.1 c.2
        cases hf : Fo j with
        | none => rfl
        | some s =>
          rw [hf] at hmf
          show (if sq_cn (sq_ls kd) s + 1 = 0 then none else some (sq_sg n kd (sq_cn (sq_ls kd) s + 1 - 1))) = some s
          rw [if_neg (by omega), Nat.add_sub_cancel, sq_sgI hmf.1 hmf.2.1]
      · rw [hc2 j c]; exact if_neg c
    have e1 : (m1 * C + m2) / C = m1 := by
      rw [Nat.mul_comm, Nat.mul_add_div hC0, Nat.div_eq_of_lt hm2, Nat.add_zero]
    have e2 : (m1 * C + m2) % C = m2 := by
      rw [Nat.mul_comm, Nat.mul_add_mod, Nat.mod_eq_of_lt hm2]
    refine ⟨m1 * C + m2, ?_, ?_⟩
    · have : (m1 + 1) * C ≤ sq_fac (sq_cn (sq_ls kd) n) * C := Nat.mul_le_mul_right _ hm1
      rw [Nat.add_mul, Nat.one_mul] at this
      omega
    · rw [hC, e1, e2, eP, eF]
      exact ⟨hok, f, hd, e⟩
theorem sq_dg_lt {n : Nat} {kd vr vl P : Nat → Nat} {Fo : Nat → Option Nat} (hP : ∀ a b, a < n → b < n → kd a = 0 → kd b = 0 → P a = P b → a = b) {f g : Nat → Nat} (hg : ∀ d, g d < 4) (h1 : sq_dg n kd vr vl P Fo f) (h2 : sq_dg n kd vr vl P Fo g) : sq_sm f 9 < 262144 := by
  rw [sq_dg_uniq hP h1 h2]
  exact sq_sm_lt hg 9
theorem sq_dg_4 {n : Nat} {kd vr vl P : Nat → Nat} {Fo : Nat → Option Nat} (hl : ∀ i, vl i < 4) {f : Nat → Nat} (h1 : sq_dg n kd vr vl P Fo f) : sq_sm f 9 < 262144 := by
  obtain ⟨a1, a2, a3⟩ := h1
  have hvo : ∀ o, sq_vo vl o < 4 := by
    intro o
    cases o with
    | none => show 0 < 4; decide
    | some s => exact hl s
  have h4 : ∀ d, d < 9 → f d < 4 := by
    intro d hd
    by_cases h6 : d < 6
    · by_cases c : ∃ j, j < n ∧ kd j = 1 ∧ sq_sl kd vr j = d
      · obtain ⟨j, x, y, z⟩ := c
        rw [← z, a1 j x y]; exact hvo _
      · rw [a2 d h6 (fun j x y z => c ⟨j, x, y, z⟩)]; decide
    · have ed : d = 6 + (d - 6) := by omega
      rw [ed]
      obtain ⟨o, _, e⟩ := a3 (d - 6) (by omega)
      rw [e]; exact hvo o
  have e : sq_sm f 9 = sq_sm (fun d => if d < 9 then f d else 0) 9 := sq_sm_ext (fun d hd => (if_pos hd).symm)
  rw [e]
  refine sq_sm_lt (fun d => ?_) 9
  split
  · rename_i h; exact h4 d h
  · decide
section
variable {n : Nat} {ow kd vr vl : Nat → Nat} {yf_fences yf_storeCount yf_loadCount yf_listed yf_strictListed : Int32} {ya_stores ya_loads ya_found ya_place ya_after ya_list ya_strictList : Nat → Int32}
theorem sq_yFdm {m c l : Nat} {fo : Nat → Int32} (hn : n ≤ 6) (ec : c = sq_cn (sq_ls kd) n) (el : l = sq_cn (sq_ll kd) n) (h : ∀ k, k < l → fo k = nI (m / (c + 1) ^ k % (c + 1)) - 1) : sq_Fd n kd (sq_Fm n kd m) fo := by
  subst ec el
  intro j hj hj1
  have hc := sq_cn_le (sq_ls kd) n
  have hk := h _ (sq_ldL hj hj1)
  rw [sq_FmV hj hj1]
  generalize hd : m / (sq_cn (sq_ls kd) n + 1) ^ sq_cn (sq_ll kd) j % (sq_cn (sq_ls kd) n + 1) = d at *
  have hdl : d < sq_cn (sq_ls kd) n + 1 := by rw [← hd]; exact Nat.mod_lt _ (by omega)
  by_cases e : d = 0
  · left
    refine ⟨if_pos e, ?_⟩
    rw [hk, e]; decide
  · right
    have hs := sq_sgP (n := n) (kd := kd) (s := d - 1) (by omega)
    refine ⟨_, hs.1, hs.2.1, if_neg e, ?_⟩
    rw [hk, hs.2.2]
    exact pk_sub (a := d) (b := 1) (by omega)
theorem sq_yPlm {m c : Nat} {pl : Nat → Int32} (hn : n ≤ 6) (ec : c = sq_cn (sq_ls kd) n) (h : ∀ s, s < c → pl s = nI (sq_Q c m s)) : sq_Pl n kd (sq_Pm n kd m) pl := by
  subst ec
  intro i hi hi0
  have hc := sq_cn_le (sq_ls kd) n
  have := sq_PmB (m := m) hi hi0
  refine ⟨?_, by omega⟩
  rw [h _ (sq_stL hi hi0), sq_PmV hi hi0]
theorem sq_yGo0 {post : SY → Prop} (hW : sq_W n ow kd vr vl)
    (h : ∀ (la : Nat → Nat) (L : Nat) (st ld fo pl A : Nat → Int32), L ≤ 720 → sq_SS la L (sq_PY n ow kd vr vl Bool.false (bt yf_fences)) → post ((nI n), yf_fences, (nI (sq_cn (sq_ls kd) n)), (nI (sq_cn (sq_ll kd) n)), (nI L), yf_strictListed, (sq_nA kd), (sq_nA ow), (sq_nA vr), (sq_nA vl), st, ld, fo, pl, A, (sq_nA la), ya_strictList)) : wpY_goOver post ((nI n), yf_fences, yf_storeCount, yf_loadCount, yf_listed, yf_strictListed, (sq_nA kd), (sq_nA ow), (sq_nA vr), (sq_nA vl), ya_stores, ya_loads, ya_found, ya_place, ya_after, ya_list, ya_strictList) 0 := by
  obtain ⟨hn, hw, hk3, hv3, hl4, hso⟩ := id hW
  have hlc := sq_cn_le (sq_ll kd) n
  have hsc := sq_cn_le (sq_ls kd) n
  have hsl := sq_slc kd n
  have h720 := sq_m720 (sq_cn (sq_ls kd) n) (by omega) (sq_cn (sq_ll kd) n) (by omega) (by omega)
  have hall := fun o => sq_Yk_all (n := n) (ow := ow) (kd := kd) (vr := vr) (vl := vl) (S := Bool.false) (F := bt yf_fences) o
  have hC0 : 0 < (sq_cn (sq_ls kd) n + 1) ^ sq_cn (sq_ll kd) n := Nat.pow_pos (by omega)
  obtain ⟨la0, rfl⟩ := sq_rep ya_list
  refine sq_ySort (yf_storeCount := yf_storeCount) (yf_loadCount := yf_loadCount) hn hk3 (fun st ld hSt hLd => ?_)
  refine (br_t rfl ((br_t rfl ?_)))
  refine sq_yOrder (m := 0) (by omega) (by omega) rfl (sq_Qc _ 0) (fun pl0 _ => ?_)
  refine sq_yFound (m := 0) (by omega) (by omega) (by omega) rfl (fun fo0 _ => ?_)
  refine Exists.intro (sq_fac (sq_cn (sq_ls kd) n) * (sq_cn (sq_ls kd) n + 1) ^ sq_cn (sq_ll kd) n + 1) ?_
  have key : ∀ N m L (la : Nat → Nat) (pl fo A : Nat → Int32), sq_fac (sq_cn (sq_ls kd) n) * (sq_cn (sq_ls kd) n + 1) ^ sq_cn (sq_ll kd) n - m < N → m ≤ sq_fac (sq_cn (sq_ls kd) n) * (sq_cn (sq_ls kd) n + 1) ^ sq_cn (sq_ll kd) n → L ≤ m → sq_SS la L (sq_Yk n ow kd vr vl Bool.false (bt yf_fences) m) → wY_goOver_51 post 0 (nI (sq_fac (sq_cn (sq_ls kd) n))) (nI ((sq_cn (sq_ls kd) n + 1) ^ sq_cn (sq_ll kd) n)) N (nI m) (nI n) yf_fences (nI (sq_cn (sq_ls kd) n)) (nI (sq_cn (sq_ll kd) n)) (nI L) yf_strictListed (sq_nA kd) (sq_nA ow) (sq_nA vr) (sq_nA vl) st ld fo pl A (sq_nA la) ya_strictList := by
    intro N
    induction N with
    | zero => intro m L la pl fo A g; omega
    | succ N ih =>
      intro m L la pl fo A g1 g2 g3 hS
      have hCle : (sq_cn (sq_ls kd) n + 1) ^ sq_cn (sq_ll kd) n ≤ 720 := by
        have f0 : 0 < sq_fac (sq_cn (sq_ls kd) n) := by
          have : ∀ k, 0 < sq_fac k := by
            intro k
            induction k with
            | zero => decide
            | succ k ih => exact Nat.mul_pos (by omega) ih
          exact this _
        exact Nat.le_trans (Nat.le_mul_of_pos_left _ f0) h720
      refine pk_le (sq_fac (sq_cn (sq_ls kd) n) * (sq_cn (sq_ls kd) n + 1) ^ sq_cn (sq_ll kd) n) m (fun g4 => ?_) (fun g4 => ?_) (pk_mul _ _)
      · have em : m = sq_fac (sq_cn (sq_ls kd) n) * (sq_cn (sq_ls kd) n + 1) ^ sq_cn (sq_ll kd) n := by omega
        refine h la L st ld fo pl A (by omega) (sq_SS_c hS (fun o => ?_))
        rw [em]
        exact hall o
      · have hne : ¬ nI ((sq_cn (sq_ls kd) n + 1) ^ sq_cn (sq_ll kd) n) = 0 := nI_ne0 hC0 (by omega)
        have hd1 := Nat.div_le_self m ((sq_cn (sq_ls kd) n + 1) ^ sq_cn (sq_ll kd) n)
        have hd2 := Nat.mod_le m ((sq_cn (sq_ls kd) n + 1) ^ sq_cn (sq_ll kd) n)
        refine ⟨hne, ?_⟩
        refine sq_yOrder (m := m / (sq_cn (sq_ls kd) n + 1) ^ sq_cn (sq_ll kd) n) (by omega) (by omega) (pk_div (by omega) hC0 (by omega)) (sq_Qc _ _) (fun pl' hpl' => ⟨hne, ?_⟩)
        refine sq_yFound (m := m % (sq_cn (sq_ls kd) n + 1) ^ sq_cn (sq_ll kd) n) (by omega) (by omega) (by omega) (pk_rem (by omega) hC0 (by omega)) (fun fo' hfo' => ?_)
        have hPl := sq_yPlm hn rfl hpl'
        have hFd := sq_yFdm hn rfl rfl hfo'
        refine sq_yAll (S := Bool.false) hW (by decide) hSt hLd hPl hFd (fun hok A' => ?_) (fun hok A' => ?_)
        · refine br_f (by decide) ?_
          refine sq_yNow hW hSt hPl hFd (fun f hf4 hdg => ?_)
          refine sq_yNo_ (P := sq_Yk n ow kd vr vl Bool.false (bt yf_fences) m) (by omega) (sq_sm_lt hf4 9) ?_ hS (fun f' c' hc' hS' => nm_r (nI_1 m) (ih (m + 1) c' f' pl' fo' A' (by omega) (by omega) (by omega) (sq_SS_c hS' (fun o => ?_))))
          · rintro o ⟨m', _, _, f'', hd'', e⟩
            rw [e]; exact sq_dg_4 hl4 hd''
          · constructor
            · rintro (⟨m', hm', a, b⟩ | e)
              · exact ⟨m', by omega, a, b⟩
              · exact ⟨m, by omega, hok, f, hdg, e⟩
            · rintro ⟨m', hm', a, f'', hd'', e⟩
              by_cases em : m' = m
              · subst em
                right
                rw [e]
                exact sq_dg_uniq sq_PmI hd'' hdg
              · left
                exact ⟨m', by omega, a, f'', hd'', e⟩
        · refine br_t rfl (nm_r (nI_1 m) (ih (m + 1) L la pl' fo' A' (by omega) (by omega) (by omega) (sq_SS_c hS (fun o => ?_))))
          constructor
          · rintro ⟨m', hm', a, b⟩
            exact ⟨m', by omega, a, b⟩
          · rintro ⟨m', hm', a, b⟩
            by_cases em : m' = m
            · subst em; exact absurd a hok
            · exact ⟨m', by omega, a, b⟩
  exact key _ 0 0 la0 pl0 fo0 ya_after (by omega) (by omega) (by omega) (sq_SS_0 _ (fun o z => by obtain ⟨m', hm', _⟩ := z; omega))
theorem sq_yGo1 {post : SY → Prop} (hW : sq_W n ow kd vr vl)
    (h : ∀ (la : Nat → Nat) (L : Nat) (st ld fo pl A : Nat → Int32), L ≤ 720 → sq_SS la L (sq_PY n ow kd vr vl Bool.true (bt yf_fences)) → post ((nI n), yf_fences, (nI (sq_cn (sq_ls kd) n)), (nI (sq_cn (sq_ll kd) n)), yf_listed, (nI L), (sq_nA kd), (sq_nA ow), (sq_nA vr), (sq_nA vl), st, ld, fo, pl, A, ya_list, (sq_nA la))) : wpY_goOver post ((nI n), yf_fences, yf_storeCount, yf_loadCount, yf_listed, yf_strictListed, (sq_nA kd), (sq_nA ow), (sq_nA vr), (sq_nA vl), ya_stores, ya_loads, ya_found, ya_place, ya_after, ya_list, ya_strictList) 1 := by
  obtain ⟨hn, hw, hk3, hv3, hl4, hso⟩ := id hW
  have hlc := sq_cn_le (sq_ll kd) n
  have hsc := sq_cn_le (sq_ls kd) n
  have hsl := sq_slc kd n
  have h720 := sq_m720 (sq_cn (sq_ls kd) n) (by omega) (sq_cn (sq_ll kd) n) (by omega) (by omega)
  have hall := fun o => sq_Yk_all (n := n) (ow := ow) (kd := kd) (vr := vr) (vl := vl) (S := Bool.true) (F := bt yf_fences) o
  have hC0 : 0 < (sq_cn (sq_ls kd) n + 1) ^ sq_cn (sq_ll kd) n := Nat.pow_pos (by omega)
  obtain ⟨la0, rfl⟩ := sq_rep ya_strictList
  refine sq_ySort (yf_storeCount := yf_storeCount) (yf_loadCount := yf_loadCount) hn hk3 (fun st ld hSt hLd => ?_)
  refine (br_f (by decide) ((br_f (by decide) ?_)))
  refine sq_yOrder (m := 0) (by omega) (by omega) rfl (sq_Qc _ 0) (fun pl0 _ => ?_)
  refine sq_yFound (m := 0) (by omega) (by omega) (by omega) rfl (fun fo0 _ => ?_)
  refine Exists.intro (sq_fac (sq_cn (sq_ls kd) n) * (sq_cn (sq_ls kd) n + 1) ^ sq_cn (sq_ll kd) n + 1) ?_
  have key : ∀ N m L (la : Nat → Nat) (pl fo A : Nat → Int32), sq_fac (sq_cn (sq_ls kd) n) * (sq_cn (sq_ls kd) n + 1) ^ sq_cn (sq_ll kd) n - m < N → m ≤ sq_fac (sq_cn (sq_ls kd) n) * (sq_cn (sq_ls kd) n + 1) ^ sq_cn (sq_ll kd) n → L ≤ m → sq_SS la L (sq_Yk n ow kd vr vl Bool.true (bt yf_fences) m) → wY_goOver_51 post 1 (nI (sq_fac (sq_cn (sq_ls kd) n))) (nI ((sq_cn (sq_ls kd) n + 1) ^ sq_cn (sq_ll kd) n)) N (nI m) (nI n) yf_fences (nI (sq_cn (sq_ls kd) n)) (nI (sq_cn (sq_ll kd) n)) yf_listed (nI L) (sq_nA kd) (sq_nA ow) (sq_nA vr) (sq_nA vl) st ld fo pl A ya_list (sq_nA la) := by
    intro N
    induction N with
    | zero => intro m L la pl fo A g; omega
    | succ N ih =>
      intro m L la pl fo A g1 g2 g3 hS
      have hCle : (sq_cn (sq_ls kd) n + 1) ^ sq_cn (sq_ll kd) n ≤ 720 := by
        have f0 : 0 < sq_fac (sq_cn (sq_ls kd) n) := by
          have : ∀ k, 0 < sq_fac k := by
            intro k
            induction k with
            | zero => decide
            | succ k ih => exact Nat.mul_pos (by omega) ih
          exact this _
        exact Nat.le_trans (Nat.le_mul_of_pos_left _ f0) h720
      refine pk_le (sq_fac (sq_cn (sq_ls kd) n) * (sq_cn (sq_ls kd) n + 1) ^ sq_cn (sq_ll kd) n) m (fun g4 => ?_) (fun g4 => ?_) (pk_mul _ _)
      · have em : m = sq_fac (sq_cn (sq_ls kd) n) * (sq_cn (sq_ls kd) n + 1) ^ sq_cn (sq_ll kd) n := by omega
        refine h la L st ld fo pl A (by omega) (sq_SS_c hS (fun o => ?_))
        rw [em]
        exact hall o
      · have hne : ¬ nI ((sq_cn (sq_ls kd) n + 1) ^ sq_cn (sq_ll kd) n) = 0 := nI_ne0 hC0 (by omega)
        have hd1 := Nat.div_le_self m ((sq_cn (sq_ls kd) n + 1) ^ sq_cn (sq_ll kd) n)
        have hd2 := Nat.mod_le m ((sq_cn (sq_ls kd) n + 1) ^ sq_cn (sq_ll kd) n)
        refine ⟨hne, ?_⟩
        refine sq_yOrder (m := m / (sq_cn (sq_ls kd) n + 1) ^ sq_cn (sq_ll kd) n) (by omega) (by omega) (pk_div (by omega) hC0 (by omega)) (sq_Qc _ _) (fun pl' hpl' => ⟨hne, ?_⟩)
        refine sq_yFound (m := m % (sq_cn (sq_ls kd) n + 1) ^ sq_cn (sq_ll kd) n) (by omega) (by omega) (by omega) (pk_rem (by omega) hC0 (by omega)) (fun fo' hfo' => ?_)
        have hPl := sq_yPlm hn rfl hpl'
        have hFd := sq_yFdm hn rfl rfl hfo'
        refine sq_yAll (S := Bool.true) hW (by decide) hSt hLd hPl hFd (fun hok A' => ?_) (fun hok A' => ?_)
        · refine br_f (by decide) ?_
          refine sq_yNow hW hSt hPl hFd (fun f hf4 hdg => ?_)
          refine sq_ySn_ (P := sq_Yk n ow kd vr vl Bool.true (bt yf_fences) m) (by omega) (sq_sm_lt hf4 9) ?_ hS (fun f' c' hc' hS' => nm_r (nI_1 m) (ih (m + 1) c' f' pl' fo' A' (by omega) (by omega) (by omega) (sq_SS_c hS' (fun o => ?_))))
          · rintro o ⟨m', _, _, f'', hd'', e⟩
            rw [e]; exact sq_dg_4 hl4 hd''
          · constructor
            · rintro (⟨m', hm', a, b⟩ | e)
              · exact ⟨m', by omega, a, b⟩
              · exact ⟨m, by omega, hok, f, hdg, e⟩
            · rintro ⟨m', hm', a, f'', hd'', e⟩
              by_cases em : m' = m
              · subst em
                right
                rw [e]
                exact sq_dg_uniq sq_PmI hd'' hdg
              · left
                exact ⟨m', by omega, a, f'', hd'', e⟩
        · refine br_t rfl (nm_r (nI_1 m) (ih (m + 1) L la pl' fo' A' (by omega) (by omega) (by omega) (sq_SS_c hS (fun o => ?_))))
          constructor
          · rintro ⟨m', hm', a, b⟩
            exact ⟨m', by omega, a, b⟩
          · rintro ⟨m', hm', a, b⟩
            by_cases em : m' = m
            · subst em; exact absurd a hok
            · exact ⟨m', by omega, a, b⟩
  exact key _ 0 0 la0 pl0 fo0 ya_after (by omega) (by omega) (by omega) (sq_SS_0 _ (fun o z => by obtain ⟨m', hm', _⟩ := z; omega))
end
