/-! ALL NEEDS: two ways to the same closure -/
/-- x within y -/
def sb_ (x y : Int32) : Prop := ∀ i, bt x i = true → bt y i = true
theorem sb_refl (x : Int32) : sb_ x x := fun _ h => h
theorem sb_trans {x y z : Int32} (h : sb_ x y) (h2 : sb_ y z) : sb_ x z := fun i hi => h2 i (h i hi)
theorem sb_anti {x y : Int32} (h : sb_ x y) (h2 : sb_ y x) : x = y := by
  refine b_ext (fun i _ => ?_)
  cases hx : bt x i with
  | true => exact (h i hx).symm
  | false =>
    cases hy : bt y i with
    | true => rw [h2 i hy] at hx; cases hx
    | false => rfl
theorem sb_or {x y z : Int32} (h : sb_ x z) (h2 : sb_ y z) : sb_ (x ||| y) z := fun i hi => by
  rw [b_or, Bool.or_eq_true] at hi
  exact hi.elim (h i) (h2 i)
theorem sb_or1 (x y : Int32) : sb_ x (x ||| y) := fun i hi => by rw [b_or, hi, Bool.true_or]
theorem sb_or2 (x y : Int32) : sb_ y (x ||| y) := fun i hi => by rw [b_or, hi, Bool.or_true]
theorem be_or {x y : Int32} {n : Nat} (h : be_ x n) (h2 : be_ y n) : be_ (x ||| y) n := fun i hi => by rw [b_or, h i hi, h2 i hi]; rfl
theorem be_nd (C : mv_M) {n : Nat} (hn : n ≤ 20) (c i : Nat) : be_ (nd_ C n c i) n := by
  unfold nd_
  split
  · exact fun i _ => b_0 i
  · split
    · exact mk_be _ hn
    · split
      · exact fun i _ => b_0 i
      · next h =>
        obtain ⟨j, h1, h2⟩ := (ch_val C n (cf_ C n c i)).resolve_left h
        rw [h1]
        intro k hk
        rw [bt_one (by omega), decide_eq_false (by omega)]
theorem be_dn (C : mv_M) {n : Nat} (hn : n ≤ 20) (c : Nat) : ∀ k, be_ (dn_ C n c k) n
  | 0 => fun i _ => b_0 i
  | k + 1 => be_or (be_dn C hn c k) (be_nd C hn c k)
/-- closed under the direct needs -/
def cd_ (C : mv_M) (n : Nat) (x : Int32) : Prop := ∀ j, j < n → bt x j = true → sb_ (dn_ C n j (dc_ C j)) x
theorem an_s (C : mv_M) (n : Nat) (x y : Int32) (j : Nat) : an_ C n x y (j + 1) = if ii_ x j = true then an_ C n x y j ||| dn_ C n j (dc_ C j) else an_ C n x y j := rfl
theorem an_in (C : mv_M) (n : Nat) (x y : Int32) : ∀ j : Nat, sb_ y (an_ C n x y j)
  | 0 => sb_refl y
  | j + 1 => by
    rw [an_s]
    split
    · exact sb_trans (an_in C n x y j) (sb_or1 _ _)
    · exact an_in C n x y j
theorem an_has (C : mv_M) (n : Nat) (x y : Int32) : ∀ m j : Nat, m ≤ 32 → j < m → bt x j = true → sb_ (dn_ C n j (dc_ C j)) (an_ C n x y m)
  | 0, j, _, h, _ => by omega
  | m + 1, j, hm, h, hb => by
    rw [an_s]
    by_cases e : j = m
    · subst e
      rw [ii_bt (by omega), if_pos hb]
      exact sb_or2 _ _
    · have ih := an_has C n x y m j (by omega) (by omega) hb
      split
      · exact sb_trans ih (sb_or1 _ _)
      · exact ih
theorem an_le (C : mv_M) (n : Nat) {x y z : Int32} (hy : sb_ y z) (hx : sb_ x z) (hz : cd_ C n z) : ∀ m : Nat, m ≤ n → n ≤ 20 → sb_ (an_ C n x y m) z
  | 0, _, _ => hy
  | m + 1, hm, hn => by
    rw [an_s]
    have ih := an_le C n hy hx hz m (by omega) hn
    split
    · next h =>
      rw [ii_bt (by omega)] at h
      exact sb_or ih (hz m (by omega) (hx m h))
    · exact ih
/-- one round in place -/
def gs_ (C : mv_M) (n : Nat) (x : Int32) : Nat → Int32
  | 0 => x
  | j + 1 => gs_ C n x j ||| (if bt (gs_ C n x j) j = true then dn_ C n j (dc_ C j) else 0)
theorem gs_s (C : mv_M) (n : Nat) (x : Int32) (j : Nat) : gs_ C n x (j + 1) = gs_ C n x j ||| (if bt (gs_ C n x j) j = true then dn_ C n j (dc_ C j) else 0) := rfl
theorem gs_in (C : mv_M) (n : Nat) (x : Int32) : ∀ j : Nat, sb_ x (gs_ C n x j)
  | 0 => sb_refl x
  | j + 1 => sb_trans (gs_in C n x j) (sb_or1 _ _)
theorem gs_has (C : mv_M) (n : Nat) (x : Int32) : ∀ m j : Nat, j < m → bt x j = true → sb_ (dn_ C n j (dc_ C j)) (gs_ C n x m)
  | 0, j, h, _ => by omega
  | m + 1, j, h, hb => by
    rw [gs_s]
    by_cases e : j = m
    · subst e
      rw [if_pos (gs_in C n x j j hb)]
      exact sb_or2 _ _
    · exact sb_trans (gs_has C n x m j (by omega) hb) (sb_or1 _ _)
theorem gs_le (C : mv_M) (n : Nat) {x z : Int32} (hx : sb_ x z) (hz : cd_ C n z) : ∀ m : Nat, m ≤ n → sb_ (gs_ C n x m) z
  | 0, _ => hx
  | m + 1, hm => by
    have ih := gs_le C n hx hz m (by omega)
    rw [gs_s]
    refine sb_or ih ?_
    split
    · next h => exact hz m (by omega) (ih m h)
    · intro i hi
      rw [b_0] at hi
      cases hi
def gr_ (C : mv_M) (n : Nat) : Nat → Int32 → Int32
  | 0, x => x
  | r + 1, x => gr_ C n r (gs_ C n x n)
theorem gr_s (C : mv_M) (n r : Nat) (x : Int32) : gr_ C n (r + 1) x = gr_ C n r (gs_ C n x n) := rfl
theorem cn_lt {x y : Int32} {n : Nat} (hxy : sb_ x y) (hn : n ≤ 20) (hy : be_ y n) (hne : ¬ y = x) : cn_ y n < cn_ x n := by
  have key : ∀ m, m ≤ 20 → cn_ y m ≤ cn_ x m ∧ ((∃ i, i < m ∧ bt y i = true ∧ bt x i = false) → cn_ y m < cn_ x m) := by
    intro m
    induction m with
    | zero => exact fun _ => ⟨Nat.le_refl _, fun ⟨i, h, _⟩ => by omega⟩
    | succ m ih =>
      intro hm
      obtain ⟨h1, h2⟩ := ih (by omega)
      unfold cn_
      rw [ii_bt (by omega), ii_bt (by omega)]
      cases hx : bt x m with
      | true =>
        rw [hxy m hx]
        simp only [if_true, Nat.add_zero]
        refine ⟨h1, fun ⟨i, g1, g2, g3⟩ => h2 ⟨i, ?_, g2, g3⟩⟩
        by_cases e : i = m
        · rw [e, hx] at g3; cases g3
        · omega
      | false =>
        simp only [Bool.false_eq_true, if_false]
        cases hb : bt y m with
        | true =>
          simp only [if_true, Nat.add_zero]
          exact ⟨by omega, fun _ => by omega⟩
        | false =>
          simp only [Bool.false_eq_true, if_false]
          refine ⟨by omega, fun ⟨i, g1, g2, g3⟩ => ?_⟩
          have := h2 ⟨i, by
            by_cases e : i = m
            · rw [e, hb] at g2; cases g2
            · omega, g2, g3⟩
          omega
  refine (key n hn).2 ?_
  apply Classical.byContradiction
  intro q
  refine hne (sb_anti (fun i hi => ?_) hxy)
  cases hx : bt x i with
  | true => rfl
  | false =>
    refine absurd ⟨i, ?_, hi, hx⟩ q
    rcases Nat.lt_or_ge i n with h | h
    · exact h
    · rw [hy i h] at hi; cases hi
theorem cn_full {x : Int32} {n : Nat} (hn : n ≤ 20) : cn_ x n = 0 → ∀ i, i < n → bt x i = true := by
  have key : ∀ m, m ≤ 20 → cn_ x m = 0 → ∀ i, i < m → bt x i = true := by
    intro m
    induction m with
    | zero => exact fun _ _ i h => by omega
    | succ m ih =>
      intro hm h i hi
      unfold cn_ at h
      rw [ii_bt (by omega)] at h
      cases hb : bt x m with
      | true =>
        by_cases e : i = m
        · rw [e]; exact hb
        · exact ih (by omega) (by omega) i (by omega)
      | false =>
        rw [hb] at h
        simp at h
  exact key n hn
theorem full_cd {C : mv_M} {x : Int32} {n : Nat} (hn : n ≤ 20) (h : ∀ i, i < n → bt x i = true) : cd_ C n x := fun j _ _ i hi => by
  rcases Nat.lt_or_ge i n with q | q
  · exact h i q
  · rw [be_dn C hn j _ i q] at hi; cases hi
theorem be_an (C : mv_M) {n : Nat} (hn : n ≤ 20) {x y : Int32} (hy : be_ y n) : ∀ m, be_ (an_ C n x y m) n
  | 0 => hy
  | m + 1 => by
    rw [an_s]
    split
    · exact be_or (be_an C hn hy m) (be_dn C hn m _)
    · exact be_an C hn hy m
theorem be_gs (C : mv_M) {n : Nat} (hn : n ≤ 20) {x : Int32} (hx : be_ x n) : ∀ m, be_ (gs_ C n x m) n
  | 0 => hx
  | m + 1 => by
    rw [gs_s]
    refine be_or (be_gs C hn hx m) ?_
    split
    · exact be_dn C hn m _
    · exact fun i _ => b_0 i
/-- the least closed one above x -/
def lc_ (C : mv_M) (n : Nat) (x r : Int32) : Prop := sb_ x r ∧ cd_ C n r ∧ ∀ z, sb_ x z → cd_ C n z → sb_ r z
theorem ao_lc (C : mv_M) {n : Nat} (hn : n ≤ 20) : ∀ (m : Nat) (x : Int32), be_ x n → cn_ x n ≤ m → lc_ C n x (ao_ C n m x)
  | 0, x, _, hc => show lc_ C n x x from ⟨sb_refl x, full_cd hn (cn_full hn (by omega)), fun z hz _ => hz⟩
  | m + 1, x, hx, hc => by
    unfold ao_
    split
    · next h =>
      rw [h]
      refine ⟨sb_refl x, fun j hj hb => ?_, fun z hz _ => hz⟩
      have := an_has C n x x n j (by omega) hj hb
      rw [h] at this
      exact this
    · next h =>
      have hlt := cn_lt (an_in C n x x n) hn (be_an C hn hx n) h
      obtain ⟨h1, h2, h3⟩ := ao_lc C hn m (an_ C n x x n) (be_an C hn hx n) (by omega)
      exact ⟨sb_trans (an_in C n x x n) h1, h2, fun z hz hzc => h3 z (an_le C n hz hz hzc n (Nat.le_refl n) hn) hzc⟩
theorem gr_cd (C : mv_M) {n : Nat} {x : Int32} (hx : cd_ C n x) : ∀ m, gr_ C n m x = x
  | 0 => rfl
  | m + 1 => by
    have h : gs_ C n x n = x := sb_anti (gs_le C n (sb_refl x) hx n (Nat.le_refl n)) (gs_in C n x n)
    rw [gr_s, h]
    exact gr_cd C hx m
theorem gr_lc (C : mv_M) {n : Nat} (hn : n ≤ 20) : ∀ (m : Nat) (x : Int32), be_ x n → cn_ x n ≤ m → lc_ C n x (gr_ C n m x)
  | 0, x, _, hc => show lc_ C n x x from ⟨sb_refl x, full_cd hn (cn_full hn (by omega)), fun z hz _ => hz⟩
  | m + 1, x, hx, hc => by
    by_cases h : gs_ C n x n = x
    · have hcd : cd_ C n x := fun j hj hb => by
        have := gs_has C n x n j hj hb
        rw [h] at this
        exact this
      rw [gr_cd C hcd]
      exact ⟨sb_refl x, hcd, fun z hz _ => hz⟩
    · rw [gr_s]
      have hlt := cn_lt (gs_in C n x n) hn (be_gs C hn hx n) h
      obtain ⟨h1, h2, h3⟩ := gr_lc C hn m (gs_ C n x n) (be_gs C hn hx n) (by omega)
      exact ⟨sb_trans (gs_in C n x n) h1, h2, fun z hz hzc => h3 z (gs_le C n hz hzc n (Nat.le_refl n)) hzc⟩
theorem ao_gr (C : mv_M) {n : Nat} (hn : n ≤ 20) (x : Int32) (hx : be_ x n) : gr_ C n n x = ao_ C n n x := by
  obtain ⟨a1, a2, a3⟩ := ao_lc C hn n x hx (cn_le x n)
  obtain ⟨b1, b2, b3⟩ := gr_lc C hn n x hx (cn_le x n)
  exact sb_anti (b3 _ a1 a2) (a3 _ b1 b2)
theorem lp_needs1 (d : Nat) {C M M' : mv_M} {n : Nat} {o : mv_O} (hD : dr_ C M n) (a b : Option mv_V) (r : Nat) (x : Int32) (hk : er_ (d + 6) 0 kX4_needs (83, [some (mv_R 22 0), a, some (mv_I (gs_ C n x n)), b, some (mv_I (nI n))], [], M) o M') : ∀ m j : Nat, j + m = n → er_ (d + 6) 0 kX4_needs (45, [some (mv_R 22 0), a, some (mv_I (gs_ C n x j)), b, some (mv_I (nI j))], [], M) o M' := by
  have hn := hD.2.1
  have h20 := hD.1.2.1
  intro m
  induction m with
  | zero =>
    intro j h1
    have hce : j = n := by omega
    subst hce
    refine e_run 3 rfl trivial ?_
    try simp only [hn]
    refine e_if rfl (fun h51 => ?_) (fun h51 => absurd (nI_le (by omega) (by omega)) h51)
    exact hk
  | succ m ih =>
    intro j h1
    have hb : (gs_ C n x j >>> (nI j &&& 31)) &&& 1 = if bt (gs_ C n x j) j = true then 1 else 0 := bt_shr' (by omega) _
    refine e_run 3 rfl trivial ?_
    try simp only [hn]
    refine e_if rfl (fun h51 => absurd h51 (nI_ge (by omega) (by omega))) (fun h51 => ?_)
    refine e_run 7 rfl trivial ?_
    try simp only [hn]
    refine e_if rfl (fun h62 => ?_) (fun h62 => ?_)
    · refine e_run 5 rfl trivial ?_
      try simp only [hn]
      (refine er_cong ?_ (ih (j + 1) (by omega)); rw [nI_1, gs_s]; clear ih hk; simp_all; done)
    · refine e_run 2 rfl trivial ?_
      try simp only [hn]
      refine e_calli rfl (ev_le (rs_directly d hD j (by omega)) (by omega)) (by decide) ?_
      try simp only [hn]
      refine e_run 5 rfl trivial ?_
      try simp only [hn]
      (refine er_cong ?_ (ih (j + 1) (by omega)); rw [nI_1, gs_s]; clear ih hk; simp_all; done)
theorem lp_needs2 (d : Nat) {C M : mv_M} {n : Nat} (hD : dr_ C M n) (a : Option mv_V) : ∀ (m r : Nat) (x : Int32) (z : Option mv_V), r + m = n → er_ (d + 6) 0 kX4_needs (34, [some (mv_R 22 0), a, some (mv_I x), some (mv_I (nI r)), z], [], M) (Sum.inl (some (mv_I (gr_ C n m x)))) M := by
  have hn := hD.2.1
  have h20 := hD.1.2.1
  intro m
  induction m with
  | zero =>
    intro r x z h1
    refine e_run 3 rfl trivial ?_
    try simp only [hn]
    refine e_if rfl (fun h39 => ?_) (fun h39 => absurd (nI_le (by omega) (by omega)) h39)
    refine e_run 1 rfl trivial ?_
    try simp only [hn]
    exact e_ret rfl trivial rfl rfl
  | succ m ih =>
    intro r x z h1
    rw [gr_s]
    refine e_run 3 rfl trivial ?_
    try simp only [hn]
    refine e_if rfl (fun h39 => absurd h39 (nI_ge (by omega) (by omega))) (fun h39 => ?_)
    refine e_run 2 rfl trivial ?_
    try simp only [hn]
    refine lp_needs1 d hD a (some (mv_I (nI r))) r x ?_ n 0 (by omega)
    refine e_run 2 rfl trivial ?_
    try simp only [hn]
    exact er_cong (by rw [nI_1]) (ih (r + 1) _ _ (by omega))
