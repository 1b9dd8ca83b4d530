/-! THE CLASS'S METHODS, ONE BY ONE -/
theorem er_cong {d b k : Nat} {s s1 : mv_S} {o : mv_O} {M' : mv_M} (h : s1 = s) (he : er_ d b k s1 o M') : er_ d b k s o M' := h ▸ he
theorem rd_ (M : mv_M) (g j : Nat) (f : Nat → Int32) (a b : Nat) : mv_cp M g j f a b = if a = g ∧ b = j then f else M a b := rfl
theorem up_ (f : Nat → Int32) (k : Nat) (x : Int32) (j : Nat) : upd f k x j = if j = k then x else f j := rfl
theorem cl_0 : Int32.toNatClampNeg 0 = 0 := by decide
theorem cl_1 : Int32.toNatClampNeg 1 = 1 := by decide
theorem cl_2 : Int32.toNatClampNeg 2 = 2 := by decide
theorem cl_3 : Int32.toNatClampNeg 3 = 3 := by decide
theorem cl_4 : Int32.toNatClampNeg 4 = 4 := by decide
theorem cl_5 : Int32.toNatClampNeg 5 = 5 := by decide
theorem cl_6 : Int32.toNatClampNeg 6 = 6 := by decide
theorem ix_3 (i p : Nat) : nI i * 3 + nI p = nI (3 * i + p) := by rw [show (3 : Int32) = nI 3 from rfl, pk_mul, nI_add, Nat.mul_comm]
theorem ix_3' (i : Nat) : nI i * 3 = nI (3 * i) := by rw [show (3 : Int32) = nI 3 from rfl, pk_mul, Nat.mul_comm]
theorem nI_inj {a b : Nat} (ha : a < 2 ^ 31) (hb : b < 2 ^ 31) (h : nI a = nI b) : a = b := (nI_eq ha hb).mp h
theorem nI_lt_of {c n : Nat} (h : ¬ nI n ≤ nI c) (hc : c < 2 ^ 31) : c < n := by
  rcases Nat.lt_or_ge c n with q9 | q9
  · exact q9
  · exact absurd (nI_le q9 hc) h
theorem nI_eq_of {c n : Nat} (h : nI n ≤ nI c) (hc : c ≤ n) (hn : n < 2 ^ 31) : c = n := by
  rcases Nat.lt_or_ge c n with q9 | q9
  · exact absurd h (nI_ge q9 hn)
  · omega
def ac_ (M : mv_M) (c : Nat) : Bool := decide (M 19 c 5 = -1 ∨ ¬ M 1 0 4 &&& (1 <<< (M 19 c 5 &&& 31)) = 0)
def pv_ (M : mv_M) (t q : Int32) (c : Nat) : Bool := decide ((¬ M 19 c 0 &&& (1 <<< (t &&& 31)) = 0) ∧ (q = -1 ∨ M 19 c 2 = q))
def cb_ (M : mv_M) (t q : Int32) (c : Nat) : Bool := ac_ M c && pv_ M t q c
def ii_ (x : Int32) (i : Nat) : Bool := !decide (x &&& (1 <<< (nI i &&& 31)) = 0)
/-- is between -/
def bw_ (v lo hi : Int32) : Bool := !decide (v < lo) && !decide (hi < v)
theorem sp_isBetween (d : Nat) (M : mv_M) (v lo hi : Int32) : ev_ d kX3_isBetween [mv_I v, mv_I lo, mv_I hi] M (Sum.inl (some (mv_I (if bw_ v lo hi = true then 1 else 0)))) M := by
  refine e_ev rfl rfl ?_
  refine e_run 2 rfl trivial ?_
  refine e_if rfl (fun h2 => ?_) (fun h2 => ?_)
  · refine e_run 1 rfl trivial ?_
    (refine e_ret rfl ?_ ?_ rfl <;> first | exact Or.inl rfl | exact Or.inr rfl | (simp_all [bw_]; done))
  · refine e_run 2 rfl trivial ?_
    refine e_if rfl (fun h7 => ?_) (fun h7 => ?_)
    · refine e_run 1 rfl trivial ?_
      (refine e_ret rfl ?_ ?_ rfl <;> first | exact Or.inl rfl | exact Or.inr rfl | (simp_all [bw_]; done))
    · refine e_run 2 rfl trivial ?_
      (refine e_ret rfl ?_ ?_ rfl <;> first | exact Or.inl rfl | exact Or.inr rfl | (simp_all [bw_]; done))
theorem sp_isIn (d : Nat) (M : mv_M) (x : Int32) (i : Nat) : ev_ d kX3_isIn [mv_I x, mv_I (nI i)] M (Sum.inl (some (mv_I (if ii_ x i = true then 1 else 0)))) M := by
  refine e_ev rfl rfl ?_
  refine e_run 5 rfl trivial ?_
  refine e_if rfl (fun h5 => ?_) (fun h5 => ?_)
  · refine e_run 1 rfl trivial ?_
    (refine e_ret rfl ?_ ?_ rfl <;> first | exact Or.inl rfl | exact Or.inr rfl | (simp_all [ii_]; done))
  · refine e_run 2 rfl trivial ?_
    (refine e_ret rfl ?_ ?_ rfl <;> first | exact Or.inl rfl | exact Or.inr rfl | (simp_all [ii_]; done))
theorem sp_isActive (d : Nat) (M : mv_M) (c : Nat) (hc : c < 20) : ev_ d kX0_isActive [mv_R 1 0, mv_I (nI c)] M (Sum.inl (some (mv_I (if ac_ M c = true then 1 else 0)))) M := by
  have hcl : (nI c).toNatClampNeg = c := nI_clamp (by omega)
  refine e_ev rfl rfl ?_
  refine e_run 9 rfl ?_ ?_
  · ((try simp only [hcl, cl_0, cl_1, cl_2, cl_3, cl_4, cl_5, cl_6]) <;> and_intros <;> first | trivial | exact in_n (by omega) (by omega) | omega | (unfold vp_in; decide) | (simp only [*]; omega))
  try simp only [hcl, cl_0, cl_1, cl_2, cl_3, cl_4, cl_5, cl_6]
  refine e_if rfl (fun h11 => ?_) (fun h11 => ?_)
  · refine e_run 2 rfl trivial ?_
    try simp only [hcl, cl_0, cl_1, cl_2, cl_3, cl_4, cl_5, cl_6]
    (refine e_ret rfl ?_ ?_ rfl <;> first | exact Or.inl rfl | exact Or.inr rfl | (simp_all [ac_]; done))
  · refine e_run 6 rfl trivial ?_
    try simp only [hcl, cl_0, cl_1, cl_2, cl_3, cl_4, cl_5, cl_6]
    refine e_if rfl (fun h22 => ?_) (fun h22 => ?_)
    · refine e_run 1 rfl trivial ?_
      try simp only [hcl, cl_0, cl_1, cl_2, cl_3, cl_4, cl_5, cl_6]
      (refine e_ret rfl ?_ ?_ rfl <;> first | exact Or.inl rfl | exact Or.inr rfl | (simp_all [ac_]; done))
    · refine e_run 2 rfl trivial ?_
      try simp only [hcl, cl_0, cl_1, cl_2, cl_3, cl_4, cl_5, cl_6]
      (refine e_ret rfl ?_ ?_ rfl <;> first | exact Or.inl rfl | exact Or.inr rfl | (simp_all [ac_]; done))
theorem sp_provides (d : Nat) (M : mv_M) (c : Nat) (t q : Int32) (hc : c < 20) : ev_ d kX0_provides [mv_R 1 0, mv_I (nI c), mv_I t, mv_I q] M (Sum.inl (some (mv_I (if pv_ M t q c = true then 1 else 0)))) M := by
  have hcl : (nI c).toNatClampNeg = c := nI_clamp (by omega)
  refine e_ev rfl rfl ?_
  refine e_run 10 rfl ?_ ?_
  · ((try simp only [hcl, cl_0, cl_1, cl_2, cl_3, cl_4, cl_5, cl_6]) <;> and_intros <;> first | trivial | exact in_n (by omega) (by omega) | omega | (unfold vp_in; decide) | (simp only [*]; omega))
  try simp only [hcl, cl_0, cl_1, cl_2, cl_3, cl_4, cl_5, cl_6]
  refine e_if rfl (fun h12 => ?_) (fun h12 => ?_)
  · refine e_run 1 rfl trivial ?_
    try simp only [hcl, cl_0, cl_1, cl_2, cl_3, cl_4, cl_5, cl_6]
    (refine e_ret rfl ?_ ?_ rfl <;> first | exact Or.inl rfl | exact Or.inr rfl | (simp_all [pv_]; done))
  · refine e_run 2 rfl trivial ?_
    try simp only [hcl, cl_0, cl_1, cl_2, cl_3, cl_4, cl_5, cl_6]
    refine e_if rfl (fun h17 => ?_) (fun h17 => ?_)
    · refine e_run 2 rfl trivial ?_
      try simp only [hcl, cl_0, cl_1, cl_2, cl_3, cl_4, cl_5, cl_6]
      (refine e_ret rfl ?_ ?_ rfl <;> first | exact Or.inl rfl | exact Or.inr rfl | (simp_all [pv_]; done))
    · refine e_run 7 rfl ?_ ?_
      · ((try simp only [hcl, cl_0, cl_1, cl_2, cl_3, cl_4, cl_5, cl_6]) <;> and_intros <;> first | trivial | exact in_n (by omega) (by omega) | omega | (unfold vp_in; decide) | (simp only [*]; omega))
      try simp only [hcl, cl_0, cl_1, cl_2, cl_3, cl_4, cl_5, cl_6]
      refine e_if rfl (fun h29 => ?_) (fun h29 => ?_)
      · refine e_run 1 rfl trivial ?_
        try simp only [hcl, cl_0, cl_1, cl_2, cl_3, cl_4, cl_5, cl_6]
        (refine e_ret rfl ?_ ?_ rfl <;> first | exact Or.inl rfl | exact Or.inr rfl | (simp_all [pv_]; done))
      · refine e_run 2 rfl trivial ?_
        try simp only [hcl, cl_0, cl_1, cl_2, cl_3, cl_4, cl_5, cl_6]
        (refine e_ret rfl ?_ ?_ rfl <;> first | exact Or.inl rfl | exact Or.inr rfl | (simp_all [pv_]; done))
theorem sp_isStarted (d : Nat) (M : mv_M) (c : Nat) (hc : c < 20) : ev_ (d + 1) kX0_isStarted [mv_R 1 0, mv_I (nI c)] M (Sum.inl (some (mv_I (if ac_ M c = true ∧ M 19 c 1 = 0 ∧ M 19 c 4 = 0 then 1 else 0)))) M := by
  have hcl : (nI c).toNatClampNeg = c := nI_clamp (by omega)
  refine e_ev rfl rfl ?_
  refine e_run 2 rfl trivial ?_
  try simp only [hcl, cl_0, cl_1, cl_2, cl_3, cl_4, cl_5, cl_6]
  refine e_calli rfl (sp_isActive d M c hc) (by decide) ?_
  try simp only [hcl, cl_0, cl_1, cl_2, cl_3, cl_4, cl_5, cl_6]
  refine e_if rfl (fun h5 => ?_) (fun h5 => ?_)
  · refine e_run 1 rfl trivial ?_
    try simp only [hcl, cl_0, cl_1, cl_2, cl_3, cl_4, cl_5, cl_6]
    (refine e_ret rfl ?_ ?_ rfl <;> first | trivial | exact Or.inl rfl | exact Or.inr rfl | rfl | (simp_all; done))
  · refine e_run 6 rfl ?_ ?_
    · ((try simp only [hcl, cl_0, cl_1, cl_2, cl_3, cl_4, cl_5, cl_6]) <;> and_intros <;> first | trivial | exact in_n (by omega) (by omega) | omega | (unfold vp_in; decide) | (simp only [*]; omega))
    try simp only [hcl, cl_0, cl_1, cl_2, cl_3, cl_4, cl_5, cl_6]
    refine e_if rfl (fun h16 => ?_) (fun h16 => ?_)
    · refine e_run 1 rfl trivial ?_
      try simp only [hcl, cl_0, cl_1, cl_2, cl_3, cl_4, cl_5, cl_6]
      (refine e_ret rfl ?_ ?_ rfl <;> first | trivial | exact Or.inl rfl | exact Or.inr rfl | rfl | (simp_all; done))
    · refine e_run 6 rfl ?_ ?_
      · ((try simp only [hcl, cl_0, cl_1, cl_2, cl_3, cl_4, cl_5, cl_6]) <;> and_intros <;> first | trivial | exact in_n (by omega) (by omega) | omega | (unfold vp_in; decide) | (simp only [*]; omega))
      try simp only [hcl, cl_0, cl_1, cl_2, cl_3, cl_4, cl_5, cl_6]
      refine e_if rfl (fun h27 => ?_) (fun h27 => ?_)
      · refine e_run 1 rfl trivial ?_
        try simp only [hcl, cl_0, cl_1, cl_2, cl_3, cl_4, cl_5, cl_6]
        (refine e_ret rfl ?_ ?_ rfl <;> first | trivial | exact Or.inl rfl | exact Or.inr rfl | rfl | (simp_all; done))
      · refine e_run 2 rfl trivial ?_
        try simp only [hcl, cl_0, cl_1, cl_2, cl_3, cl_4, cl_5, cl_6]
        (refine e_ret rfl ?_ ?_ rfl <;> first | trivial | exact Or.inl rfl | exact Or.inr rfl | rfl | (simp_all; done))
theorem sp_hasDependency (d : Nat) (M : mv_M) (c : Nat) (i : Int32) (hc : c < 20) : ev_ d kX0_hasDependency [mv_R 1 0, mv_I (nI c), mv_I i] M (Sum.inl (some (mv_I (if ¬ i < 0 ∧ i < M 8 0 c then 1 else 0)))) M := by
  have hcl : (nI c).toNatClampNeg = c := nI_clamp (by omega)
  refine e_ev rfl rfl ?_
  refine e_run 1 rfl trivial ?_
  try simp only [hcl, cl_0, cl_1, cl_2, cl_3, cl_4, cl_5, cl_6]
  refine e_if rfl (fun h1 => ?_) (fun h1 => ?_)
  · refine e_run 1 rfl trivial ?_
    try simp only [hcl, cl_0, cl_1, cl_2, cl_3, cl_4, cl_5, cl_6]
    (refine e_ret rfl ?_ ?_ rfl <;> first | trivial | exact Or.inl rfl | exact Or.inr rfl | rfl | (simp_all; done))
  · refine e_run 5 rfl ?_ ?_
    · ((try simp only [hcl, cl_0, cl_1, cl_2, cl_3, cl_4, cl_5, cl_6]) <;> and_intros <;> first | trivial | exact in_n (by omega) (by omega) | omega | (unfold vp_in; decide) | (simp only [*]; omega))
    try simp only [hcl, cl_0, cl_1, cl_2, cl_3, cl_4, cl_5, cl_6]
    refine e_if rfl (fun h11 => ?_) (fun h11 => ?_)
    · refine e_run 1 rfl trivial ?_
      try simp only [hcl, cl_0, cl_1, cl_2, cl_3, cl_4, cl_5, cl_6]
      (refine e_ret rfl ?_ ?_ rfl <;> first | trivial | exact Or.inl rfl | exact Or.inr rfl | rfl | (simp_all; done))
    · refine e_run 2 rfl trivial ?_
      try simp only [hcl, cl_0, cl_1, cl_2, cl_3, cl_4, cl_5, cl_6]
      (refine e_ret rfl ?_ ?_ rfl <;> first | trivial | exact Or.inl rfl | exact Or.inr rfl | rfl | (simp_all; done))
theorem sp_partOf (d : Nat) (M : mv_M) (c i p : Nat) (hc : c < 20) (hi : i < 6) (hp : p < 3) : ev_ d kX0_partOf [mv_R 1 0, mv_I (nI c), mv_I (nI i), mv_I (nI p)] M (Sum.inl (some (mv_I (M 20 c (3 * i + p))))) M := by
  have hcl : (nI c).toNatClampNeg = c := nI_clamp (by omega)
  have hip : (nI (3 * i + p)).toNatClampNeg = 3 * i + p := nI_clamp (by omega)
  refine e_ev rfl rfl ?_
  refine e_run 10 rfl ?_ ?_
  · ((try simp only [ix_3, hcl, hip]) <;> and_intros <;> first | trivial | exact in_n (by omega) (by omega) | omega | (unfold vp_in; decide) | (simp only [*]; omega))
  try simp only [ix_3, hcl, hip]
  (refine e_ret rfl ?_ ?_ rfl <;> first | trivial | exact Or.inl rfl | exact Or.inr rfl | rfl | (simp_all; done))
def mk_ (f : Nat → Bool) : Nat → Int32
  | 0 => 0
  | n + 1 => if f n = true then mk_ f n ||| (1 <<< (nI n &&& 31)) else mk_ f n
/-- components, dependencies: as many as they may be -/
def dc_ (M : mv_M) (c : Nat) : Nat := (M 8 0 c).toNatClampNeg
def ci_ (M : mv_M) (n : Nat) : Prop := M 1 0 3 = nI n ∧ n ≤ 20 ∧ ∀ c, c < 20 → M 8 0 c = nI (dc_ M c) ∧ dc_ M c ≤ 6
theorem lp_candidateMask (d : Nat) (M : mv_M) (n : Nat) (t q : Int32) (hn : M 1 0 3 = nI n) (h20 : n ≤ 20) : ∀ m c : Nat, n + 1 ≤ c + m → c ≤ n → er_ (d + 1) 0 kX0_candidateMask (5, [some (mv_R 1 0), some (mv_I t), some (mv_I q), some (mv_I (mk_ (cb_ M t q) c)), some (mv_I (nI c))], [], M) (Sum.inl (some (mv_I (mk_ (cb_ M t q) n)))) M := by
  intro m
  induction m with
  | zero => intro c h1 h2; omega
  | succ m ih =>
    intro c h1 h2
    refine e_run 3 rfl trivial ?_
    try simp only [hn]
    refine e_if rfl (fun h11 => ?_) (fun h11 => ?_)
    · refine e_run 1 rfl trivial ?_
      try simp only [hn]
      have hce := nI_eq_of h11 h2 (by omega)
      subst hce
      (refine e_ret rfl trivial ?_ rfl <;> first | rfl | (simp_all; done))
    · refine e_run 2 rfl trivial ?_
      try simp only [hn]
      have hlt := nI_lt_of h11 (by omega)
      refine e_calli rfl (sp_isActive d M c (by omega)) (by decide) ?_
      try simp only [hn]
      refine e_if rfl (fun h20 => ?_) (fun h20 => ?_)
      · refine e_run 2 rfl trivial ?_
        try simp only [hn]
        exact er_cong (by rw [nI_1]; simp_all [mk_, cb_]) (ih (c + 1) (by omega) (by omega))
      · refine e_run 4 rfl trivial ?_
        try simp only [hn]
        refine e_calli rfl (sp_provides d M c t q (by omega)) (by decide) ?_
        try simp only [hn]
        refine e_if rfl (fun h31 => ?_) (fun h31 => ?_)
        · refine e_run 2 rfl trivial ?_
          try simp only [hn]
          exact er_cong (by rw [nI_1]; simp_all [mk_, cb_]) (ih (c + 1) (by omega) (by omega))
        · refine e_run 8 rfl trivial ?_
          try simp only [hn]
          exact er_cong (by rw [nI_1]; simp_all [mk_, cb_]) (ih (c + 1) (by omega) (by omega))
theorem sp_candidateMask (d : Nat) (M : mv_M) (n : Nat) (t q : Int32) (hn : M 1 0 3 = nI n) (h20 : n ≤ 20) : ev_ (d + 1) kX0_candidateMask [mv_R 1 0, mv_I t, mv_I q] M (Sum.inl (some (mv_I (mk_ (cb_ M t q) n)))) M := by
  refine e_ev rfl rfl ?_
  refine e_run 4 rfl trivial ?_
  exact lp_candidateMask d M n t q hn h20 (n + 1) 0 (by omega) (by omega)
/-- the candidates of a dependency -/
def cf_ (M : mv_M) (n c i : Nat) : Int32 := mk_ (cb_ M (M 20 c (3 * i)) (M 20 c (3 * i + 1))) n
theorem sp_candidatesFor (d : Nat) (M : mv_M) (n c i : Nat) (hn : M 1 0 3 = nI n) (h20 : n ≤ 20) (hc : c < 20) (hi : i < 6) : ev_ (d + 2) kX0_candidatesFor [mv_R 1 0, mv_I (nI c), mv_I (nI i)] M (Sum.inl (some (mv_I (cf_ M n c i)))) M := by
  refine e_ev rfl rfl ?_
  refine e_run 5 rfl trivial ?_
  refine e_calli rfl (sp_partOf (d + 1) M c i 0 hc hi (by omega)) (by decide) ?_
  refine e_run 4 rfl trivial ?_
  refine e_calli rfl (sp_partOf (d + 1) M c i 1 hc hi (by omega)) (by decide) ?_
  refine e_calli rfl (sp_candidateMask d M n _ _ hn h20) (by decide) ?_
  (refine e_ret rfl trivial ?_ rfl <;> first | rfl | (simp_all; done))
/-- the component that a mask of one holds, looked for from c on -/
def si_ (x : Int32) : Nat → Nat → Int32
  | 0, _ => -1
  | m + 1, c => if x = 1 <<< (nI c &&& 31) then nI c else si_ x m (c + 1)
theorem lp_singleIn (d : Nat) (M : mv_M) (n : Nat) (x : Int32) (hn : M 1 0 3 = nI n) (h20 : n ≤ 20) : ∀ m c : Nat, c + m = n → er_ d 0 kX0_singleIn (2, [some (mv_R 1 0), some (mv_I x), some (mv_I (nI c))], [], M) (Sum.inl (some (mv_I (si_ x m c)))) M := by
  intro m
  induction m with
  | zero =>
    intro c h1
    refine e_run 3 rfl trivial ?_
    try simp only [hn]
    refine e_if rfl (fun h7 => ?_) (fun h7 => absurd (nI_le (by omega) (by omega)) h7)
    refine e_run 1 rfl trivial ?_
    try simp only [hn]
    (refine e_ret rfl trivial ?_ rfl <;> first | rfl | (simp_all; done))
  | succ m ih =>
    intro c h1
    refine e_run 3 rfl trivial ?_
    try simp only [hn]
    refine e_if rfl (fun h7 => absurd h7 (nI_ge (by omega) (by omega))) (fun h7 => ?_)
    refine e_run 4 rfl trivial ?_
    try simp only [hn]
    refine e_if rfl (fun h14 => ?_) (fun h14 => ?_)
    · refine e_run 2 rfl trivial ?_
      try simp only [hn]
      refine er_cong ?_ (show er_ d 0 kX0_singleIn _ (Sum.inl (some (mv_I (si_ x (m + 1) c)))) M by
        rw [show si_ x (m + 1) c = si_ x m (c + 1) by simp_all [si_]]
        exact ih (c + 1) (by omega))
      rw [nI_1]
    · refine e_run 1 rfl trivial ?_
      try simp only [hn]
      refine e_ret rfl trivial ?_ rfl
      simp_all [si_]
theorem sp_singleIn (d : Nat) (M : mv_M) (n : Nat) (x : Int32) (hn : M 1 0 3 = nI n) (h20 : n ≤ 20) : ev_ d kX0_singleIn [mv_R 1 0, mv_I x] M (Sum.inl (some (mv_I (si_ x n 0)))) M := by
  refine e_ev rfl rfl ?_
  refine e_run 2 rfl trivial ?_
  exact lp_singleIn d M n x hn h20 n 0 (by omega)
def pm_ (M : mv_M) : Nat → Int32
  | 0 => 0
  | n + 1 => pm_ M n ||| (M 19 n 3 <<< (nI n &&& 31))
theorem lp_primaryMask (d : Nat) (M : mv_M) (n : Nat) (hn : M 1 0 3 = nI n) (h20 : n ≤ 20) : ∀ m c : Nat, n + 1 ≤ c + m → c ≤ n → er_ d 0 kX0_primaryMask (4, [some (mv_R 1 0), some (mv_I (pm_ M c)), some (mv_I (nI c))], [], M) (Sum.inl (some (mv_I (pm_ M n)))) M := by
  intro m
  induction m with
  | zero => intro c h1 h2; omega
  | succ m ih =>
    intro c h1 h2
    have hcl : (nI c).toNatClampNeg = c := nI_clamp (by omega)
    refine e_run 3 rfl trivial ?_
    try simp only [hn, hcl, cl_0, cl_1, cl_2, cl_3, cl_4, cl_5, cl_6]
    refine e_if rfl (fun h9 => ?_) (fun h9 => ?_)
    · refine e_run 1 rfl trivial ?_
      try simp only [hn, hcl, cl_0, cl_1, cl_2, cl_3, cl_4, cl_5, cl_6]
      have hce := nI_eq_of h9 h2 (by omega)
      subst hce
      (refine e_ret rfl trivial ?_ rfl <;> first | rfl | (simp_all; done))
    · have hlt := nI_lt_of h9 (by omega)
      refine e_run 13 rfl ?_ ?_
      · ((try simp only [hn, hcl, cl_0, cl_1, cl_2, cl_3, cl_4, cl_5, cl_6]) <;> and_intros <;> first | trivial | exact in_n (by omega) (by omega) | omega | (unfold vp_in; decide) | (simp only [*]; omega))
      try simp only [hn, hcl, cl_0, cl_1, cl_2, cl_3, cl_4, cl_5, cl_6]
      exact er_cong (by rw [nI_1]; rfl) (ih (c + 1) (by omega) (by omega))
theorem sp_primaryMask (d : Nat) (M : mv_M) (n : Nat) (hn : M 1 0 3 = nI n) (h20 : n ≤ 20) : ev_ d kX0_primaryMask [mv_R 1 0] M (Sum.inl (some (mv_I (pm_ M n)))) M := by
  refine e_ev rfl rfl ?_
  refine e_run 4 rfl trivial ?_
  exact lp_primaryMask d M n hn h20 (n + 1) 0 (by omega) (by omega)
/-- the choice -/
def ch_ (M : mv_M) (n : Nat) (x : Int32) : Int32 := if ¬ si_ x n 0 = -1 then si_ x n 0 else si_ (x &&& pm_ M n) n 0
theorem sp_choiceAmong (d : Nat) (M : mv_M) (n : Nat) (x : Int32) (hn : M 1 0 3 = nI n) (h20 : n ≤ 20) : ev_ (d + 1) kX0_choiceAmong [mv_R 1 0, mv_I x] M (Sum.inl (some (mv_I (ch_ M n x)))) M := by
  refine e_ev rfl rfl ?_
  refine e_run 2 rfl trivial ?_
  refine e_calli rfl (sp_singleIn d M n _ hn h20) (by decide) ?_
  refine e_run 3 rfl trivial ?_
  refine e_if rfl (fun h8 => ?_) (fun h8 => ?_)
  · refine e_run 3 rfl trivial ?_
    refine e_calli rfl (sp_primaryMask d M n hn h20) (by decide) ?_
    refine e_run 1 rfl trivial ?_
    refine e_calli rfl (sp_singleIn d M n _ hn h20) (by decide) ?_
    (refine e_ret rfl trivial ?_ rfl <;> simp_all [ch_])
  · refine e_run 2 rfl trivial ?_
    (refine e_ret rfl trivial ?_ rfl <;> simp_all [ch_])
/-- what a dependency needs at once, as a mask -/
def nd_ (M : mv_M) (n c i : Nat) : Int32 := if M 20 c (3 * i + 2) = 3 then 0 else if M 20 c (3 * i + 2) = 2 then cf_ M n c i else if ch_ M n (cf_ M n c i) = -1 then 0 else 1 <<< (ch_ M n (cf_ M n c i) &&& 31)
theorem sp_needsOfDependency (d : Nat) (M : mv_M) (n c i : Nat) (hn : M 1 0 3 = nI n) (h20 : n ≤ 20) (hc : c < 20) (hi : i < 6) : ev_ (d + 3) kX0_needsOfDependency [mv_R 1 0, mv_I (nI c), mv_I (nI i)] M (Sum.inl (some (mv_I (nd_ M n c i)))) M := by
  refine e_ev rfl rfl ?_
  refine e_run 4 rfl trivial ?_
  refine e_calli rfl (sp_partOf (d + 2) M c i 2 hc hi (by omega)) (by decide) ?_
  refine e_run 3 rfl trivial ?_
  refine e_if rfl (fun h10 => ?_) (fun h10 => ?_)
  · refine e_run 3 rfl trivial ?_
    refine e_calli rfl (sp_candidatesFor d M n c i hn h20 hc hi) (by decide) ?_
    refine e_run 3 rfl trivial ?_
    refine e_if rfl (fun h25 => ?_) (fun h25 => ?_)
    · refine e_run 2 rfl trivial ?_
      refine e_calli rfl (sp_choiceAmong (d + 1) M n _ hn h20) (by decide) ?_
      refine e_run 3 rfl trivial ?_
      refine e_if rfl (fun h42 => ?_) (fun h42 => ?_)
      · refine e_run 3 rfl trivial ?_
        (refine e_ret rfl trivial ?_ rfl <;> simp_all [nd_])
      · refine e_run 2 rfl trivial ?_
        (refine e_ret rfl trivial ?_ rfl <;> simp_all [nd_])
    · refine e_run 1 rfl trivial ?_
      (refine e_ret rfl trivial ?_ rfl <;> simp_all [nd_])
  · refine e_run 1 rfl trivial ?_
    (refine e_ret rfl trivial ?_ rfl <;> simp_all [nd_])
def dn_ (M : mv_M) (n c : Nat) : Nat → Int32
  | 0 => 0
  | i + 1 => dn_ M n c i ||| nd_ M n c i
theorem lp_directNeeds (d : Nat) (M : mv_M) (n c k : Nat) (hn : M 1 0 3 = nI n) (h20 : n ≤ 20) (hc : c < 20) (hk : M 8 0 c = nI k) (h6 : k ≤ 6) : ∀ m i : Nat, k + 1 ≤ i + m → i ≤ k → er_ (d + 4) 0 kX0_directNeeds (4, [some (mv_R 1 0), some (mv_I (nI c)), some (mv_I (dn_ M n c i)), some (mv_I (nI i))], [], M) (Sum.inl (some (mv_I (dn_ M n c k)))) M := by
  intro m
  induction m with
  | zero => intro c h1 h2; omega
  | succ m ih =>
    intro i h1 h2
    have hcl : (nI c).toNatClampNeg = c := nI_clamp (by omega)
    refine e_run 5 rfl ?_ ?_
    · ((try simp only [hcl, hk]) <;> and_intros <;> first | trivial | exact in_n (by omega) (by omega) | omega | (unfold vp_in; decide) | (simp only [*]; omega))
    try simp only [hcl, hk]
    refine e_if rfl (fun h11 => ?_) (fun h11 => ?_)
    · refine e_run 1 rfl trivial ?_
      try simp only [hcl, hk]
      have hce := nI_eq_of h11 h2 (by omega)
      subst hce
      (refine e_ret rfl trivial ?_ rfl <;> first | rfl | (simp_all; done))
    · have hlt := nI_lt_of h11 (by omega)
      refine e_run 4 rfl trivial ?_
      try simp only [hcl, hk]
      refine e_calli rfl (sp_needsOfDependency d M n c i hn h20 hc (by omega)) (by decide) ?_
      try simp only [hcl, hk]
      refine e_run 4 rfl trivial ?_
      try simp only [hcl, hk]
      exact er_cong (by rw [nI_1]; rfl) (ih (i + 1) (by omega) (by omega))
theorem sp_directNeeds (d : Nat) (M : mv_M) (n c : Nat) (hC : ci_ M n) (hc : c < 20) : ev_ (d + 4) kX0_directNeeds [mv_R 1 0, mv_I (nI c)] M (Sum.inl (some (mv_I (dn_ M n c (dc_ M c))))) M := by
  obtain ⟨hn, h20, hk⟩ := hC
  refine e_ev rfl rfl ?_
  refine e_run 4 rfl trivial ?_
  exact lp_directNeeds d M n c (dc_ M c) hn h20 hc (hk c hc).1 (hk c hc).2 (dc_ M c + 1) 0 (by omega) (by omega)
/-- one round of all needs: the components below j looked at -/
def an_ (M : mv_M) (n : Nat) (x y : Int32) : Nat → Int32
  | 0 => y
  | j + 1 => if ii_ x j = true then an_ M n x y j ||| dn_ M n j (dc_ M j) else an_ M n x y j
def ao_ (M : mv_M) (n : Nat) : Nat → Int32 → Int32
  | 0, x => x
  | m + 1, x => if an_ M n x x n = x then an_ M n x x n else ao_ M n m (an_ M n x x n)
theorem lp_allNeeds1 (d : Nat) (M : mv_M) (n c r : Nat) (x : Int32) (o : mv_O) (hC : ci_ M n) (hk : er_ (d + 5) 0 kX0_allNeeds (56, [some (mv_R 1 0), some (mv_I (nI c)), some (mv_I (an_ M n x x n)), some (mv_I (nI r)), some (mv_I x), some (mv_I (nI n))], [], M) o M) : ∀ m j : Nat, n + 1 ≤ j + m → j ≤ n → er_ (d + 5) 0 kX0_allNeeds (22, [some (mv_R 1 0), some (mv_I (nI c)), some (mv_I (an_ M n x x j)), some (mv_I (nI r)), some (mv_I x), some (mv_I (nI j))], [], M) o M := by
  have hn := hC.1
  have h20 := hC.2.1
  intro m
  induction m with
  | zero => intro c h1 h2; omega
  | succ m ih =>
    intro j h1 h2
    refine e_run 3 rfl trivial ?_
    try simp only [hn]
    refine e_if rfl (fun h28 => ?_) (fun h28 => ?_)
    · have hce := nI_eq_of h28 h2 (by omega)
      subst hce
      exact hk
    · have hlt := nI_lt_of h28 (by omega)
      refine e_run 2 rfl trivial ?_
      try simp only [hn]
      refine e_calli rfl (sp_isIn (d + 4) M x j) (by decide) ?_
      try simp only [hn]
      refine e_if rfl (fun h38 => ?_) (fun h38 => ?_)
      · refine e_run 2 rfl trivial ?_
        try simp only [hn]
        exact er_cong (by rw [nI_1]; simp_all [an_]) (ih (j + 1) (by omega) (by omega))
      · refine e_run 3 rfl trivial ?_
        try simp only [hn]
        refine e_calli rfl (sp_directNeeds d M n j hC (by omega)) (by decide) ?_
        try simp only [hn]
        refine e_run 4 rfl trivial ?_
        try simp only [hn]
        exact er_cong (by rw [nI_1]; simp_all [an_]) (ih (j + 1) (by omega) (by omega))
theorem lp_allNeeds2 (d : Nat) (M : mv_M) (n c : Nat) (hC : ci_ M n) : ∀ (m r : Nat) (x : Int32) (z z2 : Option mv_V), r + m = n → er_ (d + 5) 0 kX0_allNeeds (8, [some (mv_R 1 0), some (mv_I (nI c)), some (mv_I x), some (mv_I (nI r)), z, z2], [], M) (Sum.inl (some (mv_I (ao_ M n m x)))) M := by
  have hn := hC.1
  have h20 := hC.2.1
  intro m
  induction m with
  | zero =>
    intro r x z z2 h1
    refine e_run 3 rfl trivial ?_
    try simp only [hn]
    refine e_if rfl (fun h13 => ?_) (fun h13 => absurd (nI_le (by omega) (by omega)) h13)
    refine e_run 1 rfl trivial ?_
    try simp only [hn]
    (refine e_ret rfl trivial ?_ rfl <;> first | rfl | (simp_all; done))
  | succ m ih =>
    intro r x z z2 h1
    refine e_run 3 rfl trivial ?_
    try simp only [hn]
    refine e_if rfl (fun h13 => absurd h13 (nI_ge (by omega) (by omega))) (fun h13 => ?_)
    refine e_run 4 rfl trivial ?_
    try simp only [hn]
    refine lp_allNeeds1 d M n c r x _ hC ?_ (n + 1) 0 (by omega) (by omega)
    refine e_run 2 rfl trivial ?_
    try simp only [hn]
    refine e_if rfl (fun h59 => ?_) (fun h59 => ?_)
    · refine e_run 2 rfl trivial ?_
      try simp only [hn]
      rw [show ao_ M n (m + 1) x = ao_ M n m (an_ M n x x n) by simp_all [ao_]]
      exact er_cong (by rw [nI_1]) (ih (r + 1) (an_ M n x x n) _ _ (by omega))
    · refine e_run 1 rfl trivial ?_
      try simp only [hn]
      (refine e_ret rfl trivial ?_ rfl <;> simp_all [ao_])
theorem sp_allNeeds (d : Nat) (M : mv_M) (n c : Nat) (hC : ci_ M n) (hc : c < 20) : ev_ (d + 5) kX0_allNeeds [mv_R 1 0, mv_I (nI c)] M (Sum.inl (some (mv_I (ao_ M n n (dn_ M n c (dc_ M c)))))) M := by
  refine e_ev rfl rfl ?_
  refine e_run 2 rfl trivial ?_
  refine e_calli rfl (sp_directNeeds d M n c hC hc) (by decide) ?_
  refine e_run 3 rfl trivial ?_
  exact lp_allNeeds2 d M n c hC n 0 _ _ _ (by omega)
/-- the components: one more -/
def ap_ (M : mv_M) (n : Nat) (t s : Int32) : mv_M := mv_up (mv_up (mv_up (mv_up (mv_up (mv_up M 19 n 0 t) 19 n 1 s) 19 n 2 (-1)) 19 n 5 (-1)) 19 n 6 (-1)) 1 0 3 (nI (n + 1))
theorem sp_append (d : Nat) (M : mv_M) (n : Nat) (t s : Int32) (hn : M 1 0 3 = nI n) (h20 : n < 20) : ev_ d kX0_append [mv_R 1 0, mv_I t, mv_I s] M (Sum.inl (some (mv_I (nI n)))) (ap_ M n t s) := by
  have hcl : (nI n).toNatClampNeg = n := nI_clamp (by omega)
  refine e_ev rfl rfl ?_
  refine e_run 36 rfl ?_ ?_
  · ((try simp only [hn, hcl, cl_0, cl_1, cl_2, cl_3, cl_4, cl_5, cl_6, rd_, up_, Nat.reduceEqDiff, reduceIte, and_self, and_true, true_and, and_false, false_and, if_true, if_false, nI_1, nI_pred]) <;> and_intros <;> first | trivial | exact in_n (by omega) (by omega) | omega | (unfold vp_in; decide) | (simp only [*]; omega))
  try simp only [hn, hcl, cl_0, cl_1, cl_2, cl_3, cl_4, cl_5, cl_6, rd_, up_, Nat.reduceEqDiff, reduceIte, and_self, and_true, true_and, and_false, false_and, if_true, if_false, nI_1, nI_pred]
  exact e_ret rfl trivial rfl rfl
