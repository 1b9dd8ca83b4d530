/-! THE CLASS'S METHODS, ONE BY ONE -/
theorem er_cong {d b k : Nat} {s s1 : mv_S} {o : mv_O} {M' : mv_M} (h : s1 = s) (he : er_ d b k s1 o M') : er_ d b k s o M' := h ▸ he
theorem rd_ (M : mv_M) (g j : Nat) (f : Nat → Int32) (a b : Nat) : mv_cp M g j f a b = if a = g ∧ b = j then f else M a b := rfl
theorem up_ (f : Nat → Int32) (k : Nat) (x : Int32) (j : Nat) : upd f k x j = if j = k then x else f j := rfl
theorem cl_0 : Int32.toNatClampNeg 0 = 0 := by decide
theorem cl_1 : Int32.toNatClampNeg 1 = 1 := by decide
theorem cl_2 : Int32.toNatClampNeg 2 = 2 := by decide
theorem cl_3 : Int32.toNatClampNeg 3 = 3 := by decide
theorem cl_4 : Int32.toNatClampNeg 4 = 4 := by decide
theorem cl_5 : Int32.toNatClampNeg 5 = 5 := by decide
theorem cl_6 : Int32.toNatClampNeg 6 = 6 := by decide
theorem ix_3 (i p : Nat) : nI i * 3 + nI p = nI (3 * i + p) := by rw [show (3 : Int32) = nI 3 from rfl, pk_mul, nI_add, Nat.mul_comm]
theorem ix_3' (i : Nat) : nI i * 3 = nI (3 * i) := by rw [show (3 : Int32) = nI 3 from rfl, pk_mul, Nat.mul_comm]
theorem nI_inj {a b : Nat} (ha : a < 2 ^ 31) (hb : b < 2 ^ 31) (h : nI a = nI b) : a = b := (nI_eq ha hb).mp h
def ac_ (M : mv_M) (c : Nat) : Bool := decide (M 19 c 5 = -1 ∨ ¬ M 1 0 4 &&& (1 <<< (M 19 c 5 &&& 31)) = 0)
def pv_ (M : mv_M) (t : Nat) (q : Int32) (c : Nat) : Bool := decide ((¬ M 19 c 0 &&& (1 <<< (nI t &&& 31)) = 0) ∧ (q = -1 ∨ M 19 c 2 = q))
def cb_ (M : mv_M) (t : Nat) (q : Int32) (c : Nat) : Bool := ac_ M c && pv_ M t q c
def ii_ (x : Int32) (i : Nat) : Bool := !decide (x &&& (1 <<< (nI i &&& 31)) = 0)
/-- is between -/
def bw_ (v lo hi : Int32) : Bool := !decide (v < lo) && !decide (hi < v)
theorem sp_isBetween (d : Nat) (M : mv_M) (v lo hi : Int32) : ev_ d kX3_isBetween [mv_I v, mv_I lo, mv_I hi] M (Sum.inl (some (mv_I (if bw_ v lo hi = true then 1 else 0)))) M := by
  refine e_ev rfl rfl ?_
  refine e_run 2 rfl trivial ?_
  refine e_if rfl (fun h2 => ?_) (fun h2 => ?_)
  · refine e_run 1 rfl trivial ?_
    (refine e_ret rfl ?_ ?_ rfl <;> first | exact Or.inl rfl | exact Or.inr rfl | (simp_all [bw_]; done))
  · refine e_run 2 rfl trivial ?_
    refine e_if rfl (fun h7 => ?_) (fun h7 => ?_)
    · refine e_run 1 rfl trivial ?_
      (refine e_ret rfl ?_ ?_ rfl <;> first | exact Or.inl rfl | exact Or.inr rfl | (simp_all [bw_]; done))
    · refine e_run 2 rfl trivial ?_
      (refine e_ret rfl ?_ ?_ rfl <;> first | exact Or.inl rfl | exact Or.inr rfl | (simp_all [bw_]; done))
theorem sp_isIn (d : Nat) (M : mv_M) (x : Int32) (i : Nat) : ev_ d kX3_isIn [mv_I x, mv_I (nI i)] M (Sum.inl (some (mv_I (if ii_ x i = true then 1 else 0)))) M := by
  refine e_ev rfl rfl ?_
  refine e_run 5 rfl trivial ?_
  refine e_if rfl (fun h5 => ?_) (fun h5 => ?_)
  · refine e_run 1 rfl trivial ?_
    (refine e_ret rfl ?_ ?_ rfl <;> first | exact Or.inl rfl | exact Or.inr rfl | (simp_all [ii_]; done))
  · refine e_run 2 rfl trivial ?_
    (refine e_ret rfl ?_ ?_ rfl <;> first | exact Or.inl rfl | exact Or.inr rfl | (simp_all [ii_]; done))
theorem sp_isActive (d : Nat) (M : mv_M) (c : Nat) (hc : c < 20) : ev_ d kX0_isActive [mv_R 1 0, mv_I (nI c)] M (Sum.inl (some (mv_I (if ac_ M c = true then 1 else 0)))) M := by
  have hcl : (nI c).toNatClampNeg = c := nI_clamp (by omega)
  refine e_ev rfl rfl ?_
  refine e_run 9 rfl ?_ ?_
  · ((try simp only [hcl, cl_0, cl_1, cl_2, cl_3, cl_4, cl_5, cl_6]) <;> and_intros <;> first | trivial | exact in_n (by omega) (by omega) | omega | (unfold vp_in; decide) | (simp only [*]; omega))
  try simp only [hcl, cl_0, cl_1, cl_2, cl_3, cl_4, cl_5, cl_6]
  refine e_if rfl (fun h11 => ?_) (fun h11 => ?_)
  · refine e_run 2 rfl trivial ?_
    try simp only [hcl, cl_0, cl_1, cl_2, cl_3, cl_4, cl_5, cl_6]
    (refine e_ret rfl ?_ ?_ rfl <;> first | exact Or.inl rfl | exact Or.inr rfl | (simp_all [ac_]; done))
  · refine e_run 6 rfl trivial ?_
    try simp only [hcl, cl_0, cl_1, cl_2, cl_3, cl_4, cl_5, cl_6]
    refine e_if rfl (fun h22 => ?_) (fun h22 => ?_)
    · refine e_run 1 rfl trivial ?_
      try simp only [hcl, cl_0, cl_1, cl_2, cl_3, cl_4, cl_5, cl_6]
      (refine e_ret rfl ?_ ?_ rfl <;> first | exact Or.inl rfl | exact Or.inr rfl | (simp_all [ac_]; done))
    · refine e_run 2 rfl trivial ?_
      try simp only [hcl, cl_0, cl_1, cl_2, cl_3, cl_4, cl_5, cl_6]
      (refine e_ret rfl ?_ ?_ rfl <;> first | exact Or.inl rfl | exact Or.inr rfl | (simp_all [ac_]; done))
theorem sp_provides (d : Nat) (M : mv_M) (c t : Nat) (q : Int32) (hc : c < 20) : ev_ d kX0_provides [mv_R 1 0, mv_I (nI c), mv_I (nI t), mv_I q] M (Sum.inl (some (mv_I (if pv_ M t q c = true then 1 else 0)))) M := by
  have hcl : (nI c).toNatClampNeg = c := nI_clamp (by omega)
  refine e_ev rfl rfl ?_
  refine e_run 10 rfl ?_ ?_
  · ((try simp only [hcl, cl_0, cl_1, cl_2, cl_3, cl_4, cl_5, cl_6]) <;> and_intros <;> first | trivial | exact in_n (by omega) (by omega) | omega | (unfold vp_in; decide) | (simp only [*]; omega))
  try simp only [hcl, cl_0, cl_1, cl_2, cl_3, cl_4, cl_5, cl_6]
  refine e_if rfl (fun h12 => ?_) (fun h12 => ?_)
  · refine e_run 1 rfl trivial ?_
    try simp only [hcl, cl_0, cl_1, cl_2, cl_3, cl_4, cl_5, cl_6]
    (refine e_ret rfl ?_ ?_ rfl <;> first | exact Or.inl rfl | exact Or.inr rfl | (simp_all [pv_]; done))
  · refine e_run 2 rfl trivial ?_
    try simp only [hcl, cl_0, cl_1, cl_2, cl_3, cl_4, cl_5, cl_6]
    refine e_if rfl (fun h17 => ?_) (fun h17 => ?_)
    · refine e_run 2 rfl trivial ?_
      try simp only [hcl, cl_0, cl_1, cl_2, cl_3, cl_4, cl_5, cl_6]
      (refine e_ret rfl ?_ ?_ rfl <;> first | exact Or.inl rfl | exact Or.inr rfl | (simp_all [pv_]; done))
    · refine e_run 7 rfl ?_ ?_
      · ((try simp only [hcl, cl_0, cl_1, cl_2, cl_3, cl_4, cl_5, cl_6]) <;> and_intros <;> first | trivial | exact in_n (by omega) (by omega) | omega | (unfold vp_in; decide) | (simp only [*]; omega))
      try simp only [hcl, cl_0, cl_1, cl_2, cl_3, cl_4, cl_5, cl_6]
      refine e_if rfl (fun h29 => ?_) (fun h29 => ?_)
      · refine e_run 1 rfl trivial ?_
        try simp only [hcl, cl_0, cl_1, cl_2, cl_3, cl_4, cl_5, cl_6]
        (refine e_ret rfl ?_ ?_ rfl <;> first | exact Or.inl rfl | exact Or.inr rfl | (simp_all [pv_]; done))
      · refine e_run 2 rfl trivial ?_
        try simp only [hcl, cl_0, cl_1, cl_2, cl_3, cl_4, cl_5, cl_6]
        (refine e_ret rfl ?_ ?_ rfl <;> first | exact Or.inl rfl | exact Or.inr rfl | (simp_all [pv_]; done))
theorem sp_isStarted (d : Nat) (M : mv_M) (c : Nat) (hc : c < 20) : ev_ (d + 1) kX0_isStarted [mv_R 1 0, mv_I (nI c)] M (Sum.inl (some (mv_I (if ac_ M c = true ∧ M 19 c 1 = 0 ∧ M 19 c 4 = 0 then 1 else 0)))) M := by
  have hcl : (nI c).toNatClampNeg = c := nI_clamp (by omega)
  refine e_ev rfl rfl ?_
  refine e_run 2 rfl trivial ?_
  try simp only [hcl, cl_0, cl_1, cl_2, cl_3, cl_4, cl_5, cl_6]
  refine e_calli rfl (sp_isActive d M c hc) (by decide) ?_
  try simp only [hcl, cl_0, cl_1, cl_2, cl_3, cl_4, cl_5, cl_6]
  refine e_if rfl (fun h5 => ?_) (fun h5 => ?_)
  · refine e_run 1 rfl trivial ?_
    try simp only [hcl, cl_0, cl_1, cl_2, cl_3, cl_4, cl_5, cl_6]
    (refine e_ret rfl ?_ ?_ rfl <;> first | trivial | exact Or.inl rfl | exact Or.inr rfl | rfl | (simp_all; done))
  · refine e_run 6 rfl ?_ ?_
    · ((try simp only [hcl, cl_0, cl_1, cl_2, cl_3, cl_4, cl_5, cl_6]) <;> and_intros <;> first | trivial | exact in_n (by omega) (by omega) | omega | (unfold vp_in; decide) | (simp only [*]; omega))
    try simp only [hcl, cl_0, cl_1, cl_2, cl_3, cl_4, cl_5, cl_6]
    refine e_if rfl (fun h16 => ?_) (fun h16 => ?_)
    · refine e_run 1 rfl trivial ?_
      try simp only [hcl, cl_0, cl_1, cl_2, cl_3, cl_4, cl_5, cl_6]
      (refine e_ret rfl ?_ ?_ rfl <;> first | trivial | exact Or.inl rfl | exact Or.inr rfl | rfl | (simp_all; done))
    · refine e_run 6 rfl ?_ ?_
      · ((try simp only [hcl, cl_0, cl_1, cl_2, cl_3, cl_4, cl_5, cl_6]) <;> and_intros <;> first | trivial | exact in_n (by omega) (by omega) | omega | (unfold vp_in; decide) | (simp only [*]; omega))
      try simp only [hcl, cl_0, cl_1, cl_2, cl_3, cl_4, cl_5, cl_6]
      refine e_if rfl (fun h27 => ?_) (fun h27 => ?_)
      · refine e_run 1 rfl trivial ?_
        try simp only [hcl, cl_0, cl_1, cl_2, cl_3, cl_4, cl_5, cl_6]
        (refine e_ret rfl ?_ ?_ rfl <;> first | trivial | exact Or.inl rfl | exact Or.inr rfl | rfl | (simp_all; done))
      · refine e_run 2 rfl trivial ?_
        try simp only [hcl, cl_0, cl_1, cl_2, cl_3, cl_4, cl_5, cl_6]
        (refine e_ret rfl ?_ ?_ rfl <;> first | trivial | exact Or.inl rfl | exact Or.inr rfl | rfl | (simp_all; done))
theorem sp_hasDependency (d : Nat) (M : mv_M) (c : Nat) (i : Int32) (hc : c < 20) : ev_ d kX0_hasDependency [mv_R 1 0, mv_I (nI c), mv_I i] M (Sum.inl (some (mv_I (if ¬ i < 0 ∧ i < M 8 0 c then 1 else 0)))) M := by
  have hcl : (nI c).toNatClampNeg = c := nI_clamp (by omega)
  refine e_ev rfl rfl ?_
  refine e_run 1 rfl trivial ?_
  try simp only [hcl, cl_0, cl_1, cl_2, cl_3, cl_4, cl_5, cl_6]
  refine e_if rfl (fun h1 => ?_) (fun h1 => ?_)
  · refine e_run 1 rfl trivial ?_
    try simp only [hcl, cl_0, cl_1, cl_2, cl_3, cl_4, cl_5, cl_6]
    (refine e_ret rfl ?_ ?_ rfl <;> first | trivial | exact Or.inl rfl | exact Or.inr rfl | rfl | (simp_all; done))
  · refine e_run 5 rfl ?_ ?_
    · ((try simp only [hcl, cl_0, cl_1, cl_2, cl_3, cl_4, cl_5, cl_6]) <;> and_intros <;> first | trivial | exact in_n (by omega) (by omega) | omega | (unfold vp_in; decide) | (simp only [*]; omega))
    try simp only [hcl, cl_0, cl_1, cl_2, cl_3, cl_4, cl_5, cl_6]
    refine e_if rfl (fun h11 => ?_) (fun h11 => ?_)
    · refine e_run 1 rfl trivial ?_
      try simp only [hcl, cl_0, cl_1, cl_2, cl_3, cl_4, cl_5, cl_6]
      (refine e_ret rfl ?_ ?_ rfl <;> first | trivial | exact Or.inl rfl | exact Or.inr rfl | rfl | (simp_all; done))
    · refine e_run 2 rfl trivial ?_
      try simp only [hcl, cl_0, cl_1, cl_2, cl_3, cl_4, cl_5, cl_6]
      (refine e_ret rfl ?_ ?_ rfl <;> first | trivial | exact Or.inl rfl | exact Or.inr rfl | rfl | (simp_all; done))
theorem sp_partOf (d : Nat) (M : mv_M) (c i p : Nat) (hc : c < 20) (hi : i < 6) (hp : p < 3) : ev_ d kX0_partOf [mv_R 1 0, mv_I (nI c), mv_I (nI i), mv_I (nI p)] M (Sum.inl (some (mv_I (M 20 c (3 * i + p))))) M := by
  have hcl : (nI c).toNatClampNeg = c := nI_clamp (by omega)
  have hip : (nI (3 * i + p)).toNatClampNeg = 3 * i + p := nI_clamp (by omega)
  refine e_ev rfl rfl ?_
  refine e_run 10 rfl ?_ ?_
  · ((try simp only [ix_3, hcl, hip]) <;> and_intros <;> first | trivial | exact in_n (by omega) (by omega) | omega | (unfold vp_in; decide) | (simp only [*]; omega))
  try simp only [ix_3, hcl, hip]
  (refine e_ret rfl ?_ ?_ rfl <;> first | trivial | exact Or.inl rfl | exact Or.inr rfl | rfl | (simp_all; done))
def mk_ (f : Nat → Bool) : Nat → Int32
  | 0 => 0
  | n + 1 => if f n = true then mk_ f n ||| (1 <<< (nI n &&& 31)) else mk_ f n
theorem lp_candidateMask (d : Nat) (M : mv_M) (n t : Nat) (q : Int32) (hn : M 1 0 3 = nI n) (h20 : n ≤ 20) : ∀ m c : Nat, n + 1 ≤ c + m → c ≤ n → er_ (d + 1) 0 kX0_candidateMask (5, [some (mv_R 1 0), some (mv_I (nI t)), some (mv_I q), some (mv_I (mk_ (cb_ M t q) c)), some (mv_I (nI c))], [], M) (Sum.inl (some (mv_I (mk_ (cb_ M t q) n)))) M := by
  intro m
  induction m with
  | zero => intro c h1 h2; omega
  | succ m ih =>
    intro c h1 h2
    refine e_run 3 rfl trivial ?_
    try simp only [hn]
    refine e_if rfl (fun h11 => ?_) (fun h11 => ?_)
    · refine e_run 1 rfl trivial ?_
      try simp only [hn]
      (have hce : c = n := by\n  rcases Nat.lt_or_ge c n with q9 | q9\n  · exact absurd h11 (nI_ge q9 (by omega))\n  · omega\nsubst hce\nFIT)
    · refine e_run 2 rfl trivial ?_
      try simp only [hn]
      have hlt : c < n := by\n  rcases Nat.lt_or_ge c n with q9 | q9\n  · exact q9\n  · exact absurd (nI_le q9 (by omega)) h11
      refine e_calli rfl (sp_isActive d M c (by omega)) (by decide) ?_
      try simp only [hn]
      refine e_if rfl (fun h20 => ?_) (fun h20 => ?_)
      · refine e_run 2 rfl trivial ?_
        try simp only [hn]
        exact er_cong (by rw [nI_1]; simp_all [mk_, cb_]) (ih (c + 1) (by omega) (by omega))
      · refine e_run 4 rfl trivial ?_
        try simp only [hn]
        refine e_calli rfl (sp_provides d M c t q (by omega)) (by decide) ?_
        try simp only [hn]
        refine e_if rfl (fun h31 => ?_) (fun h31 => ?_)
        · refine e_run 2 rfl trivial ?_
          try simp only [hn]
          exact er_cong (by rw [nI_1]; simp_all [mk_, cb_]) (ih (c + 1) (by omega) (by omega))
        · refine e_run 8 rfl trivial ?_
          try simp only [hn]
          exact er_cong (by rw [nI_1]; simp_all [mk_, cb_]) (ih (c + 1) (by omega) (by omega))
theorem sp_candidateMask (d : Nat) (M : mv_M) (n t : Nat) (q : Int32) (hn : M 1 0 3 = nI n) (h20 : n ≤ 20) : ev_ (d + 1) kX0_candidateMask [mv_R 1 0, mv_I (nI t), mv_I q] M (Sum.inl (some (mv_I (mk_ (cb_ M t q) n)))) M := by
  refine e_ev rfl rfl ?_
  refine e_run 4 rfl trivial ?_
  exact lp_candidateMask d M n t q hn h20 (n + 1) 0 (by omega) (by omega)
