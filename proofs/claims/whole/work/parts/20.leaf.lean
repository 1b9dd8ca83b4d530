/-! THE REFERENCE'S LEAF METHODS -/
theorem p31_ : ∀ k, k < 32 → (nI k &&& 31) = nI k := by decide +kernel
theorem p31_of (p : Int32) : ∃ k, k < 32 ∧ p &&& 31 = nI k := by
  have h31 : ∀ i, i < 32 → bt 31 i = decide (i < 5) := by decide +kernel
  have hlt : (p &&& 31).toBitVec.toNat < 32 := by
    rw [Int32.toBitVec_and, BitVec.toNat_and]
    exact Nat.lt_of_le_of_lt Nat.and_le_right (by decide)
  refine ⟨(p &&& 31).toBitVec.toNat, hlt, ?_⟩
  apply Int32.toBitVec_inj.mp
  apply BitVec.eq_of_toNat_eq
  show _ = (BitVec.ofNat 32 _).toNat
  rw [BitVec.toNat_ofNat, Nat.mod_eq_of_lt (by omega)]
theorem bt_shr' {c : Nat} (hc : c < 32) (x : Int32) : (x >>> (nI c &&& 31)) &&& 1 = if bt x c = true then 1 else 0 := by
  have h1 : ∀ k, k < 32 → bt 1 k = decide (k = 0) := by decide +kernel
  refine b_ext (fun i hi => ?_)
  rw [b_and, h1 i hi]
  by_cases e : i = 0
  · subst e
    rw [b_sshr c (by omega) x hi, if_pos (by omega), Nat.add_zero]
    cases bt x c <;> simp [h1 0 (by omega), b_0]
  · rw [decide_eq_false e, Bool.and_false]
    split
    · rw [h1 i hi, decide_eq_false e]
    · rw [b_0]
theorem sh_iff (x p : Int32) : (x >>> (p &&& 31)) &&& 1 = 1 ↔ ¬ x &&& (1 <<< (p &&& 31)) = 0 := by
  obtain ⟨k, hk, hp⟩ := p31_of p
  rw [hp, ← p31_ k hk, bt_shr' hk, bt_and1 hk]
  cases bt x k <;> decide
/-- the descriptions, in C as the class holds them, in M as the reference does -/
def dr_ (C M : mv_M) (n : Nat) : Prop := ci_ C n ∧ M 22 0 1 = nI n ∧ M 22 0 6 = C 1 0 4 ∧ (∀ c k, c < 20 → k < 7 → M 23 0 (7 * c + k) = C 19 c k) ∧ (∀ c, c < 20 → M 24 0 c = C 8 0 c) ∧ (∀ c j, c < 20 → j < 18 → M 25 0 (18 * c + j) = C 20 c j) ∧ ∀ c, c < 20 → C 19 c 3 = 0 ∨ C 19 c 3 = 1
theorem rs_in (d : Nat) (M : mv_M) (v lo hi : Int32) : ev_ d kX4_in [mv_I v, mv_I lo, mv_I hi] M (Sum.inl (some (mv_I (if bw_ v lo hi = true then 1 else 0)))) M := by
  refine e_ev rfl rfl ?_
  refine e_run 2 rfl trivial ?_
  refine e_if rfl (fun h2 => ?_) (fun h2 => ?_)
  · refine e_run 1 rfl trivial ?_
    (refine e_ret rfl ?_ ?_ rfl <;> first | exact Or.inl rfl | exact Or.inr rfl | (simp_all [bw_]; done))
  · refine e_run 2 rfl trivial ?_
    refine e_if rfl (fun h7 => ?_) (fun h7 => ?_)
    · refine e_run 1 rfl trivial ?_
      (refine e_ret rfl ?_ ?_ rfl <;> first | exact Or.inl rfl | exact Or.inr rfl | (simp_all [bw_]; done))
    · refine e_run 2 rfl trivial ?_
      (refine e_ret rfl ?_ ?_ rfl <;> first | exact Or.inl rfl | exact Or.inr rfl | (simp_all [bw_]; done))
theorem ix_7 (c k : Nat) : 7 * nI c + nI k = nI (7 * c + k) := by rw [show (7 : Int32) = nI 7 from rfl, pk_mul, nI_add]
theorem ix_18 (c i k : Nat) : 18 * nI c + 3 * nI i + nI k = nI (18 * c + (3 * i + k)) := by rw [show (18 : Int32) = nI 18 from rfl, show (3 : Int32) = nI 3 from rfl, pk_mul, pk_mul, nI_add, nI_add, Nat.add_assoc]
theorem rs_of (d : Nat) {C M : mv_M} {n : Nat} (hD : dr_ C M n) (c k : Nat) (hc : c < 20) (hk : k < 7) : ev_ d kX4_of [mv_R 22 0, mv_I (nI c), mv_I (nI k)] M (Sum.inl (some (mv_I (C 19 c k)))) M := by
  have hcl : (nI (7 * c + k)).toNatClampNeg = 7 * c + k := nI_clamp (by omega)
  have he := hD.2.2.2.1 c k hc hk
  refine e_ev rfl rfl ?_
  refine e_run 8 rfl ?_ ?_
  · ((try simp only [ix_7, hcl, he]) <;> and_intros <;> first | trivial | exact in_n (by omega) (by omega) | omega | (unfold vp_in; decide) | (simp only [*]; omega))
  try simp only [ix_7, hcl, he]
  exact e_ret rfl trivial rfl rfl
theorem rs_dependAt (d : Nat) {C M : mv_M} {n : Nat} (hD : dr_ C M n) (c i p : Nat) (hc : c < 20) (hi : i < 6) (hp : p < 3) : ev_ d kX4_dependAt [mv_R 22 0, mv_I (nI c), mv_I (nI i), mv_I (nI p)] M (Sum.inl (some (mv_I (C 20 c (3 * i + p))))) M := by
  have hcl : (nI (18 * c + (3 * i + p))).toNatClampNeg = 18 * c + (3 * i + p) := nI_clamp (by omega)
  have he := hD.2.2.2.2.2.1 c (3 * i + p) hc (by omega)
  refine e_ev rfl rfl ?_
  refine e_run 12 rfl ?_ ?_
  · ((try simp only [ix_18, hcl, he]) <;> and_intros <;> first | trivial | exact in_n (by omega) (by omega) | omega | (unfold vp_in; decide) | (simp only [*]; omega))
  try simp only [ix_18, hcl, he]
  exact e_ret rfl trivial rfl rfl
theorem rs_isActive (d : Nat) {C M : mv_M} {n : Nat} (hD : dr_ C M n) (c : Nat) (hc : c < 20) : ev_ (d + 1) kX4_isActive [mv_R 22 0, mv_I (nI c)] M (Sum.inl (some (mv_I (if ac_ C c = true then 1 else 0)))) M := by
  have h6 := hD.2.2.1
  refine e_ev rfl rfl ?_
  refine e_run 3 rfl trivial ?_
  try simp only [h6]
  refine e_calli rfl (rs_of d hD c 5 hc (by omega)) (by decide) ?_
  try simp only [h6]
  refine e_run 1 rfl trivial ?_
  try simp only [h6]
  refine e_if rfl (fun h7 => ?_) (fun h7 => ?_)
  · refine e_run 2 rfl trivial ?_
    try simp only [h6]
    (refine e_ret rfl ?_ ?_ rfl <;> first | exact Or.inl rfl | exact Or.inr rfl | (simp_all [ac_, sh_iff]; done))
  · refine e_run 5 rfl trivial ?_
    try simp only [h6]
    refine e_calli rfl (rs_of d hD c 5 hc (by omega)) (by decide) ?_
    try simp only [h6]
    refine e_run 4 rfl trivial ?_
    try simp only [h6]
    refine e_if rfl (fun h24 => ?_) (fun h24 => ?_)
    · refine e_run 1 rfl trivial ?_
      try simp only [h6]
      (refine e_ret rfl ?_ ?_ rfl <;> first | exact Or.inl rfl | exact Or.inr rfl | (simp_all [ac_, sh_iff]; done))
    · refine e_run 2 rfl trivial ?_
      try simp only [h6]
      (refine e_ret rfl ?_ ?_ rfl <;> first | exact Or.inl rfl | exact Or.inr rfl | (simp_all [ac_, sh_iff]; done))
theorem lp_rcand (d : Nat) {C M : mv_M} {n : Nat} (hD : dr_ C M n) (t q : Int32) : ∀ (m c : Nat) (z : Option mv_V), c + m = n → er_ (d + 2) 0 kX4_candidatesFor (5, [some (mv_R 22 0), some (mv_I t), some (mv_I q), some (mv_I (mk_ (cb_ C t q) c)), some (mv_I (nI c)), z], [], M) (Sum.inl (some (mv_I (mk_ (cb_ C t q) n)))) M := by
  have hn := hD.2.1
  have h20 := hD.1.2.1
  intro m
  induction m with
  | zero =>
    intro c z h1
    have hce : c = n := by omega
    subst hce
    refine e_run 3 rfl trivial ?_
    try simp only [hn]
    refine e_if rfl (fun h11 => ?_) (fun h11 => absurd (nI_le (by omega) (by omega)) h11)
    refine e_run 1 rfl trivial ?_
    try simp only [hn]
    exact e_ret rfl trivial rfl rfl
  | succ m ih =>
    intro c z h1
    refine e_run 3 rfl trivial ?_
    try simp only [hn]
    refine e_if rfl (fun h11 => absurd h11 (nI_ge (by omega) (by omega))) (fun h11 => ?_)
    refine e_run 2 rfl trivial ?_
    try simp only [hn]
    refine e_calli rfl (rs_isActive d hD c (by omega)) (by decide) ?_
    try simp only [hn]
    refine e_if rfl (fun h20 => ?_) (fun h20 => ?_)
    · refine e_run 4 rfl trivial ?_
      try simp only [hn]
      refine e_if rfl (fun h64 => ?_) (fun h64 => ?_)
      · refine e_run 5 rfl trivial ?_
        try simp only [hn]
        first
          | exact absurd h64 (by decide)
          | (refine er_cong ?_ (ih (c + 1) (some (mv_I 0)) (by omega)); rw [nI_1]; clear ih; simp_all [mk_, cb_, pv_, sh_iff]; done)
          | (refine er_cong ?_ (ih (c + 1) (some (mv_I 1)) (by omega)); rw [nI_1]; clear ih; simp_all [mk_, cb_, pv_, sh_iff]; done)
      · refine e_run 8 rfl trivial ?_
        try simp only [hn]
        first
          | exact absurd h64 (by decide)
          | (refine er_cong ?_ (ih (c + 1) (some (mv_I 0)) (by omega)); rw [nI_1]; clear ih; simp_all [mk_, cb_, pv_, sh_iff]; done)
          | (refine er_cong ?_ (ih (c + 1) (some (mv_I 1)) (by omega)); rw [nI_1]; clear ih; simp_all [mk_, cb_, pv_, sh_iff]; done)
    · refine e_run 3 rfl trivial ?_
      try simp only [hn]
      refine e_calli rfl (rs_of (d + 1) hD c 0 (by omega) (by omega)) (by decide) ?_
      try simp only [hn]
      refine e_run 5 rfl trivial ?_
      try simp only [hn]
      refine e_if rfl (fun h35 => ?_) (fun h35 => ?_)
      · refine e_run 4 rfl trivial ?_
        try simp only [hn]
        refine e_if rfl (fun h64 => ?_) (fun h64 => ?_)
        · refine e_run 5 rfl trivial ?_
          try simp only [hn]
          first
            | exact absurd h64 (by decide)
            | (refine er_cong ?_ (ih (c + 1) (some (mv_I 0)) (by omega)); rw [nI_1]; clear ih; simp_all [mk_, cb_, pv_, sh_iff]; done)
            | (refine er_cong ?_ (ih (c + 1) (some (mv_I 1)) (by omega)); rw [nI_1]; clear ih; simp_all [mk_, cb_, pv_, sh_iff]; done)
        · refine e_run 8 rfl trivial ?_
          try simp only [hn]
          first
            | exact absurd h64 (by decide)
            | (refine er_cong ?_ (ih (c + 1) (some (mv_I 0)) (by omega)); rw [nI_1]; clear ih; simp_all [mk_, cb_, pv_, sh_iff]; done)
            | (refine er_cong ?_ (ih (c + 1) (some (mv_I 1)) (by omega)); rw [nI_1]; clear ih; simp_all [mk_, cb_, pv_, sh_iff]; done)
      · refine e_run 2 rfl trivial ?_
        try simp only [hn]
        refine e_if rfl (fun h40 => ?_) (fun h40 => ?_)
        · refine e_run 5 rfl trivial ?_
          try simp only [hn]
          refine e_if rfl (fun h64 => ?_) (fun h64 => ?_)
          · refine e_run 5 rfl trivial ?_
            try simp only [hn]
            first
              | exact absurd h64 (by decide)
              | (refine er_cong ?_ (ih (c + 1) (some (mv_I 0)) (by omega)); rw [nI_1]; clear ih; simp_all [mk_, cb_, pv_, sh_iff]; done)
              | (refine er_cong ?_ (ih (c + 1) (some (mv_I 1)) (by omega)); rw [nI_1]; clear ih; simp_all [mk_, cb_, pv_, sh_iff]; done)
          · refine e_run 8 rfl trivial ?_
            try simp only [hn]
            first
              | exact absurd h64 (by decide)
              | (refine er_cong ?_ (ih (c + 1) (some (mv_I 0)) (by omega)); rw [nI_1]; clear ih; simp_all [mk_, cb_, pv_, sh_iff]; done)
              | (refine er_cong ?_ (ih (c + 1) (some (mv_I 1)) (by omega)); rw [nI_1]; clear ih; simp_all [mk_, cb_, pv_, sh_iff]; done)
        · refine e_run 3 rfl trivial ?_
          try simp only [hn]
          refine e_calli rfl (rs_of (d + 1) hD c 2 (by omega) (by omega)) (by decide) ?_
          try simp only [hn]
          refine e_run 1 rfl trivial ?_
          try simp only [hn]
          refine e_if rfl (fun h51 => ?_) (fun h51 => ?_)
          · refine e_run 4 rfl trivial ?_
            try simp only [hn]
            refine e_if rfl (fun h64 => ?_) (fun h64 => ?_)
            · refine e_run 5 rfl trivial ?_
              try simp only [hn]
              first
                | exact absurd h64 (by decide)
                | (refine er_cong ?_ (ih (c + 1) (some (mv_I 0)) (by omega)); rw [nI_1]; clear ih; simp_all [mk_, cb_, pv_, sh_iff]; done)
                | (refine er_cong ?_ (ih (c + 1) (some (mv_I 1)) (by omega)); rw [nI_1]; clear ih; simp_all [mk_, cb_, pv_, sh_iff]; done)
            · refine e_run 8 rfl trivial ?_
              try simp only [hn]
              first
                | exact absurd h64 (by decide)
                | (refine er_cong ?_ (ih (c + 1) (some (mv_I 0)) (by omega)); rw [nI_1]; clear ih; simp_all [mk_, cb_, pv_, sh_iff]; done)
                | (refine er_cong ?_ (ih (c + 1) (some (mv_I 1)) (by omega)); rw [nI_1]; clear ih; simp_all [mk_, cb_, pv_, sh_iff]; done)
          · refine e_run 5 rfl trivial ?_
            try simp only [hn]
            refine e_if rfl (fun h64 => ?_) (fun h64 => ?_)
            · refine e_run 5 rfl trivial ?_
              try simp only [hn]
              first
                | exact absurd h64 (by decide)
                | (refine er_cong ?_ (ih (c + 1) (some (mv_I 0)) (by omega)); rw [nI_1]; clear ih; simp_all [mk_, cb_, pv_, sh_iff]; done)
                | (refine er_cong ?_ (ih (c + 1) (some (mv_I 1)) (by omega)); rw [nI_1]; clear ih; simp_all [mk_, cb_, pv_, sh_iff]; done)
            · refine e_run 8 rfl trivial ?_
              try simp only [hn]
              first
                | exact absurd h64 (by decide)
                | (refine er_cong ?_ (ih (c + 1) (some (mv_I 0)) (by omega)); rw [nI_1]; clear ih; simp_all [mk_, cb_, pv_, sh_iff]; done)
                | (refine er_cong ?_ (ih (c + 1) (some (mv_I 1)) (by omega)); rw [nI_1]; clear ih; simp_all [mk_, cb_, pv_, sh_iff]; done)
theorem rs_candidatesFor (d : Nat) {C M : mv_M} {n : Nat} (hD : dr_ C M n) (t q : Int32) : ev_ (d + 2) kX4_candidatesFor [mv_R 22 0, mv_I t, mv_I q] M (Sum.inl (some (mv_I (mk_ (cb_ C t q) n)))) M := by
  refine e_ev rfl rfl ?_
  refine e_run 4 rfl trivial ?_
  exact lp_rcand d hD t q n 0 none (by omega)
/-- the bits below m -/
def bn_ (x : Int32) : Nat → Nat
  | 0 => 0
  | m + 1 => bn_ x m + (if bt x m = true then 1 else 0)
theorem bn_s (x : Int32) (m : Nat) : bn_ x (m + 1) = bn_ x m + (if bt x m = true then 1 else 0) := rfl
theorem bn_le (x : Int32) : ∀ m : Nat, bn_ x m ≤ m
  | 0 => Nat.le_refl 0
  | m + 1 => by
    have := bn_le x m
    rw [bn_s]
    split <;> omega
theorem lp_bits (d : Nat) (M : mv_M) (x : Int32) : ∀ m c : Nat, c + m = 20 → er_ d 0 kX4_bits (4, [some (mv_I x), some (mv_I (nI (bn_ x c))), some (mv_I (nI c))], [], M) (Sum.inl (some (mv_I (nI (bn_ x 20))))) M := by
  intro m
  induction m with
  | zero =>
    intro c h1
    have hce : c = 20 := by omega
    subst hce
    refine e_run 2 rfl trivial ?_
    refine e_if rfl (fun h7 => ?_) (fun h7 => absurd (nI_le (a := 20) (b := 20) (by omega) (by omega)) h7)
    refine e_run 1 rfl trivial ?_
    exact e_ret rfl trivial rfl rfl
  | succ m ih =>
    intro c h1
    have hb : nI (bn_ x c) + ((x >>> (nI c &&& 31)) &&& 1) = nI (bn_ x (c + 1)) := by
      rw [bt_shr' (by omega), bn_s]
      split
      · exact nI_1 _
      · exact Int32.add_zero _
    refine e_run 2 rfl trivial ?_
    refine e_if rfl (fun h7 => absurd h7 (nI_ge (b := 20) (by omega) (by omega))) (fun h7 => ?_)
    refine e_run 10 rfl trivial ?_
    exact er_cong (by rw [nI_1, ← hb]) (ih (c + 1) (by omega))
theorem rs_bits (d : Nat) (M : mv_M) (x : Int32) : ev_ d kX4_bits [mv_I x] M (Sum.inl (some (mv_I (nI (bn_ x 20))))) M := by
  refine e_ev rfl rfl ?_
  refine e_run 4 rfl trivial ?_
  exact lp_bits d M x 20 0 (by omega)
/-- the lowest bit of x is j -/
def lo_ (x : Int32) (j : Nat) : Prop := bt x j = true ∧ ∀ i, i < j → bt x i = false
theorem lp_lowest (d : Nat) (M : mv_M) (x : Int32) (j : Nat) (hj : j < 32) (hl : lo_ x j) : ∀ m c : Nat, c + m = j → er_ d 0 kX4_lowest (2, [some (mv_I x), some (mv_I (nI c))], [], M) (Sum.inl (some (mv_I (nI j)))) M := by
  intro m
  induction m with
  | zero =>
    intro c h1
    have hce : c = j := by omega
    subst hce
    have hb : ¬ (x >>> (nI c &&& 31)) &&& 1 = 0 := by
      rw [bt_shr' hj, hl.1]
      decide
    refine e_run 5 rfl trivial ?_
    refine e_if rfl (fun h7 => ?_) (fun h7 => absurd h7 hb)
    refine e_run 1 rfl trivial ?_
    exact e_ret rfl trivial rfl rfl
  | succ m ih =>
    intro c h1
    have hb : (x >>> (nI c &&& 31)) &&& 1 = 0 := by
      rw [bt_shr' (by omega), hl.2 c (by omega)]
      rfl
    refine e_run 5 rfl trivial ?_
    refine e_if rfl (fun h7 => absurd hb h7) (fun h7 => ?_)
    refine e_run 2 rfl trivial ?_
    exact er_cong (by rw [nI_1]) (ih (c + 1) (by omega))
theorem rs_lowest (d : Nat) (M : mv_M) (x : Int32) (j : Nat) (hj : j < 32) (hl : lo_ x j) : ev_ d kX4_lowest [mv_I x] M (Sum.inl (some (mv_I (nI j)))) M := by
  refine e_ev rfl rfl ?_
  refine e_run 2 rfl trivial ?_
  exact lp_lowest d M x j hj hl j 0 (by omega)
theorem lo_ex (x : Int32) : ∀ m : Nat, (∃ i, i < m ∧ bt x i = true) → ∃ j, j < m ∧ lo_ x j
  | 0, ⟨i, h, _⟩ => by omega
  | m + 1, ⟨i, h, hb⟩ => by
    by_cases q : ∃ i, i < m ∧ bt x i = true
    · obtain ⟨j, h1, h2⟩ := lo_ex x m q
      exact ⟨j, by omega, h2⟩
    · have hlo : ∀ i, i < m → bt x i = false := by
        intro i hi
        cases hx : bt x i with
        | false => rfl
        | true => exact absurd ⟨i, hi, hx⟩ q
      have him : i = m := by
        rcases Nat.lt_or_ge i m with hh | hh
        · exact absurd ⟨i, hh, hb⟩ q
        · omega
      subst him
      exact ⟨i, by omega, hb, hlo⟩
/-- x has bits below n only -/
def be_ (x : Int32) (n : Nat) : Prop := ∀ i, n ≤ i → bt x i = false
theorem be_lo {x : Int32} {n : Nat} (h : be_ x n) (h0 : ¬ x = 0) : ∃ j, j < n ∧ lo_ x j := by
  apply lo_ex
  apply Classical.byContradiction
  intro q
  apply h0
  refine b_ext (fun i _ => ?_)
  rw [b_0]
  rcases Nat.lt_or_ge i n with hh | hh
  · cases hx : bt x i with
    | false => rfl
    | true => exact absurd ⟨i, hh, hx⟩ q
  · exact h i hh
theorem be_mk (f : Nat → Bool) : ∀ n : Nat, n ≤ 20 → ∀ i, bt (mk_ f n) i = (decide (i < n) && f i)
  | 0, _, i => by
    show bt 0 i = _
    rw [b_0, decide_eq_false (by omega), Bool.false_and]
  | n + 1, hn, i => by
    have ih := be_mk f n (by omega) i
    unfold mk_
    split
    · next h =>
      rw [bt_or1 (by omega), ih]
      by_cases e : i = n
      · subst e
        simp [h]
      · rw [decide_eq_false e, Bool.or_false]
        by_cases e2 : i < n
        · rw [decide_eq_true e2, decide_eq_true (by omega)]
        · rw [decide_eq_false e2, decide_eq_false (by omega)]
    · next h =>
      rw [ih]
      by_cases e : i = n
      · subst e
        simp [h]
      · by_cases e2 : i < n
        · rw [decide_eq_true e2, decide_eq_true (by omega)]
        · rw [decide_eq_false e2, decide_eq_false (by omega)]
theorem mk_be (f : Nat → Bool) {n : Nat} (hn : n ≤ 20) : be_ (mk_ f n) n := fun i hi => by rw [be_mk f n hn, decide_eq_false (by omega), Bool.false_and]
theorem bn_0 (x : Int32) : ∀ m : Nat, bn_ x m = 0 ↔ ∀ i, i < m → bt x i = false
  | 0 => ⟨fun _ i h => by omega, fun _ => rfl⟩
  | m + 1 => by
    unfold bn_
    have ih := bn_0 x m
    cases h : bt x m with
    | true =>
      refine ⟨fun q => by simp at q, fun q => ?_⟩
      have := q m (by omega)
      rw [h] at this
      cases this
    | false =>
      simp only [Bool.false_eq_true, if_false, Nat.add_zero]
      rw [ih]
      refine ⟨fun q i hi => ?_, fun q i hi => q i (by omega)⟩
      by_cases e : i = m
      · rw [e]; exact h
      · exact q i (by omega)
theorem bn_1 (x : Int32) : ∀ m : Nat, bn_ x m = 1 → ∃ j, j < m ∧ ∀ i, i < m → bt x i = decide (i = j)
  | 0, h => by cases h
  | m + 1, h => by
    unfold bn_ at h
    cases hb : bt x m with
    | true =>
      rw [hb, if_pos rfl] at h
      have h0 := (bn_0 x m).mp (by omega)
      refine ⟨m, by omega, fun i hi => ?_⟩
      by_cases e : i = m
      · rw [e, hb]; simp
      · rw [h0 i (by omega), decide_eq_false e]
    | false =>
      rw [hb, if_neg (by decide)] at h
      obtain ⟨j, h1, h2⟩ := bn_1 x m h
      refine ⟨j, by omega, fun i hi => ?_⟩
      by_cases e : i = m
      · rw [e, hb, decide_eq_false (by omega)]
      · exact h2 i (by omega)
theorem bn_one {j : Nat} (hj : j < 32) : ∀ m : Nat, bn_ (1 <<< (nI j &&& 31)) m = if j < m then 1 else 0
  | 0 => rfl
  | m + 1 => by
    rw [bn_s, bn_one hj m, bt_one hj]
    by_cases e : m = j
    · subst e
      simp
    · rw [decide_eq_false e]
      by_cases e2 : j < m
      · rw [if_pos e2, if_pos (show j < m + 1 by omega)]; rfl
      · rw [if_neg e2, if_neg (show ¬ j < m + 1 by omega)]; rfl
theorem lo_one {j : Nat} (hj : j < 32) : lo_ (1 <<< (nI j &&& 31)) j := ⟨by rw [bt_one hj]; simp, fun i hi => by rw [bt_one hj, decide_eq_false (by omega)]⟩
theorem one_inj {i j : Nat} (hi : i < 32) (hj : j < 32) (h : (1 : Int32) <<< (nI i &&& 31) = 1 <<< (nI j &&& 31)) : i = j := by
  have h1 : bt (1 <<< (nI i &&& 31)) i = bt (1 <<< (nI j &&& 31)) i := by rw [h]
  rw [bt_one hi, bt_one hj, decide_eq_true rfl] at h1
  exact of_decide_eq_true h1.symm
theorem si_one {x : Int32} {j : Nat} (hx : x = 1 <<< (nI j &&& 31)) (hj : j < 32) : ∀ m c : Nat, c ≤ j → j < c + m → c + m ≤ 32 → si_ x m c = nI j
  | 0, c, h1, h2, _ => by omega
  | m + 1, c, h1, h2, h3 => by
    unfold si_
    by_cases e : c = j
    · subst e
      rw [if_pos hx]
    · rw [if_neg (fun q => e (one_inj (by omega) hj (q.symm.trans hx)))]
      exact si_one hx hj m (c + 1) (by omega) (by omega) (by omega)
theorem si_none {x : Int32} : ∀ m c : Nat, (∀ j, c ≤ j → j < c + m → ¬ x = 1 <<< (nI j &&& 31)) → si_ x m c = -1
  | 0, c, _ => rfl
  | m + 1, c, h => by
    unfold si_
    rw [if_neg (h c (by omega) (by omega))]
    exact si_none m (c + 1) (fun j h1 h2 => h j (by omega) (by omega))
/-- a mask of one, or not -/
theorem si_bn {x : Int32} {n : Nat} (hn : n ≤ 20) (hx : be_ x n) : (∃ j, j < n ∧ bn_ x 20 = 1 ∧ x = 1 <<< (nI j &&& 31) ∧ si_ x n 0 = nI j) ∨ (¬ bn_ x 20 = 1 ∧ si_ x n 0 = -1) := by
  by_cases h : bn_ x 20 = 1
  · obtain ⟨j, h1, h2⟩ := bn_1 x 20 h
    have hjn : j < n := by
      rcases Nat.lt_or_ge j n with q | q
      · exact q
      · have := hx j q
        rw [h2 j h1] at this
        simp at this
    have hxe : x = 1 <<< (nI j &&& 31) := by
      refine b_ext (fun i hi => ?_)
      rw [bt_one (by omega)]
      rcases Nat.lt_or_ge i 20 with q | q
      · exact h2 i q
      · rw [hx i (by omega), decide_eq_false (by omega)]
    exact Or.inl ⟨j, hjn, h, hxe, si_one hxe (by omega) n 0 (by omega) (by omega) (by omega)⟩
  · refine Or.inr ⟨h, si_none n 0 (fun j _ hj q => h ?_)⟩
    rw [q, bn_one (by omega), if_pos (by omega)]
theorem pm_bt {C : mv_M} (hp : ∀ c, c < 20 → C 19 c 3 = 0 ∨ C 19 c 3 = 1) : ∀ m : Nat, m ≤ 20 → ∀ i, bt (pm_ C m) i = (decide (i < m) && decide (C 19 i 3 = 1))
  | 0, _, i => by
    show bt 0 i = _
    rw [b_0, decide_eq_false (by omega), Bool.false_and]
  | m + 1, hm, i => by
    show bt (pm_ C m ||| (C 19 m 3 <<< (nI m &&& 31))) i = _
    rw [b_or, pm_bt hp m (by omega) i]
    have h0 : bt ((0 : Int32) <<< (nI m &&& 31)) i = false := by
      rcases Nat.lt_or_ge i 32 with h | h
      · rw [b_shl m (by omega) 0 h, b_0, Bool.and_false]
      · exact b_big h
    by_cases e : i = m
    · subst e
      rcases hp i (by omega) with h | h
      · rw [h, h0]
        simp
      · rw [h, bt_one (by omega)]
        simp
    · have hd : decide (i < m + 1) = decide (i < m) := by
        by_cases e2 : i < m
        · rw [decide_eq_true e2, decide_eq_true (by omega)]
        · rw [decide_eq_false e2, decide_eq_false (by omega)]
      rw [hd]
      rcases hp m (by omega) with h | h
      · rw [h, h0, Bool.or_false]
      · rw [h, bt_one (by omega), decide_eq_false e, Bool.or_false]
/-- the primary ones of a mask -/
def fx_ (C : mv_M) (x : Int32) (i : Nat) : Bool := bt x i && decide (C 19 i 3 = 1)
theorem fm_eq {C : mv_M} (hp : ∀ c, c < 20 → C 19 c 3 = 0 ∨ C 19 c 3 = 1) (x : Int32) {n : Nat} (hn : n ≤ 20) : mk_ (fx_ C x) n = x &&& pm_ C n := by
  refine b_ext (fun i hi => ?_)
  rw [b_and, pm_bt hp n hn, be_mk _ n hn]
  unfold fx_
  cases bt x i <;> simp
theorem lp_choose (D : Nat) {C M M' : mv_M} {n : Nat} {o : mv_O} (hD : dr_ C M n) (t q x : Int32) (hk : er_ (D + 1) 0 kX4_choose (81, [some (mv_R 22 0), some (mv_I t), some (mv_I q), some (mv_I x), some (mv_I (mk_ (fx_ C x) n)), some (mv_I (nI n))], [], M) o M') : ∀ (m c : Nat), c + m = n → er_ (D + 1) 0 kX4_choose (32, [some (mv_R 22 0), some (mv_I t), some (mv_I q), some (mv_I x), some (mv_I (mk_ (fx_ C x) c)), some (mv_I (nI c))], [], M) o M' := by
  have hn := hD.2.1
  have h20 := hD.1.2.1
  intro m
  induction m with
  | zero =>
    intro c h1
    have hce : c = n := by omega
    subst hce
    refine e_run 3 rfl trivial ?_
    try simp only [hn]
    refine e_if rfl (fun h38 => ?_) (fun h38 => absurd (nI_le (by omega) (by omega)) h38)
    exact hk
  | succ m ih =>
    intro c h1
    have hb : (x >>> (nI c &&& 31)) &&& 1 = if bt x c = true then 1 else 0 := bt_shr' (by omega) x
    refine e_run 3 rfl trivial ?_
    try simp only [hn]
    refine e_if rfl (fun h38 => absurd h38 (nI_ge (by omega) (by omega))) (fun h38 => ?_)
    refine e_run 7 rfl trivial ?_
    try simp only [hn]
    refine e_if rfl (fun h50 => ?_) (fun h50 => ?_)
    · refine e_run 5 rfl trivial ?_
      try simp only [hn]
      (refine er_cong ?_ (ih (c + 1) (by omega)); rw [nI_1]; clear ih hk; simp_all [mk_, fx_]; done)
    · refine e_run 3 rfl trivial ?_
      try simp only [hn]
      refine e_calli rfl (rs_of D hD c 3 (by omega) (by omega)) (by decide) ?_
      try simp only [hn]
      refine e_run 1 rfl trivial ?_
      try simp only [hn]
      refine e_if rfl (fun h61 => ?_) (fun h61 => ?_)
      · refine e_run 5 rfl trivial ?_
        try simp only [hn]
        (refine er_cong ?_ (ih (c + 1) (by omega)); rw [nI_1]; clear ih hk; simp_all [mk_, fx_]; done)
      · refine e_run 8 rfl trivial ?_
        try simp only [hn]
        (refine er_cong ?_ (ih (c + 1) (by omega)); rw [nI_1]; clear ih hk; simp_all [mk_, fx_]; done)
theorem ch_0 (C : mv_M) {n : Nat} (hn : n ≤ 20) : ch_ C n 0 = -1 := by
  have h : ∀ x : Int32, x = 0 → si_ x n 0 = -1 := fun x hx => si_none n 0 (fun j _ hj q => by
    have h1 : bt x j = bt (1 <<< (nI j &&& 31)) j := by rw [← q]
    rw [hx, b_0, bt_one (by omega), decide_eq_true rfl] at h1
    cases h1)
  unfold ch_
  rw [if_neg (fun q => q (h 0 rfl))]
  refine h _ (b_ext (fun i _ => ?_))
  rw [b_and, b_0, Bool.false_and]
/-- the choice, or the kind of the failure below 0 -/
def co_ (C : mv_M) (n : Nat) (t q : Int32) : Int32 := if mk_ (cb_ C t q) n = 0 then -1 else if ch_ C n (mk_ (cb_ C t q) n) = -1 then -2 else ch_ C n (mk_ (cb_ C t q) n)
theorem rs_choose (d : Nat) {C M : mv_M} {n : Nat} (hD : dr_ C M n) (t q : Int32) : ev_ (d + 3) kX4_choose [mv_R 22 0, mv_I t, mv_I q] M (Sum.inl (some (mv_I (co_ C n t q)))) M := by
  have h20 := hD.1.2.1
  have hp := hD.2.2.2.2.2.2
  have hbe := mk_be (cb_ C t q) h20
  have hne : ∀ j, j < n → ¬ nI j = -1 := fun j hj e => nI_pos (n := j) (by omega) (by rw [e]; decide)
  refine e_ev rfl rfl ?_
  unfold co_
  by_cases h0 : mk_ (cb_ C t q) n = 0
  · rw [if_pos h0]
    refine e_run 3 rfl trivial ?_
    refine e_calli rfl (rs_candidatesFor d hD t q) (by decide) ?_
    refine e_run 2 rfl trivial ?_
    refine e_if rfl (fun h8 => absurd h0 h8) (fun h8 => ?_)
    refine e_run 1 rfl trivial ?_
    exact e_ret rfl trivial rfl rfl
  · rw [if_neg h0]
    rcases si_bn h20 hbe with ⟨j, hj, hb, hx, hs⟩ | ⟨hb, hs⟩
    · have hc : ch_ C n (mk_ (cb_ C t q) n) = nI j := by
        unfold ch_
        rw [if_pos (by rw [hs]; exact hne j hj), hs]
      rw [hc, if_neg (hne j hj)]
      refine e_run 3 rfl trivial ?_
      refine e_calli rfl (rs_candidatesFor d hD t q) (by decide) ?_
      refine e_run 2 rfl trivial ?_
      refine e_if rfl (fun h8 => ?_) (fun h8 => absurd h8 h0)
      refine e_run 1 rfl trivial ?_
      refine e_calli rfl (rs_bits (d + 2) M _) (by decide) ?_
      refine e_run 1 rfl trivial ?_
      refine e_if rfl (fun h18 => absurd (by rw [hb]; rfl) h18) (fun h18 => ?_)
      refine e_run 1 rfl trivial ?_
      refine e_calli rfl (rs_lowest (d + 2) M _ j (by omega) (by rw [hx]; exact lo_one (by omega))) (by decide) ?_
      exact e_ret rfl trivial rfl rfl
    · have hb1 : ¬ nI (bn_ (mk_ (cb_ C t q) n) 20) = 1 := fun e => hb (nI_inj (b := 1) (by have := bn_le (mk_ (cb_ C t q) n) 20; omega) (by omega) e)
      have hbf := mk_be (fx_ C (mk_ (cb_ C t q) n)) h20
      have hc : ch_ C n (mk_ (cb_ C t q) n) = si_ (mk_ (fx_ C (mk_ (cb_ C t q) n)) n) n 0 := by
        unfold ch_
        rw [if_neg (fun e => e hs), fm_eq hp _ h20]
      rw [hc]
      refine e_run 3 rfl trivial ?_
      refine e_calli rfl (rs_candidatesFor d hD t q) (by decide) ?_
      refine e_run 2 rfl trivial ?_
      refine e_if rfl (fun h8 => ?_) (fun h8 => absurd h8 h0)
      refine e_run 1 rfl trivial ?_
      refine e_calli rfl (rs_bits (d + 2) M _) (by decide) ?_
      refine e_run 1 rfl trivial ?_
      refine e_if rfl (fun h18 => ?_) (fun h18 => absurd h18 hb1)
      refine e_run 4 rfl trivial ?_
      refine lp_choose (d + 2) hD t q _ ?_ n 0 (by omega)
      rcases si_bn h20 hbf with ⟨j, hj, hb2, hx, hs2⟩ | ⟨hb2, hs2⟩
      · rw [hs2, if_neg (hne j hj)]
        refine e_run 1 rfl trivial ?_
        refine e_calli rfl (rs_bits (d + 2) M _) (by decide) ?_
        refine e_run 1 rfl trivial ?_
        refine e_if rfl (fun h87 => absurd (by rw [hb2]; rfl) h87) (fun h87 => ?_)
        refine e_run 1 rfl trivial ?_
        refine e_calli rfl (rs_lowest (d + 2) M _ j (by omega) (by rw [hx]; exact lo_one (by omega))) (by decide) ?_
        refine e_run 1 rfl trivial ?_
        exact e_ret rfl trivial rfl rfl
      · rw [hs2, if_pos rfl]
        have hb3 : ¬ nI (bn_ (mk_ (fx_ C (mk_ (cb_ C t q) n)) n) 20) = 1 := fun e => hb2 (nI_inj (b := 1) (by have := bn_le (mk_ (fx_ C (mk_ (cb_ C t q) n)) n) 20; omega) (by omega) e)
        refine e_run 1 rfl trivial ?_
        refine e_calli rfl (rs_bits (d + 2) M _) (by decide) ?_
        refine e_run 1 rfl trivial ?_
        refine e_if rfl (fun h87 => ?_) (fun h87 => absurd h87 hb3)
        refine e_run 1 rfl trivial ?_
        exact e_ret rfl trivial rfl rfl
theorem nn_iff (x : Int32) : x < 0 ↔ bt x 31 = true := by
  rw [Int32.lt_iff_toInt_lt]
  have h : bt x 31 = decide (x.toInt < 0) := by
    unfold bt
    rw [← BitVec.msb_eq_getLsbD_last]
    exact BitVec.msb_eq_toInt
  rw [h]
  simp
theorem be_nn {x : Int32} {n : Nat} (h : be_ x n) (hn : n ≤ 31) : ¬ x < 0 := by
  rw [nn_iff, h 31 hn]
  decide
theorem nn_pos {x : Int32} (h : ¬ x < 0) (h0 : ¬ x = 0) : ¬ x ≤ 0 := by
  intro q
  apply h0
  rw [Int32.lt_iff_toInt_lt] at h
  rw [Int32.le_iff_toInt_le] at q
  apply Int32.toInt_inj.mp
  omega
/-- x is among the first g frames -/
def ff_ (M : mv_M) (x : Int32) : Nat → Bool
  | 0 => false
  | g + 1 => ff_ M x g || decide (M 27 0 g = x)
theorem lp_isInFrames (d : Nat) (M : mv_M) (x : Int32) (g : Nat) (hg : M 22 0 10 = nI g) (h21 : g ≤ 21) : ∀ m k : Nat, k + m = g → er_ d 0 kX4_isInFrames (4, [some (mv_R 22 0), some (mv_I x), some (mv_I (if ff_ M x k = true then 1 else 0)), some (mv_I (nI k))], [], M) (Sum.inl (some (mv_I (if ff_ M x g = true then 1 else 0)))) M := by
  intro m
  induction m with
  | zero =>
    intro k h1
    have hce : k = g := by omega
    subst hce
    refine e_run 3 rfl trivial ?_
    try simp only [hg]
    refine e_if rfl (fun h9 => ?_) (fun h9 => absurd (nI_le (by omega) (by omega)) h9)
    refine e_run 1 rfl trivial ?_
    try simp only [hg]
    (refine e_ret rfl ?_ rfl rfl; show (if ff_ M x k = true then (1 : Int32) else 0) = 0 ∨ (if ff_ M x k = true then (1 : Int32) else 0) = 1; split <;> simp)
  | succ m ih =>
    intro k h1
    have hcl : (nI k).toNatClampNeg = k := nI_clamp (by omega)
    refine e_run 3 rfl trivial ?_
    try simp only [hg, hcl]
    refine e_if rfl (fun h9 => absurd h9 (nI_ge (by omega) (by omega))) (fun h9 => ?_)
    refine e_run 1 rfl trivial ?_
    try simp only [hg, hcl]
    refine e_if rfl (fun h13 => ?_) (fun h13 => ?_)
    · refine e_run 5 rfl trivial ?_
      try simp only [hg, hcl]
      (refine er_cong ?_ (ih (k + 1) (by omega)); rw [nI_1]; clear ih; simp_all [ff_]; done)
    · refine e_run 5 rfl ?_ ?_
      · ((try simp only [hg, hcl]) <;> and_intros <;> first | trivial | exact in_n (by omega) (by omega) | omega | (unfold vp_in; decide) | (simp only [*]; omega))
      try simp only [hg, hcl]
      refine e_if rfl (fun h23 => ?_) (fun h23 => ?_)
      · refine e_run 4 rfl trivial ?_
        try simp only [hg, hcl]
        (refine er_cong ?_ (ih (k + 1) (by omega)); rw [nI_1]; clear ih; simp_all [ff_]; done)
      · refine e_run 5 rfl trivial ?_
        try simp only [hg, hcl]
        (refine er_cong ?_ (ih (k + 1) (by omega)); rw [nI_1]; clear ih; simp_all [ff_]; done)
theorem rs_isInFrames (d : Nat) (M : mv_M) (x : Int32) (g : Nat) (hg : M 22 0 10 = nI g) (h21 : g ≤ 21) : ev_ d kX4_isInFrames [mv_R 22 0, mv_I x] M (Sum.inl (some (mv_I (if ff_ M x g = true then 1 else 0)))) M := by
  refine e_ev rfl rfl ?_
  refine e_run 4 rfl trivial ?_
  exact lp_isInFrames d M x g hg h21 g 0 (by omega)
/-- a frame more -/
def pu_ (M : mv_M) (g : Nat) (x : Int32) : mv_M := mv_up (mv_up (mv_up (mv_up M 27 0 g x) 28 0 g 0) 29 0 g 0) 22 0 10 (nI (g + 1))
theorem rs_push (d : Nat) (M : mv_M) (x : Int32) (g : Nat) (hg : M 22 0 10 = nI g) (h21 : g < 21) : ev_ d kX4_push [mv_R 22 0, mv_I x] M (Sum.inl none) (pu_ M g x) := by
  have hcl : (nI g).toNatClampNeg = g := nI_clamp (by omega)
  refine e_ev rfl rfl ?_
  refine e_run 24 rfl ?_ ?_
  · ((try simp only [hg, hcl, rd_, up_, Nat.reduceEqDiff, reduceIte, and_self, and_true, true_and, and_false, false_and, if_true, if_false, nI_1]) <;> and_intros <;> first | trivial | exact in_n (by omega) (by omega) | omega | (unfold vp_in; decide) | (simp only [*]; omega))
  try simp only [hg, hcl, rd_, up_, Nat.reduceEqDiff, reduceIte, and_self, and_true, true_and, and_false, false_and, if_true, if_false, nI_1]
  exact e_ret rfl trivial rfl rfl
/-- what a dependency wants; below 0 the kind of its failure -/
def wt_ (C : mv_M) (n c i : Nat) : Int32 := if C 20 c (3 * i + 2) = 3 then 0 else if C 20 c (3 * i + 2) = 2 then cf_ C n c i else if ¬ co_ C n (C 20 c (3 * i)) (C 20 c (3 * i + 1)) < 0 then 1 <<< (co_ C n (C 20 c (3 * i)) (C 20 c (3 * i + 1)) &&& 31) else if C 20 c (3 * i + 2) = 1 ∧ co_ C n (C 20 c (3 * i)) (C 20 c (3 * i + 1)) = -1 then 0 else co_ C n (C 20 c (3 * i)) (C 20 c (3 * i + 1))
theorem rs_wanted (d : Nat) {C M : mv_M} {n : Nat} (hD : dr_ C M n) (c i : Nat) (hc : c < 20) (hi : i < 6) : ev_ (d + 4) kX4_wanted [mv_R 22 0, mv_I (nI c), mv_I (nI i)] M (Sum.inl (some (mv_I (wt_ C n c i)))) M := by
  refine e_ev rfl rfl ?_
  refine e_run 4 rfl trivial ?_
  refine e_calli rfl (rs_dependAt (d + 3) hD c i 2 hc hi (by omega)) (by decide) ?_
  refine e_run 5 rfl trivial ?_
  refine e_calli rfl (rs_dependAt (d + 3) hD c i 0 hc hi (by omega)) (by decide) ?_
  refine e_run 5 rfl trivial ?_
  refine e_calli rfl (rs_dependAt (d + 3) hD c i 1 hc hi (by omega)) (by decide) ?_
  refine e_run 3 rfl trivial ?_
  refine e_if rfl (fun h28 => ?_) (fun h28 => ?_)
  · refine e_run 2 rfl trivial ?_
    refine e_if rfl (fun h35 => ?_) (fun h35 => ?_)
    · refine e_run 3 rfl trivial ?_
      refine e_calli rfl (rs_choose d hD _ _) (by decide) ?_
      refine e_run 2 rfl trivial ?_
      refine e_if rfl (fun h59 => ?_) (fun h59 => ?_)
      · refine e_run 2 rfl trivial ?_
        refine e_if rfl (fun h71 => ?_) (fun h71 => ?_)
        · refine e_run 1 rfl trivial ?_
          (refine e_ret rfl trivial ?_ rfl; clear hD; simp_all [wt_, cf_]; done)
        · refine e_run 2 rfl trivial ?_
          refine e_if rfl (fun h77 => ?_) (fun h77 => ?_)
          · refine e_run 1 rfl trivial ?_
            (refine e_ret rfl trivial ?_ rfl; clear hD; simp_all [wt_, cf_]; done)
          · refine e_run 2 rfl trivial ?_
            (refine e_ret rfl trivial ?_ rfl; clear hD; simp_all [wt_, cf_]; done)
      · refine e_run 4 rfl trivial ?_
        (refine e_ret rfl trivial ?_ rfl; clear hD; simp_all [wt_, cf_]; done)
    · refine e_run 3 rfl trivial ?_
      refine e_calli rfl (ev_le (rs_candidatesFor 0 hD _ _) (by omega)) (by decide) ?_
      (refine e_ret rfl trivial ?_ rfl; clear hD; simp_all [wt_, cf_]; done)
  · refine e_run 1 rfl trivial ?_
    (refine e_ret rfl trivial ?_ rfl; clear hD; simp_all [wt_, cf_]; done)
theorem co_val (C : mv_M) {n : Nat} (t q : Int32) : co_ C n t q = -1 ∨ co_ C n t q = -2 ∨ ∃ j, j < n ∧ co_ C n t q = nI j := by
  unfold co_
  split
  · exact Or.inl rfl
  · split
    · exact Or.inr (Or.inl rfl)
    · next h =>
      obtain ⟨j, h1, h2⟩ := (ch_val C n (mk_ (cb_ C t q) n)).resolve_left h
      exact Or.inr (Or.inr ⟨j, h2, h1⟩)
/-- the needs of a dependency, out of what it wants -/
theorem wt_nd (C : mv_M) {n : Nat} (hn : n ≤ 20) (c i : Nat) : (if wt_ C n c i ≤ 0 then 0 else wt_ C n c i) = nd_ C n c i := by
  have hpos : ∀ x : Int32, be_ x n → (if x ≤ 0 then 0 else x) = x := by
    intro x hx
    split
    · next h =>
      by_cases h0 : x = 0
      · exact h0.symm
      · exact absurd h (nn_pos (be_nn hx (by omega)) h0)
    · rfl
  unfold wt_ nd_
  split
  · rfl
  · split
    · exact hpos _ (mk_be _ hn)
    · have hch : ch_ C n (cf_ C n c i) = if co_ C n (C 20 c (3 * i)) (C 20 c (3 * i + 1)) < 0 then -1 else co_ C n (C 20 c (3 * i)) (C 20 c (3 * i + 1)) := by
        unfold co_
        show ch_ C n (mk_ _ n) = _
        split
        · next h => rw [h, ch_0 C hn]; rfl
        · split
          · next h => rw [h]; rfl
          · next h =>
            obtain ⟨j, h1, h2⟩ := (ch_val C n (mk_ (cb_ C (C 20 c (3 * i)) (C 20 c (3 * i + 1))) n)).resolve_left h
            rw [h1, if_neg (nI_pos (by omega))]
      rw [hch]
      rcases co_val C (n := n) (C 20 c (3 * i)) (C 20 c (3 * i + 1)) with h | h | ⟨j, hj, h⟩
      · rw [h]
        simp only [show ((-1 : Int32) < 0) by decide, not_true_eq_false, if_false, if_true]
        split <;> simp
      · rw [h]
        simp only [show ((-2 : Int32) < 0) by decide, not_true_eq_false, if_false, if_true]
        simp
      · rw [h]
        have hp := nI_pos (n := j) (by omega)
        have hne : ¬ nI j = -1 := fun e => hp (by rw [e]; decide)
        simp only [hp, not_false_eq_true, if_true, if_false, hne]
        refine hpos _ (fun k hk => ?_)
        rw [bt_one (by omega), decide_eq_false (by omega)]
theorem lp_directly (d : Nat) {C M : mv_M} {n : Nat} (hD : dr_ C M n) (c : Nat) (hc : c < 20) : ∀ (m i : Nat) (z : Option mv_V), i + m = dc_ C c → er_ (d + 5) 0 kX4_directly (4, [some (mv_R 22 0), some (mv_I (nI c)), some (mv_I (dn_ C n c i)), some (mv_I (nI i)), z], [], M) (Sum.inl (some (mv_I (dn_ C n c (dc_ C c))))) M := by
  have h20 := hD.1.2.1
  have hk := hD.2.2.2.2.1 c hc
  obtain ⟨hk1, hk6⟩ := hD.1.2.2 c hc
  have hcl : (nI c).toNatClampNeg = c := nI_clamp (by omega)
  rw [hk1] at hk
  intro m
  induction m with
  | zero =>
    intro i z h1
    have hce : i = dc_ C c := by omega
    subst hce
    refine e_run 5 rfl ?_ ?_
    · ((try simp only [hk, hcl]) <;> and_intros <;> first | trivial | exact in_n (by omega) (by omega) | omega | (unfold vp_in; decide) | (simp only [*]; omega))
    try simp only [hk, hcl]
    refine e_if rfl (fun h11 => ?_) (fun h11 => absurd (nI_le (by omega) (by omega)) h11)
    refine e_run 1 rfl trivial ?_
    try simp only [hk, hcl]
    exact e_ret rfl trivial rfl rfl
  | succ m ih =>
    intro i z h1
    have hnd := wt_nd C h20 c i
    have hs : dn_ C n c (i + 1) = dn_ C n c i ||| nd_ C n c i := rfl
    refine e_run 5 rfl ?_ ?_
    · ((try simp only [hk, hcl]) <;> and_intros <;> first | trivial | exact in_n (by omega) (by omega) | omega | (unfold vp_in; decide) | (simp only [*]; omega))
    try simp only [hk, hcl]
    refine e_if rfl (fun h11 => absurd h11 (nI_ge (by omega) (by omega))) (fun h11 => ?_)
    refine e_run 3 rfl trivial ?_
    try simp only [hk, hcl]
    refine e_calli rfl (rs_wanted d hD c i hc (by omega)) (by decide) ?_
    try simp only [hk, hcl]
    refine e_run 3 rfl trivial ?_
    try simp only [hk, hcl]
    refine e_if rfl (fun h25 => ?_) (fun h25 => ?_)
    · refine e_run 5 rfl trivial ?_
      try simp only [hk, hcl]
      (refine er_cong ?_ (ih (i + 1) (some (mv_I (wt_ C n c i))) (by omega)); rw [nI_1, hs, ← hnd]; first | (rw [if_pos h25]; done) | (rw [if_neg h25]; done))
    · refine e_run 6 rfl trivial ?_
      try simp only [hk, hcl]
      (refine er_cong ?_ (ih (i + 1) (some (mv_I (wt_ C n c i))) (by omega)); rw [nI_1, hs, ← hnd]; first | (rw [if_pos h25]; done) | (rw [if_neg h25]; done))
theorem rs_directly (d : Nat) {C M : mv_M} {n : Nat} (hD : dr_ C M n) (c : Nat) (hc : c < 20) : ev_ (d + 5) kX4_directly [mv_R 22 0, mv_I (nI c)] M (Sum.inl (some (mv_I (dn_ C n c (dc_ C c))))) M := by
  refine e_ev rfl rfl ?_
  refine e_run 4 rfl trivial ?_
  exact lp_directly d hD c hc (dc_ C c) 0 none (by omega)
