/-! WHAT A RUN CAN'T TOUCH: the references that a method meets stay among the groups of its side -/

section FRM
variable {P Q : Nat → Bool}
def gv_ (P : Nat → Bool) : mv_V → Prop
  | Sum.inr (Sum.inl r) => P r.1 = true
  | _ => True
def gl_ (P : Nat → Bool) (lv : mv_L) : Prop := ∀ (i : Nat) (v : mv_V), lv[i]? = some (some v) → gv_ P v
def gt_ (P : Nat → Bool) (st : List mv_V) : Prop := ∀ v, v ∈ st → gv_ P v
def gW_ (P : Nat → Bool) (g : Nat) : Bool := P g && (mv_shp g).isSome
def gf_ (P : Nat → Bool) (M M' : mv_M) : Prop := ∀ g, gW_ P g = false → M' g = M g
def gq_ (P : Nat → Bool) (M : mv_M) (s : mv_S) : Prop := gl_ P s.2.1 ∧ gt_ P s.2.2.1 ∧ gf_ P M s.2.2.2
def ga_ (P Q : Nat → Bool) (M : mv_M) : mv_A → Prop
  | none => True
  | some (Sum.inl (_, s)) => gq_ P M s
  | some (Sum.inr (Sum.inl bs)) => ∀ e, e ∈ bs → gq_ P M e.2
  | some (Sum.inr (Sum.inr (Sum.inl (k', as, rest, _)))) => Q k' = true ∧ gt_ P as ∧ gt_ P rest
  | some (Sum.inr (Sum.inr (Sum.inr (Sum.inl (_, v))))) => ∀ w, v = some w → gv_ P w
  | some (Sum.inr (Sum.inr (Sum.inr (Sum.inr _)))) => True
def fg_ (P Q : Nat → Bool) (f : mv_F) : Prop := ∀ (lv : mv_L) (st : List mv_V) (M : mv_M), gl_ P lv → gt_ P st → ga_ P Q M (f lv st M)
/-- what a reference's group leads to -/
def gc_ (P : Nat → Bool) : Prop := ∀ g, P g = true → match mv_shp g with
  | some (Sum.inl (_, fs), _) => ∀ r, some r ∈ fs → P r = true
  | some (Sum.inr (Sum.inr (r, _)), _) => P r = true
  | _ => True
theorem gf_refl {M : mv_M} : gf_ P M M := fun _ _ => rfl
theorem gf_trans {M M1 M2 : mv_M} (h : gf_ P M M1) (h2 : gf_ P M1 M2) : gf_ P M M2 := fun g hg => (h2 g hg).trans (h g hg)
theorem gf_cp {M : mv_M} {g j : Nat} {f : Nat → Int32} (h : P g = true) (hs : (mv_shp g).isSome = true) : gf_ P M (mv_cp M g j f) := fun x hx => mv_cp_ne (fun q => by
  rw [q] at hx
  unfold gW_ at hx
  rw [h, hs] at hx
  cases hx)
theorem gt_c {v : mv_V} {st : List mv_V} (h : gv_ P v) (h2 : gt_ P st) : gt_ P (v :: st) := fun w hw => by
  rcases List.mem_cons.mp hw with q | q
  · rw [q]; exact h
  · exact h2 w q
theorem gt_n : gt_ P [] := fun w hw => by cases hw
theorem gt_h {v : mv_V} {st : List mv_V} (h : gt_ P (v :: st)) : gv_ P v := h v List.mem_cons_self
theorem gt_t {v : mv_V} {st : List mv_V} (h : gt_ P (v :: st)) : gt_ P st := fun w hw => h w (List.mem_cons_of_mem _ hw)
theorem gl_set {lv : mv_L} {i : Nat} {v : mv_V} (h : gl_ P lv) (hv : gv_ P v) : gl_ P (lv.set i (some v)) := fun k w hw => by
  rw [List.getElem?_set] at hw
  split at hw
  · split at hw
    · cases hw; exact hv
    · cases hw
  · exact h k w hw
theorem gl_set0 {lv : mv_L} {i : Nat} (h : gl_ P lv) : gl_ P (lv.set i none) := fun k w hw => by
  rw [List.getElem?_set] at hw
  split at hw
  · split at hw <;> cases hw
  · exact h k w hw
theorem ga_go {M M' : mv_M} {p : Option Prop} {nx : Nat} {lv : mv_L} {st : List mv_V} (h1 : gl_ P lv) (h2 : gt_ P st) (h3 : gf_ P M M') : ga_ P Q M (some (Sum.inl (p, (nx, lv, st, M')))) := ⟨h1, h2, h3⟩
theorem ga_no {M : mv_M} : ga_ P Q M none := trivial
variable {nx tg i k n ci E : Nat} {x hi : Int32} {f2 : Int32 → Int32 → Int32}
theorem fg_const : fg_ P Q (mi_const nx x) := fun _ _ _ hl hs => ga_go hl (gt_c trivial hs) gf_refl
theorem fg_lconst : fg_ P Q (mi_lconst nx x) := fun _ _ _ hl hs => ga_go hl (gt_c trivial hs) gf_refl
theorem fg_iload : fg_ P Q (mi_iload nx i) := by
  intro lv st M hl hs
  unfold mi_iload
  split
  · exact ga_go hl (gt_c trivial hs) gf_refl
  · exact ga_no
theorem fg_aload : fg_ P Q (mi_aload nx i) := by
  intro lv st M hl hs
  unfold mi_aload
  split
  · next r h => exact ga_go hl (gt_c (hl i _ h) hs) gf_refl
  · exact ga_no
theorem fg_istore : fg_ P Q (mi_istore nx i) := by
  intro lv st M hl hs
  unfold mi_istore
  split
  · exact ga_go (gl_set hl trivial) (gt_t hs) gf_refl
  · exact ga_no
theorem fg_astore : fg_ P Q (mi_astore nx i) := by
  intro lv st M hl hs
  unfold mi_astore
  split
  · exact ga_go (gl_set hl (gt_h hs)) (gt_t hs) gf_refl
  · exact ga_no
theorem fg_iinc : fg_ P Q (mi_iinc nx i x) := by
  intro lv st M hl hs
  unfold mi_iinc
  split
  · exact ga_go (gl_set hl trivial) hs gf_refl
  · exact ga_no
theorem fg_bin : fg_ P Q (mi_bin nx f2) := by
  intro lv st M hl hs
  unfold mi_bin
  split
  · exact ga_go hl (gt_c trivial (gt_t (gt_t hs))) gf_refl
  · exact ga_no
theorem fg_neg : fg_ P Q (mi_neg nx) := by
  intro lv st M hl hs
  unfold mi_neg
  split
  · exact ga_go hl (gt_c trivial (gt_t hs)) gf_refl
  · exact ga_no
theorem fg_i2l : fg_ P Q (mi_i2l nx) := by
  intro lv st M hl hs
  unfold mi_i2l
  split
  · exact ga_go hl (gt_c trivial (gt_t hs)) gf_refl
  · exact ga_no
theorem fg_lcmp : fg_ P Q (mi_lcmp nx) := by
  intro lv st M hl hs
  unfold mi_lcmp
  split
  · exact ga_go hl (gt_c trivial (gt_t (gt_t hs))) gf_refl
  · exact ga_no
theorem fg_dup : fg_ P Q (mi_dup nx) := by
  intro lv st M hl hs
  unfold mi_dup
  split
  · exact ga_go hl (gt_c trivial hs) gf_refl
  · exact ga_go hl (gt_c (gt_h hs) hs) gf_refl
  · exact ga_no
theorem fg_dup2 : fg_ P Q (mi_dup2 nx) := by
  intro lv st M hl hs
  unfold mi_dup2
  split
  · exact ga_go hl (gt_c trivial (gt_c (gt_h (gt_t hs)) hs)) gf_refl
  · exact ga_no
theorem fg_pop : fg_ P Q (mi_pop nx) := by
  intro lv st M hl hs
  unfold mi_pop
  split
  · exact ga_go hl (gt_t hs) gf_refl
  · exact ga_no
theorem ga_br {M : mv_M} {bs : List (Prop × mv_S)} (h : ∀ e, e ∈ bs → gq_ P M e.2) : ga_ P Q M (some (Sum.inr (Sum.inl bs))) := h
theorem fg_if {p q : Int32 → Prop} : fg_ P Q (mi_if nx tg p q) := by
  intro lv st M hl hs
  unfold mi_if
  split
  · refine ga_br (fun e he => ?_)
    simp only [List.mem_cons, List.not_mem_nil, or_false] at he
    rcases he with rfl | rfl
    · exact ⟨hl, gt_t hs, gf_refl⟩
    · exact ⟨hl, gt_t hs, gf_refl⟩
  · exact ga_no
theorem fg_icmp {p q : Int32 → Int32 → Prop} : fg_ P Q (mi_icmp nx tg p q) := by
  intro lv st M hl hs
  unfold mi_icmp
  split
  · refine ga_br (fun e he => ?_)
    simp only [List.mem_cons, List.not_mem_nil, or_false] at he
    rcases he with rfl | rfl
    · exact ⟨hl, gt_t (gt_t hs), gf_refl⟩
    · exact ⟨hl, gt_t (gt_t hs), gf_refl⟩
  · exact ga_no
theorem fg_goto : fg_ P Q (mi_goto tg) := fun _ _ _ hl hs => ga_go hl hs gf_refl
theorem fg_tsw {ts : List (Int32 × Nat)} : fg_ P Q (mi_tsw ts hi n) := by
  intro lv st M hl hs
  unfold mi_tsw
  split
  · refine ga_br (fun e he => ?_)
    rcases List.mem_cons.mp he with rfl | he
    · exact ⟨hl, gt_t hs, gf_refl⟩
    · obtain ⟨t, -, rfl⟩ := List.mem_map.mp he
      exact ⟨hl, gt_t hs, gf_refl⟩
  · exact ga_no
theorem fg_getf (hc : gc_ P) : fg_ P Q (mi_getf nx ci k) := by
  intro lv st M hl hs
  unfold mi_getf
  split
  · next g st =>
    have hg := hc g (gt_h hs)
    split
    · next c fs cnt hsh =>
      rw [hsh] at hg
      split
      · split
        · next r hr => exact ga_go hl (gt_c (hg r (List.mem_of_getElem? hr)) (gt_t hs)) gf_refl
        · exact ga_go hl (gt_c trivial (gt_t hs)) gf_refl
        · exact ga_no
      · exact ga_no
    · exact ga_no
  · exact ga_no
theorem fg_putf : fg_ P Q (mi_putf nx ci k) := by
  intro lv st M hl hs
  unfold mi_putf
  split
  · next v g st =>
    split
    · next c fs cnt hsh =>
      split
      · split
        · exact ga_go hl (gt_t (gt_t hs)) (gf_cp (gt_h (gt_t hs)) (by rw [hsh]; rfl))
        · exact ga_no
      · exact ga_no
    · exact ga_no
  · exact ga_no
theorem fg_iald : fg_ P Q (mi_iald nx) := by
  intro lv st M hl hs
  unfold mi_iald
  split
  · split
    · exact ga_go hl (gt_c trivial (gt_t (gt_t hs))) gf_refl
    · split
      · exact ga_go hl (gt_c trivial (gt_t (gt_t hs))) gf_refl
      · exact ga_no
    · exact ga_no
  · exact ga_no
theorem fg_zald : fg_ P Q (mi_zald nx) := by
  intro lv st M hl hs
  unfold mi_zald
  split
  · split
    · exact ga_go hl (gt_c trivial (gt_t (gt_t hs))) gf_refl
    · exact ga_no
  · exact ga_no
theorem fg_lald : fg_ P Q (mi_lald nx) := by
  intro lv st M hl hs
  unfold mi_lald
  split
  · split
    · exact ga_go hl (gt_c trivial (gt_t (gt_t hs))) gf_refl
    · exact ga_no
  · exact ga_no
theorem fg_aald (hc : gc_ P) : fg_ P Q (mi_aald nx) := by
  intro lv st M hl hs
  unfold mi_aald
  split
  · next i g j st =>
    have hg := hc g (gt_h (gt_t hs))
    split
    · next r n c hsh =>
      rw [hsh] at hg
      exact ga_go hl (gt_c hg (gt_t (gt_t hs))) gf_refl
    · exact ga_no
  · exact ga_no
theorem fg_iast : fg_ P Q (mi_iast nx) := by
  intro lv st M hl hs
  unfold mi_iast
  split
  · split
    · next hsh => exact ga_go hl (gt_t (gt_t (gt_t hs))) (gf_cp (gt_h (gt_t (gt_t hs))) (by rw [hsh]; rfl))
    · exact ga_no
  · exact ga_no
theorem fg_zast : fg_ P Q (mi_zast nx) := by
  intro lv st M hl hs
  unfold mi_zast
  split
  · split
    · next hsh => exact ga_go hl (gt_t (gt_t (gt_t hs))) (gf_cp (gt_h (gt_t (gt_t hs))) (by rw [hsh]; rfl))
    · exact ga_no
  · exact ga_no
theorem fg_last : fg_ P Q (mi_last nx) := by
  intro lv st M hl hs
  unfold mi_last
  split
  · split
    · next hsh => exact ga_go hl (gt_t (gt_t (gt_t hs))) (gf_cp (gt_h (gt_t (gt_t hs))) (by rw [hsh]; rfl))
    · exact ga_no
  · exact ga_no
theorem fg_alen : fg_ P Q (mi_alen nx) := by
  intro lv st M hl hs
  unfold mi_alen
  split
  · split
    · exact ga_go hl (gt_c trivial (gt_t hs)) gf_refl
    · split
      · exact ga_go hl (gt_c trivial (gt_t hs)) gf_refl
      · exact ga_no
    · exact ga_no
  · exact ga_no
theorem fg_gets (h : P k = true) : fg_ P Q (mi_gets nx k) := fun _ _ _ hl hs => ga_go hl (gt_c h hs) gf_refl
theorem fg_copy : fg_ P Q (mi_copy nx) := by
  intro lv st M hl hs
  unfold mi_copy
  split
  · split
    · next hsh hsh0 _ => exact ga_go hl (gt_t (gt_t (gt_t (gt_t (gt_t hs))))) (gf_cp (gt_h (gt_t (gt_t hs))) (by rw [hsh]; rfl))
    · exact ga_no
  · exact ga_no
theorem gt_pop : ∀ (n : Nat) (st acc as rest : List mv_V), mv_pop n st acc = some (as, rest) → gt_ P st → gt_ P acc → gt_ P as ∧ gt_ P rest
  | 0, st, acc, as, rest, h, h1, h2 => by
    unfold mv_pop at h
    cases h
    exact ⟨h2, h1⟩
  | n + 1, [], acc, as, rest, h, h1, h2 => by
    unfold mv_pop at h
    cases h
  | n + 1, v :: st, acc, as, rest, h, h1, h2 => by
    unfold mv_pop at h
    exact gt_pop n st (v :: acc) as rest h (gt_t h1) (gt_c (gt_h h1) h2)
theorem ga_ca {M : mv_M} {as rest : List mv_V} (h : Q k = true) (h1 : gt_ P as) (h2 : gt_ P rest) : ga_ P Q M (some (Sum.inr (Sum.inr (Sum.inl (k, as, rest, nx))))) := ⟨h, h1, h2⟩
theorem fg_callv (h : Q k = true) : fg_ P Q (mi_callv nx k n ci) := by
  intro lv st M hl hs
  unfold mi_callv
  split
  · next hp =>
    obtain ⟨p1, p2⟩ := gt_pop n st [] _ _ hp hs gt_n
    split
    · split
      · exact ga_ca h p1 p2
      · exact ga_no
    · exact ga_no
  · exact ga_no
theorem fg_calls (h : Q k = true) : fg_ P Q (mi_calls nx k n) := by
  intro lv st M hl hs
  unfold mi_calls
  split
  · next hp =>
    obtain ⟨p1, p2⟩ := gt_pop n st [] _ _ hp hs gt_n
    split
    · exact ga_ca h p1 p2
    · exact ga_no
  · exact ga_no
theorem ga_re {M : mv_M} {p : Prop} {v : Option mv_V} (h : ∀ w, v = some w → gv_ P w) : ga_ P Q M (some (Sum.inr (Sum.inr (Sum.inr (Sum.inl (p, v)))))) := h
theorem fg_iret : fg_ P Q mi_iret := by
  intro lv st M hl hs
  unfold mi_iret
  split
  · exact ga_re (fun w hw => by cases hw; trivial)
  · exact ga_no
theorem fg_zret : fg_ P Q mi_zret := by
  intro lv st M hl hs
  unfold mi_zret
  split
  · exact ga_re (fun w hw => by cases hw; trivial)
  · exact ga_no
theorem fg_vret : fg_ P Q mi_vret := by
  intro lv st M hl hs
  unfold mi_vret
  split
  · exact ga_re (fun w hw => by cases hw)
  · exact ga_no
theorem fg_throw : fg_ P Q (mi_throw E) := by
  intro lv st M hl hs
  unfold mi_throw
  split
  · exact (trivial : True)
  · exact ga_no
def fgl_ (P Q : Nat → Bool) (t : List (Nat × mv_F)) : Prop := ∀ x, x ∈ t → fg_ P Q x.2
theorem fgl_n : fgl_ P Q [] := fun x hx => by cases hx
theorem fgl_c {pc : Nat} {f : mv_F} {t : List (Nat × mv_F)} (h : fg_ P Q f) (h2 : fgl_ P Q t) : fgl_ P Q ((pc, f) :: t) := fun x hx => by
  rcases List.mem_cons.mp hx with rfl | hx
  · exact h
  · exact h2 x hx
theorem gl_ent {k : Nat} {as : List mv_V} (h : gt_ P as) : gl_ P (mv_ent k as) := fun i v hv => by
  unfold mv_ent at hv
  rw [List.getElem?_append] at hv
  split at hv
  · rw [List.getElem?_map] at hv
    cases ha : as[i]? with
    | none => rw [ha] at hv; cases hv
    | some w =>
      rw [ha] at hv
      cases hv
      exact h _ (List.mem_of_getElem? ha)
  · rw [List.getElem?_replicate] at hv
    split at hv <;> cases hv
theorem ga_act {k : Nat} {s : mv_S} (hT : fgl_ P Q (mv_tab k)) (hl : gl_ P s.2.1) (hs : gt_ P s.2.2.1) : ga_ P Q s.2.2.2 (mv_act k s) := by
  unfold mv_act
  cases h : mv_look s.1 (mv_tab k) with
  | none => exact ga_no
  | some f => exact hT (s.1, f) (mv_look_mem h) _ _ _ hl hs
/-- the frame of a run -/
theorem mv_Ev_frame (hT : ∀ k, Q k = true → fgl_ P Q (mv_tab k)) (M0 : mv_M) : ∀ (n d b k : Nat) (s : mv_S) (Φ : mv_O → mv_M → Prop), mv_Ev n d b k s Φ → Q k = true → gq_ P M0 s → mv_Ev n d b k s (fun o M' => Φ o M' ∧ gf_ P M0 M' ∧ ∀ v, o = Sum.inl (some v) → gv_ P v) := by
  intro n
  induction n generalizing M0 with
  | zero => intro d b k s Φ h; exact h.elim
  | succ n ih =>
    intro d b k s Φ h hQ ⟨hl, hs, hf⟩
    unfold mv_Ev at h ⊢
    have hA := ga_act (hT k hQ) hl hs
    revert h hA
    cases hact : mv_act k s with
    | none => exact fun h _ => h
    | some act =>
      rcases act with ⟨p, s1⟩ | bs | ⟨k', as, rest, nx⟩ | ⟨p, v⟩ | E
      · exact fun h hA => ⟨h.1, ih M0 _ _ _ _ _ h.2 hQ ⟨hA.1, hA.2.1, gf_trans hf hA.2.2⟩⟩
      · exact fun h hA x hx hx1 => ih M0 _ _ _ _ _ (h x hx hx1) hQ ⟨(hA x hx).1, (hA x hx).2.1, gf_trans hf (hA x hx).2.2⟩
      · rintro ⟨h1, h2, d', h3, Ψ, h4, h5⟩ ⟨hQ', ha, hr⟩
        refine ⟨h1, h2, d', h3, _, ih s.2.2.2 _ _ _ _ _ h4 hQ' ⟨gl_ent ha, gt_n, gf_refl⟩, ?_⟩
        rintro o M' ⟨ho, hf2, hv2⟩
        have h6 := h5 o M' ho
        rcases o with v | E
        · refine ih M0 _ _ _ _ _ h6 hQ ⟨hl, ?_, gf_trans hf hf2⟩
          intro w hw
          rcases List.mem_append.mp hw with q | q
          · cases v with
            | none => cases q
            | some v9 =>
              have : w = v9 := by simpa using q
              rw [this]
              exact hv2 v9 rfl
          · exact hr w q
        · revert h6
          show (match mv_hnd k s.1 E with
            | some (p, i) => mv_Ev n d (b - mv_mc k') k (p, s.2.1.set i none, [], M') Φ
            | none => mv_nh k = true ∧ Φ (Sum.inr E) M') → (match mv_hnd k s.1 E with
            | some (p, i) => mv_Ev n d (b - mv_mc k') k (p, s.2.1.set i none, [], M') (fun o M' => Φ o M' ∧ gf_ P M0 M' ∧ ∀ v, o = Sum.inl (some v) → gv_ P v)
            | none => mv_nh k = true ∧ (Φ (Sum.inr E) M' ∧ gf_ P M0 M' ∧ ∀ v, (Sum.inr E : mv_O) = Sum.inl (some v) → gv_ P v))
          cases mv_hnd k s.1 E with
          | none => exact fun h => ⟨h.1, h.2, gf_trans hf hf2, fun v q => by cases q⟩
          | some pi => exact fun h => ih M0 _ _ _ _ _ h hQ ⟨gl_set0 hl, gt_n, gf_trans hf hf2⟩
      · exact fun h hA => ⟨h.1, h.2, hf, fun w q => hA w (Sum.inl.inj q)⟩
      · exact fun h _ => ⟨h.1, h.2.1, h.2.2, hf, fun w q => by cases q⟩
/-- a memory changed on P's side alone -/
def gp_ (P : Nat → Bool) (M M' : mv_M) : mv_M := fun g => if gW_ P g = true then M' g else M g
theorem gp_in {g : Nat} {M M' : mv_M} (h : gW_ P g = true) : gp_ P M M' g = M' g := if_pos h
theorem gp_out {g : Nat} {M M' : mv_M} (h : gW_ P g = false) : gp_ P M M' g = M g := if_neg (by rw [h]; decide)
theorem mv_Ev_imp : ∀ (n d b k : Nat) (s : mv_S) (Φ Φ' : mv_O → mv_M → Prop), mv_Ev n d b k s Φ → (∀ o M, Φ o M → Φ' o M) → mv_Ev n d b k s Φ' := by
  intro n
  induction n with
  | zero => intro d b k s Φ Φ' h _; exact h.elim
  | succ n ih =>
    intro d b k s Φ Φ' h hi
    unfold mv_Ev at h ⊢
    revert h
    cases hact : mv_act k s with
    | none => exact fun h => h
    | some act =>
      rcases act with ⟨p, s1⟩ | bs | ⟨k', as, rest, nx⟩ | ⟨p, v⟩ | E
      · exact fun h => ⟨h.1, ih _ _ _ _ _ _ h.2 hi⟩
      · exact fun h x hx hx1 => ih _ _ _ _ _ _ (h x hx hx1) hi
      · rintro ⟨h1, h2, d', h3, Ψ, h4, h5⟩
        refine ⟨h1, h2, d', h3, Ψ, h4, fun o M' ho => ?_⟩
        have h6 := h5 o M' ho
        rcases o with v | E
        · exact ih _ _ _ _ _ _ h6 hi
        · revert h6
          show (match mv_hnd k s.1 E with
            | some (p, i) => mv_Ev n d (b - mv_mc k') k (p, s.2.1.set i none, [], M') Φ
            | none => mv_nh k = true ∧ Φ (Sum.inr E) M') → (match mv_hnd k s.1 E with
            | some (p, i) => mv_Ev n d (b - mv_mc k') k (p, s.2.1.set i none, [], M') Φ'
            | none => mv_nh k = true ∧ Φ' (Sum.inr E) M')
          cases mv_hnd k s.1 E with
          | none => exact fun h => ⟨h.1, hi _ _ h.2⟩
          | some pi => exact fun h => ih _ _ _ _ _ _ h hi
      · exact fun h => ⟨h.1, hi _ _ h.2⟩
      · exact fun h => ⟨h.1, h.2.1, hi _ _ h.2.2⟩
theorem ev_patch (hT : ∀ k, Q k = true → fgl_ P Q (mv_tab k)) {d k : Nat} {as : List mv_V} {M M' : mv_M} {o : mv_O} (h : ev_ d k as M o M') (hQ : Q k = true) (ha : gt_ P as) : ev_ d k as M o (gp_ P M M') := by
  obtain ⟨hag, n, hn⟩ := h
  refine ⟨hag, n, ?_⟩
  have h2 := mv_Ev_frame hT M n d (mv_mc k) k _ _ hn hQ ⟨gl_ent ha, gt_n, gf_refl⟩
  refine mv_Ev_imp _ _ _ _ _ _ _ h2 ?_
  rintro o1 M1 ⟨⟨rfl, rfl⟩, hf, -⟩
  refine ⟨rfl, ?_⟩
  funext g
  cases hg : gW_ P g with
  | true => rw [gp_in hg]
  | false => rw [gp_out hg]; exact hf g hg
end FRM
/-- the class's side -/
def P3_ (g : Nat) : Bool := Nat.ble g 21 || (Nat.ble 50 g && Nat.ble g 51)
def Q3_ (k : Nat) : Bool := Nat.ble k 69
/-- the reference's side -/
def P4_ (g : Nat) : Bool := Nat.ble 22 g && Nat.ble g 41
def Q4_ (k : Nat) : Bool := Nat.ble 70 k && Nat.ble k 130

theorem shp_none {g : Nat} (h : 43 ≤ g) : mv_shp g = none := by
  unfold mv_shp
  exact List.getElem?_eq_none (by rw [show mv_shps.length = 43 by decide]; exact h)
def gcb_ (P : Nat → Bool) (g : Nat) : Bool := !P g || (match mv_shp g with
  | some (Sum.inl (_, fs), _) => fs.all (fun r => match r with
    | some r => P r
    | none => true)
  | some (Sum.inr (Sum.inr (r, _)), _) => P r
  | _ => true)
theorem gc_of {P : Nat → Bool} (h : ∀ g, g < 43 → gcb_ P g = true) : gc_ P := by
  intro g hg
  rcases Nat.lt_or_ge g 43 with q | q
  · have := h g q
    unfold gcb_ at this
    rw [hg, Bool.not_true, Bool.false_or] at this
    revert this
    split
    · next c fs cnt hsh =>
      intro h9 r hr
      exact List.all_eq_true.mp h9 (some r) hr
    · exact fun h9 => h9
    · exact fun _ => trivial
  · rw [shp_none q]
    trivial
theorem gc3_ : gc_ P3_ := gc_of (by decide +kernel)
theorem gc4_ : gc_ P4_ := gc_of (by decide +kernel)
theorem fgt_X0_append : fgl_ P3_ Q3_ mt_X0_append := by
  unfold mt_X0_append
  exact fgl_c (fg_aload) (fgl_c (fg_getf gc3_) (fgl_c (fg_aload) (fgl_c (fg_getf gc3_) (fgl_c (fg_aald gc3_) (fgl_c (fg_astore) (fgl_c (fg_aload) (fgl_c (fg_const) (fgl_c (fg_iload) (fgl_c (fg_iast) (fgl_c (fg_aload) (fgl_c (fg_const) (fgl_c (fg_iload) (fgl_c (fg_iast) (fgl_c (fg_aload) (fgl_c (fg_const) (fgl_c (fg_const) (fgl_c (fg_iast) (fgl_c (fg_aload) (fgl_c (fg_const) (fgl_c (fg_const) (fgl_c (fg_iast) (fgl_c (fg_aload) (fgl_c (fg_const) (fgl_c (fg_const) (fgl_c (fg_iast) (fgl_c (fg_aload) (fgl_c (fg_dup) (fgl_c (fg_getf gc3_) (fgl_c (fg_const) (fgl_c (fg_bin) (fgl_c (fg_putf) (fgl_c (fg_aload) (fgl_c (fg_getf gc3_) (fgl_c (fg_const) (fgl_c (fg_bin) (fgl_c (fg_iret) (fgl_n)))))))))))))))))))))))))))))))))))))
theorem fgt_X0_appendDependency : fgl_ P3_ Q3_ mt_X0_appendDependency := by
  unfold mt_X0_appendDependency
  exact fgl_c (fg_aload) (fgl_c (fg_getf gc3_) (fgl_c (fg_iload) (fgl_c (fg_iald) (fgl_c (fg_istore) (fgl_c (fg_iload) (fgl_c (fg_const) (fgl_c (fg_bin) (fgl_c (fg_istore) (fgl_c (fg_aload) (fgl_c (fg_getf gc3_) (fgl_c (fg_iload) (fgl_c (fg_aald gc3_) (fgl_c (fg_iload) (fgl_c (fg_const) (fgl_c (fg_bin) (fgl_c (fg_iload) (fgl_c (fg_iast) (fgl_c (fg_aload) (fgl_c (fg_getf gc3_) (fgl_c (fg_iload) (fgl_c (fg_aald gc3_) (fgl_c (fg_iload) (fgl_c (fg_const) (fgl_c (fg_bin) (fgl_c (fg_iload) (fgl_c (fg_iast) (fgl_c (fg_aload) (fgl_c (fg_getf gc3_) (fgl_c (fg_iload) (fgl_c (fg_aald gc3_) (fgl_c (fg_iload) (fgl_c (fg_const) (fgl_c (fg_bin) (fgl_c (fg_iload) (fgl_c (fg_iast) (fgl_c (fg_aload) (fgl_c (fg_getf gc3_) (fgl_c (fg_iload) (fgl_c (fg_iload) (fgl_c (fg_const) (fgl_c (fg_bin) (fgl_c (fg_iast) (fgl_c (fg_iload) (fgl_c (fg_iret) (fgl_n)))))))))))))))))))))))))))))))))))))))))))))
theorem fgt_X0_hasDependency : fgl_ P3_ Q3_ mt_X0_hasDependency := by
  unfold mt_X0_hasDependency
  exact fgl_c (fg_iload) (fgl_c (fg_if) (fgl_c (fg_iload) (fgl_c (fg_aload) (fgl_c (fg_getf gc3_) (fgl_c (fg_iload) (fgl_c (fg_iald) (fgl_c (fg_icmp) (fgl_c (fg_const) (fgl_c (fg_goto) (fgl_c (fg_const) (fgl_c (fg_zret) (fgl_n))))))))))))
theorem fgt_X0_partOf : fgl_ P3_ Q3_ mt_X0_partOf := by
  unfold mt_X0_partOf
  exact fgl_c (fg_aload) (fgl_c (fg_getf gc3_) (fgl_c (fg_iload) (fgl_c (fg_aald gc3_) (fgl_c (fg_iload) (fgl_c (fg_const) (fgl_c (fg_bin) (fgl_c (fg_iload) (fgl_c (fg_bin) (fgl_c (fg_iald) (fgl_c (fg_iret) (fgl_n)))))))))))
theorem fgt_X0_turnProfile : fgl_ P3_ Q3_ mt_X0_turnProfile := by
  unfold mt_X0_turnProfile
  exact fgl_c (fg_const) (fgl_c (fg_iload) (fgl_c (fg_bin) (fgl_c (fg_istore) (fgl_c (fg_aload) (fgl_c (fg_iload) (fgl_c (fg_if) (fgl_c (fg_aload) (fgl_c (fg_getf gc3_) (fgl_c (fg_iload) (fgl_c (fg_bin) (fgl_c (fg_goto) (fgl_c (fg_aload) (fgl_c (fg_getf gc3_) (fgl_c (fg_iload) (fgl_c (fg_const) (fgl_c (fg_bin) (fgl_c (fg_bin) (fgl_c (fg_putf) (fgl_c (fg_vret) (fgl_n))))))))))))))))))))
theorem fgt_X0_isActive : fgl_ P3_ Q3_ mt_X0_isActive := by
  unfold mt_X0_isActive
  exact fgl_c (fg_aload) (fgl_c (fg_getf gc3_) (fgl_c (fg_iload) (fgl_c (fg_aald gc3_) (fgl_c (fg_const) (fgl_c (fg_iald) (fgl_c (fg_istore) (fgl_c (fg_iload) (fgl_c (fg_const) (fgl_c (fg_icmp) (fgl_c (fg_aload) (fgl_c (fg_getf gc3_) (fgl_c (fg_const) (fgl_c (fg_iload) (fgl_c (fg_bin) (fgl_c (fg_bin) (fgl_c (fg_if) (fgl_c (fg_const) (fgl_c (fg_goto) (fgl_c (fg_const) (fgl_c (fg_zret) (fgl_n)))))))))))))))))))))
theorem fgt_X0_isStarted : fgl_ P3_ Q3_ mt_X0_isStarted := by
  unfold mt_X0_isStarted
  exact fgl_c (fg_aload) (fgl_c (fg_iload) (fgl_c (fg_callv rfl) (fgl_c (fg_if) (fgl_c (fg_aload) (fgl_c (fg_getf gc3_) (fgl_c (fg_iload) (fgl_c (fg_aald gc3_) (fgl_c (fg_const) (fgl_c (fg_iald) (fgl_c (fg_if) (fgl_c (fg_aload) (fgl_c (fg_getf gc3_) (fgl_c (fg_iload) (fgl_c (fg_aald gc3_) (fgl_c (fg_const) (fgl_c (fg_iald) (fgl_c (fg_if) (fgl_c (fg_const) (fgl_c (fg_goto) (fgl_c (fg_const) (fgl_c (fg_zret) (fgl_n))))))))))))))))))))))
theorem fgt_X0_provides : fgl_ P3_ Q3_ mt_X0_provides := by
  unfold mt_X0_provides
  exact fgl_c (fg_aload) (fgl_c (fg_getf gc3_) (fgl_c (fg_iload) (fgl_c (fg_aald gc3_) (fgl_c (fg_const) (fgl_c (fg_iald) (fgl_c (fg_const) (fgl_c (fg_iload) (fgl_c (fg_bin) (fgl_c (fg_bin) (fgl_c (fg_if) (fgl_c (fg_iload) (fgl_c (fg_const) (fgl_c (fg_icmp) (fgl_c (fg_aload) (fgl_c (fg_getf gc3_) (fgl_c (fg_iload) (fgl_c (fg_aald gc3_) (fgl_c (fg_const) (fgl_c (fg_iald) (fgl_c (fg_iload) (fgl_c (fg_icmp) (fgl_c (fg_const) (fgl_c (fg_goto) (fgl_c (fg_const) (fgl_c (fg_zret) (fgl_n))))))))))))))))))))))))))
theorem fgt_X0_candidateMask : fgl_ P3_ Q3_ mt_X0_candidateMask := by
  unfold mt_X0_candidateMask
  exact fgl_c (fg_const) (fgl_c (fg_istore) (fgl_c (fg_const) (fgl_c (fg_istore) (fgl_c (fg_iload) (fgl_c (fg_aload) (fgl_c (fg_getf gc3_) (fgl_c (fg_icmp) (fgl_c (fg_aload) (fgl_c (fg_iload) (fgl_c (fg_callv rfl) (fgl_c (fg_if) (fgl_c (fg_aload) (fgl_c (fg_iload) (fgl_c (fg_iload) (fgl_c (fg_iload) (fgl_c (fg_callv rfl) (fgl_c (fg_if) (fgl_c (fg_iload) (fgl_c (fg_const) (fgl_c (fg_iload) (fgl_c (fg_bin) (fgl_c (fg_bin) (fgl_c (fg_istore) (fgl_c (fg_iinc) (fgl_c (fg_goto) (fgl_c (fg_iload) (fgl_c (fg_iret) (fgl_n))))))))))))))))))))))))))))
theorem fgt_X0_candidatesFor : fgl_ P3_ Q3_ mt_X0_candidatesFor := by
  unfold mt_X0_candidatesFor
  exact fgl_c (fg_aload) (fgl_c (fg_aload) (fgl_c (fg_iload) (fgl_c (fg_iload) (fgl_c (fg_const) (fgl_c (fg_callv rfl) (fgl_c (fg_aload) (fgl_c (fg_iload) (fgl_c (fg_iload) (fgl_c (fg_const) (fgl_c (fg_callv rfl) (fgl_c (fg_callv rfl) (fgl_c (fg_iret) (fgl_n)))))))))))))
theorem fgt_X0_choiceAmong : fgl_ P3_ Q3_ mt_X0_choiceAmong := by
  unfold mt_X0_choiceAmong
  exact fgl_c (fg_aload) (fgl_c (fg_iload) (fgl_c (fg_callv rfl) (fgl_c (fg_istore) (fgl_c (fg_iload) (fgl_c (fg_const) (fgl_c (fg_icmp) (fgl_c (fg_iload) (fgl_c (fg_goto) (fgl_c (fg_aload) (fgl_c (fg_iload) (fgl_c (fg_aload) (fgl_c (fg_callv rfl) (fgl_c (fg_bin) (fgl_c (fg_callv rfl) (fgl_c (fg_iret) (fgl_n))))))))))))))))
theorem fgt_X0_singleIn : fgl_ P3_ Q3_ mt_X0_singleIn := by
  unfold mt_X0_singleIn
  exact fgl_c (fg_const) (fgl_c (fg_istore) (fgl_c (fg_iload) (fgl_c (fg_aload) (fgl_c (fg_getf gc3_) (fgl_c (fg_icmp) (fgl_c (fg_iload) (fgl_c (fg_const) (fgl_c (fg_iload) (fgl_c (fg_bin) (fgl_c (fg_icmp) (fgl_c (fg_iload) (fgl_c (fg_iret) (fgl_c (fg_iinc) (fgl_c (fg_goto) (fgl_c (fg_const) (fgl_c (fg_iret) (fgl_n)))))))))))))))))
theorem fgt_X0_primaryMask : fgl_ P3_ Q3_ mt_X0_primaryMask := by
  unfold mt_X0_primaryMask
  exact fgl_c (fg_const) (fgl_c (fg_istore) (fgl_c (fg_const) (fgl_c (fg_istore) (fgl_c (fg_iload) (fgl_c (fg_aload) (fgl_c (fg_getf gc3_) (fgl_c (fg_icmp) (fgl_c (fg_iload) (fgl_c (fg_aload) (fgl_c (fg_getf gc3_) (fgl_c (fg_iload) (fgl_c (fg_aald gc3_) (fgl_c (fg_const) (fgl_c (fg_iald) (fgl_c (fg_iload) (fgl_c (fg_bin) (fgl_c (fg_bin) (fgl_c (fg_istore) (fgl_c (fg_iinc) (fgl_c (fg_goto) (fgl_c (fg_iload) (fgl_c (fg_iret) (fgl_n)))))))))))))))))))))))
theorem fgt_X0_directNeeds : fgl_ P3_ Q3_ mt_X0_directNeeds := by
  unfold mt_X0_directNeeds
  exact fgl_c (fg_const) (fgl_c (fg_istore) (fgl_c (fg_const) (fgl_c (fg_istore) (fgl_c (fg_iload) (fgl_c (fg_aload) (fgl_c (fg_getf gc3_) (fgl_c (fg_iload) (fgl_c (fg_iald) (fgl_c (fg_icmp) (fgl_c (fg_iload) (fgl_c (fg_aload) (fgl_c (fg_iload) (fgl_c (fg_iload) (fgl_c (fg_callv rfl) (fgl_c (fg_bin) (fgl_c (fg_istore) (fgl_c (fg_iinc) (fgl_c (fg_goto) (fgl_c (fg_iload) (fgl_c (fg_iret) (fgl_n)))))))))))))))))))))
theorem fgt_X0_needsOfDependency : fgl_ P3_ Q3_ mt_X0_needsOfDependency := by
  unfold mt_X0_needsOfDependency
  exact fgl_c (fg_aload) (fgl_c (fg_iload) (fgl_c (fg_iload) (fgl_c (fg_const) (fgl_c (fg_callv rfl) (fgl_c (fg_istore) (fgl_c (fg_iload) (fgl_c (fg_const) (fgl_c (fg_icmp) (fgl_c (fg_const) (fgl_c (fg_iret) (fgl_c (fg_aload) (fgl_c (fg_iload) (fgl_c (fg_iload) (fgl_c (fg_callv rfl) (fgl_c (fg_istore) (fgl_c (fg_iload) (fgl_c (fg_const) (fgl_c (fg_icmp) (fgl_c (fg_iload) (fgl_c (fg_iret) (fgl_c (fg_aload) (fgl_c (fg_iload) (fgl_c (fg_callv rfl) (fgl_c (fg_istore) (fgl_c (fg_iload) (fgl_c (fg_const) (fgl_c (fg_icmp) (fgl_c (fg_const) (fgl_c (fg_goto) (fgl_c (fg_const) (fgl_c (fg_iload) (fgl_c (fg_bin) (fgl_c (fg_iret) (fgl_n))))))))))))))))))))))))))))))))))
theorem fgt_X0_allNeeds : fgl_ P3_ Q3_ mt_X0_allNeeds := by
  unfold mt_X0_allNeeds
  exact fgl_c (fg_aload) (fgl_c (fg_iload) (fgl_c (fg_callv rfl) (fgl_c (fg_istore) (fgl_c (fg_const) (fgl_c (fg_istore) (fgl_c (fg_iload) (fgl_c (fg_aload) (fgl_c (fg_getf gc3_) (fgl_c (fg_icmp) (fgl_c (fg_iload) (fgl_c (fg_istore) (fgl_c (fg_const) (fgl_c (fg_istore) (fgl_c (fg_iload) (fgl_c (fg_aload) (fgl_c (fg_getf gc3_) (fgl_c (fg_icmp) (fgl_c (fg_iload) (fgl_c (fg_iload) (fgl_c (fg_calls rfl) (fgl_c (fg_if) (fgl_c (fg_iload) (fgl_c (fg_aload) (fgl_c (fg_iload) (fgl_c (fg_callv rfl) (fgl_c (fg_bin) (fgl_c (fg_istore) (fgl_c (fg_iinc) (fgl_c (fg_goto) (fgl_c (fg_iload) (fgl_c (fg_iload) (fgl_c (fg_icmp) (fgl_c (fg_iload) (fgl_c (fg_iret) (fgl_c (fg_iinc) (fgl_c (fg_goto) (fgl_c (fg_iload) (fgl_c (fg_iret) (fgl_n)))))))))))))))))))))))))))))))))))))))
theorem fgt_X1_remember : fgl_ P3_ Q3_ mt_X1_remember := by
  unfold mt_X1_remember
  exact fgl_c (fg_aload) (fgl_c (fg_iload) (fgl_c (fg_putf) (fgl_c (fg_aload) (fgl_c (fg_iload) (fgl_c (fg_putf) (fgl_c (fg_aload) (fgl_c (fg_const) (fgl_c (fg_aload) (fgl_c (fg_getf gc3_) (fgl_c (fg_const) (fgl_c (fg_iload) (fgl_c (fg_copy) (fgl_c (fg_aload) (fgl_c (fg_iload) (fgl_c (fg_putf) (fgl_c (fg_vret) (fgl_n)))))))))))))))))
theorem fgt_X2_append : fgl_ P3_ Q3_ mt_X2_append := by
  unfold mt_X2_append
  exact fgl_c (fg_aload) (fgl_c (fg_getf gc3_) (fgl_c (fg_istore) (fgl_c (fg_aload) (fgl_c (fg_getf gc3_) (fgl_c (fg_iload) (fgl_c (fg_iload) (fgl_c (fg_iast) (fgl_c (fg_aload) (fgl_c (fg_getf gc3_) (fgl_c (fg_iload) (fgl_c (fg_iload) (fgl_c (fg_iast) (fgl_c (fg_aload) (fgl_c (fg_getf gc3_) (fgl_c (fg_iload) (fgl_c (fg_const) (fgl_c (fg_zast) (fgl_c (fg_aload) (fgl_c (fg_const) (fgl_c (fg_aload) (fgl_c (fg_getf gc3_) (fgl_c (fg_iload) (fgl_c (fg_const) (fgl_c (fg_bin) (fgl_c (fg_iload) (fgl_c (fg_copy) (fgl_c (fg_aload) (fgl_c (fg_getf gc3_) (fgl_c (fg_iload) (fgl_c (fg_iload) (fgl_c (fg_iast) (fgl_c (fg_iload) (fgl_c (fg_const) (fgl_c (fg_icmp) (fgl_c (fg_aload) (fgl_c (fg_getf gc3_) (fgl_c (fg_iload) (fgl_c (fg_aald gc3_) (fgl_c (fg_iload) (fgl_c (fg_iload) (fgl_c (fg_iast) (fgl_c (fg_aload) (fgl_c (fg_getf gc3_) (fgl_c (fg_iload) (fgl_c (fg_dup2) (fgl_c (fg_iald) (fgl_c (fg_const) (fgl_c (fg_bin) (fgl_c (fg_iast) (fgl_c (fg_aload) (fgl_c (fg_dup) (fgl_c (fg_getf gc3_) (fgl_c (fg_const) (fgl_c (fg_bin) (fgl_c (fg_putf) (fgl_c (fg_aload) (fgl_c (fg_const) (fgl_c (fg_iload) (fgl_c (fg_bin) (fgl_c (fg_callv rfl) (fgl_c (fg_iload) (fgl_c (fg_iret) (fgl_n)))))))))))))))))))))))))))))))))))))))))))))))))))))))))))))))
theorem fgt_X2_hasInjection : fgl_ P3_ Q3_ mt_X2_hasInjection := by
  unfold mt_X2_hasInjection
  exact fgl_c (fg_iload) (fgl_c (fg_if) (fgl_c (fg_iload) (fgl_c (fg_aload) (fgl_c (fg_getf gc3_) (fgl_c (fg_iload) (fgl_c (fg_iald) (fgl_c (fg_icmp) (fgl_c (fg_const) (fgl_c (fg_goto) (fgl_c (fg_const) (fgl_c (fg_zret) (fgl_n))))))))))))
theorem fgt_X2_destroyAllIn : fgl_ P3_ Q3_ mt_X2_destroyAllIn := by
  unfold mt_X2_destroyAllIn
  exact fgl_c (fg_aload) (fgl_c (fg_const) (fgl_c (fg_iload) (fgl_c (fg_callv rfl) (fgl_c (fg_iret) (fgl_n)))))
theorem fgt_X2_destroyPrototypesFrom : fgl_ P3_ Q3_ mt_X2_destroyPrototypesFrom := by
  unfold mt_X2_destroyPrototypesFrom
  exact fgl_c (fg_aload) (fgl_c (fg_iload) (fgl_c (fg_const) (fgl_c (fg_callv rfl) (fgl_c (fg_pop) (fgl_c (fg_vret) (fgl_n))))))
theorem fgt_X2_destroyFrom : fgl_ P3_ Q3_ mt_X2_destroyFrom := by
  unfold mt_X2_destroyFrom
  exact fgl_c (fg_const) (fgl_c (fg_istore) (fgl_c (fg_aload) (fgl_c (fg_getf gc3_) (fgl_c (fg_const) (fgl_c (fg_bin) (fgl_c (fg_istore) (fgl_c (fg_iload) (fgl_c (fg_iload) (fgl_c (fg_icmp) (fgl_c (fg_aload) (fgl_c (fg_getf gc3_) (fgl_c (fg_iload) (fgl_c (fg_zald) (fgl_c (fg_if) (fgl_c (fg_aload) (fgl_c (fg_getf gc3_) (fgl_c (fg_iload) (fgl_c (fg_iald) (fgl_c (fg_iload) (fgl_c (fg_icmp) (fgl_c (fg_aload) (fgl_c (fg_iload) (fgl_c (fg_callv rfl) (fgl_c (fg_iinc) (fgl_c (fg_iinc) (fgl_c (fg_goto) (fgl_c (fg_iload) (fgl_c (fg_iret) (fgl_n)))))))))))))))))))))))))))))
theorem fgt_X2_destroy : fgl_ P3_ Q3_ mt_X2_destroy := by
  unfold mt_X2_destroy
  exact fgl_c (fg_aload) (fgl_c (fg_getf gc3_) (fgl_c (fg_iload) (fgl_c (fg_const) (fgl_c (fg_zast) (fgl_c (fg_aload) (fgl_c (fg_getf gc3_) (fgl_c (fg_iload) (fgl_c (fg_iald) (fgl_c (fg_istore) (fgl_c (fg_iload) (fgl_c (fg_const) (fgl_c (fg_icmp) (fgl_c (fg_aload) (fgl_c (fg_getf gc3_) (fgl_c (fg_iload) (fgl_c (fg_aald gc3_) (fgl_c (fg_aload) (fgl_c (fg_getf gc3_) (fgl_c (fg_iload) (fgl_c (fg_iald) (fgl_c (fg_const) (fgl_c (fg_iast) (fgl_c (fg_aload) (fgl_c (fg_const) (fgl_c (fg_iload) (fgl_c (fg_bin) (fgl_c (fg_const) (fgl_c (fg_bin) (fgl_c (fg_callv rfl) (fgl_c (fg_vret) (fgl_n)))))))))))))))))))))))))))))))
theorem fgt_X2_recordEvent : fgl_ P3_ Q3_ mt_X2_recordEvent := by
  unfold mt_X2_recordEvent
  exact fgl_c (fg_aload) (fgl_c (fg_getf gc3_) (fgl_c (fg_aload) (fgl_c (fg_getf gc3_) (fgl_c (fg_alen) (fgl_c (fg_icmp) (fgl_c (fg_aload) (fgl_c (fg_getf gc3_) (fgl_c (fg_aload) (fgl_c (fg_getf gc3_) (fgl_c (fg_iload) (fgl_c (fg_iast) (fgl_c (fg_aload) (fgl_c (fg_dup) (fgl_c (fg_getf gc3_) (fgl_c (fg_const) (fgl_c (fg_bin) (fgl_c (fg_putf) (fgl_c (fg_vret) (fgl_n)))))))))))))))))))
theorem fgt_X3_add : fgl_ P3_ Q3_ mt_X3_add := by
  unfold mt_X3_add
  exact fgl_c (fg_const) (fgl_c (fg_iload) (fgl_c (fg_calls rfl) (fgl_c (fg_if) (fgl_c (fg_const) (fgl_c (fg_iload) (fgl_c (fg_calls rfl) (fgl_c (fg_if) (fgl_c (fg_throw) (fgl_c (fg_aload) (fgl_c (fg_getf gc3_) (fgl_c (fg_getf gc3_) (fgl_c (fg_const) (fgl_c (fg_icmp) (fgl_c (fg_throw) (fgl_c (fg_aload) (fgl_c (fg_getf gc3_) (fgl_c (fg_iload) (fgl_c (fg_iload) (fgl_c (fg_callv rfl) (fgl_c (fg_iret) (fgl_n)))))))))))))))))))))
theorem fgt_X3_set : fgl_ P3_ Q3_ mt_X3_set := by
  unfold mt_X3_set
  exact fgl_c (fg_aload) (fgl_c (fg_iload) (fgl_c (fg_callv rfl) (fgl_c (fg_aload) (fgl_c (fg_iload) (fgl_c (fg_callv rfl) (fgl_c (fg_iload) (fgl_c (fg_iload) (fgl_c (fg_calls rfl) (fgl_c (fg_if) (fgl_c (fg_throw) (fgl_c (fg_aload) (fgl_c (fg_getf gc3_) (fgl_c (fg_getf gc3_) (fgl_c (fg_iload) (fgl_c (fg_aald gc3_) (fgl_c (fg_iload) (fgl_c (fg_iald) (fgl_c (fg_istore) (fgl_c (fg_aload) (fgl_c (fg_getf gc3_) (fgl_c (fg_getf gc3_) (fgl_c (fg_iload) (fgl_c (fg_aald gc3_) (fgl_c (fg_iload) (fgl_c (fg_iload) (fgl_c (fg_iast) (fgl_c (fg_iload) (fgl_c (fg_iret) (fgl_n)))))))))))))))))))))))))))))
theorem fgt_X3_property : fgl_ P3_ Q3_ mt_X3_property := by
  unfold mt_X3_property
  exact fgl_c (fg_aload) (fgl_c (fg_iload) (fgl_c (fg_callv rfl) (fgl_c (fg_aload) (fgl_c (fg_iload) (fgl_c (fg_callv rfl) (fgl_c (fg_aload) (fgl_c (fg_getf gc3_) (fgl_c (fg_getf gc3_) (fgl_c (fg_iload) (fgl_c (fg_aald gc3_) (fgl_c (fg_iload) (fgl_c (fg_iald) (fgl_c (fg_iret) (fgl_n))))))))))))))
theorem fgt_X3_depend : fgl_ P3_ Q3_ mt_X3_depend := by
  unfold mt_X3_depend
  exact fgl_c (fg_aload) (fgl_c (fg_iload) (fgl_c (fg_callv rfl) (fgl_c (fg_aload) (fgl_c (fg_iload) (fgl_c (fg_iload) (fgl_c (fg_callv rfl) (fgl_c (fg_iload) (fgl_c (fg_const) (fgl_c (fg_const) (fgl_c (fg_calls rfl) (fgl_c (fg_if) (fgl_c (fg_throw) (fgl_c (fg_aload) (fgl_c (fg_getf gc3_) (fgl_c (fg_getf gc3_) (fgl_c (fg_iload) (fgl_c (fg_iald) (fgl_c (fg_const) (fgl_c (fg_icmp) (fgl_c (fg_throw) (fgl_c (fg_aload) (fgl_c (fg_getf gc3_) (fgl_c (fg_iload) (fgl_c (fg_iload) (fgl_c (fg_iload) (fgl_c (fg_iload) (fgl_c (fg_callv rfl) (fgl_c (fg_iret) (fgl_n)))))))))))))))))))))))))))))
theorem fgt_X3_clear : fgl_ P3_ Q3_ mt_X3_clear := by
  unfold mt_X3_clear
  exact fgl_c (fg_aload) (fgl_c (fg_iload) (fgl_c (fg_callv rfl) (fgl_c (fg_aload) (fgl_c (fg_getf gc3_) (fgl_c (fg_getf gc3_) (fgl_c (fg_iload) (fgl_c (fg_iald) (fgl_c (fg_istore) (fgl_c (fg_aload) (fgl_c (fg_getf gc3_) (fgl_c (fg_getf gc3_) (fgl_c (fg_iload) (fgl_c (fg_const) (fgl_c (fg_iast) (fgl_c (fg_iload) (fgl_c (fg_iret) (fgl_n)))))))))))))))))
theorem fgt_X3_dependency : fgl_ P3_ Q3_ mt_X3_dependency := by
  unfold mt_X3_dependency
  exact fgl_c (fg_aload) (fgl_c (fg_iload) (fgl_c (fg_callv rfl) (fgl_c (fg_iload) (fgl_c (fg_const) (fgl_c (fg_const) (fgl_c (fg_calls rfl) (fgl_c (fg_if) (fgl_c (fg_throw) (fgl_c (fg_iload) (fgl_c (fg_const) (fgl_c (fg_icmp) (fgl_c (fg_aload) (fgl_c (fg_getf gc3_) (fgl_c (fg_getf gc3_) (fgl_c (fg_iload) (fgl_c (fg_iald) (fgl_c (fg_iret) (fgl_c (fg_aload) (fgl_c (fg_getf gc3_) (fgl_c (fg_iload) (fgl_c (fg_iload) (fgl_c (fg_callv rfl) (fgl_c (fg_if) (fgl_c (fg_aload) (fgl_c (fg_getf gc3_) (fgl_c (fg_iload) (fgl_c (fg_iload) (fgl_c (fg_iload) (fgl_c (fg_callv rfl) (fgl_c (fg_goto) (fgl_c (fg_const) (fgl_c (fg_iret) (fgl_n)))))))))))))))))))))))))))))))))
theorem fgt_X3_profile : fgl_ P3_ Q3_ mt_X3_profile := by
  unfold mt_X3_profile
  exact fgl_c (fg_iload) (fgl_c (fg_const) (fgl_c (fg_const) (fgl_c (fg_calls rfl) (fgl_c (fg_if) (fgl_c (fg_throw) (fgl_c (fg_aload) (fgl_c (fg_getf gc3_) (fgl_c (fg_getf gc3_) (fgl_c (fg_iload) (fgl_c (fg_calls rfl) (fgl_c (fg_istore) (fgl_c (fg_aload) (fgl_c (fg_getf gc3_) (fgl_c (fg_iload) (fgl_c (fg_iload) (fgl_c (fg_callv rfl) (fgl_c (fg_iload) (fgl_c (fg_zret) (fgl_n)))))))))))))))))))
theorem fgt_X3_components : fgl_ P3_ Q3_ mt_X3_components := by
  unfold mt_X3_components
  exact fgl_c (fg_aload) (fgl_c (fg_getf gc3_) (fgl_c (fg_getf gc3_) (fgl_c (fg_iret) (fgl_n))))
theorem fgt_X3_candidates : fgl_ P3_ Q3_ mt_X3_candidates := by
  unfold mt_X3_candidates
  exact fgl_c (fg_aload) (fgl_c (fg_iload) (fgl_c (fg_iload) (fgl_c (fg_callv rfl) (fgl_c (fg_aload) (fgl_c (fg_getf gc3_) (fgl_c (fg_iload) (fgl_c (fg_iload) (fgl_c (fg_callv rfl) (fgl_c (fg_iret) (fgl_n))))))))))
theorem fgt_X3_chosen : fgl_ P3_ Q3_ mt_X3_chosen := by
  unfold mt_X3_chosen
  exact fgl_c (fg_aload) (fgl_c (fg_iload) (fgl_c (fg_iload) (fgl_c (fg_callv rfl) (fgl_c (fg_aload) (fgl_c (fg_getf gc3_) (fgl_c (fg_aload) (fgl_c (fg_getf gc3_) (fgl_c (fg_iload) (fgl_c (fg_iload) (fgl_c (fg_callv rfl) (fgl_c (fg_callv rfl) (fgl_c (fg_iret) (fgl_n)))))))))))))
theorem fgt_X3_problem : fgl_ P3_ Q3_ mt_X3_problem := by
  unfold mt_X3_problem
  exact fgl_c (fg_aload) (fgl_c (fg_iload) (fgl_c (fg_callv rfl) (fgl_c (fg_aload) (fgl_c (fg_const) (fgl_c (fg_putf) (fgl_c (fg_aload) (fgl_c (fg_iload) (fgl_c (fg_const) (fgl_c (fg_callv rfl) (fgl_c (fg_iret) (fgl_n)))))))))))
theorem fgt_X3_needs : fgl_ P3_ Q3_ mt_X3_needs := by
  unfold mt_X3_needs
  exact fgl_c (fg_aload) (fgl_c (fg_iload) (fgl_c (fg_callv rfl) (fgl_c (fg_aload) (fgl_c (fg_getf gc3_) (fgl_c (fg_iload) (fgl_c (fg_callv rfl) (fgl_c (fg_iret) (fgl_n))))))))
theorem fgt_X3_resolve : fgl_ P3_ Q3_ mt_X3_resolve := by
  unfold mt_X3_resolve
  exact fgl_c (fg_aload) (fgl_c (fg_iload) (fgl_c (fg_iload) (fgl_c (fg_callv rfl) (fgl_c (fg_aload) (fgl_c (fg_iload) (fgl_c (fg_iload) (fgl_c (fg_callv rfl) (fgl_c (fg_iret) (fgl_n)))))))))
theorem fgt_X3_provide : fgl_ P3_ Q3_ mt_X3_provide := by
  unfold mt_X3_provide
  exact fgl_c (fg_aload) (fgl_c (fg_iload) (fgl_c (fg_callv rfl) (fgl_c (fg_aload) (fgl_c (fg_getf gc3_) (fgl_c (fg_getf gc3_) (fgl_c (fg_iload) (fgl_c (fg_iald) (fgl_c (fg_istore) (fgl_c (fg_aload) (fgl_c (fg_getf gc3_) (fgl_c (fg_iload) (fgl_c (fg_iload) (fgl_c (fg_callv rfl) (fgl_c (fg_if) (fgl_c (fg_aload) (fgl_c (fg_getf gc3_) (fgl_c (fg_iload) (fgl_c (fg_iload) (fgl_c (fg_const) (fgl_c (fg_callv rfl) (fgl_c (fg_const) (fgl_c (fg_icmp) (fgl_c (fg_throw) (fgl_c (fg_aload) (fgl_c (fg_getf gc3_) (fgl_c (fg_getf gc3_) (fgl_c (fg_iload) (fgl_c (fg_zald) (fgl_c (fg_if) (fgl_c (fg_throw) (fgl_c (fg_aload) (fgl_c (fg_aload) (fgl_c (fg_getf gc3_) (fgl_c (fg_iload) (fgl_c (fg_iload) (fgl_c (fg_const) (fgl_c (fg_callv rfl) (fgl_c (fg_aload) (fgl_c (fg_getf gc3_) (fgl_c (fg_iload) (fgl_c (fg_iload) (fgl_c (fg_const) (fgl_c (fg_callv rfl) (fgl_c (fg_callv rfl) (fgl_c (fg_iret) (fgl_n))))))))))))))))))))))))))))))))))))))))))))))
theorem fgt_X3_start : fgl_ P3_ Q3_ mt_X3_start := by
  unfold mt_X3_start
  exact fgl_c (fg_aload) (fgl_c (fg_getf gc3_) (fgl_c (fg_getf gc3_) (fgl_c (fg_istore) (fgl_c (fg_const) (fgl_c (fg_istore) (fgl_c (fg_iload) (fgl_c (fg_aload) (fgl_c (fg_getf gc3_) (fgl_c (fg_getf gc3_) (fgl_c (fg_icmp) (fgl_c (fg_aload) (fgl_c (fg_getf gc3_) (fgl_c (fg_iload) (fgl_c (fg_callv rfl) (fgl_c (fg_if) (fgl_c (fg_aload) (fgl_c (fg_iload) (fgl_c (fg_const) (fgl_c (fg_callv rfl) (fgl_c (fg_const) (fgl_c (fg_icmp) (fgl_c (fg_aload) (fgl_c (fg_getf gc3_) (fgl_c (fg_iload) (fgl_c (fg_callv rfl) (fgl_c (fg_throw) (fgl_c (fg_iinc) (fgl_c (fg_goto) (fgl_c (fg_aload) (fgl_c (fg_getf gc3_) (fgl_c (fg_getf gc3_) (fgl_c (fg_iload) (fgl_c (fg_bin) (fgl_c (fg_iret) (fgl_n)))))))))))))))))))))))))))))))))))
theorem fgt_X3_begin : fgl_ P3_ Q3_ mt_X3_begin := by
  unfold mt_X3_begin
  exact fgl_c (fg_aload) (fgl_c (fg_getf gc3_) (fgl_c (fg_const) (fgl_c (fg_icmp) (fgl_c (fg_throw) (fgl_c (fg_aload) (fgl_c (fg_dup) (fgl_c (fg_getf gc3_) (fgl_c (fg_const) (fgl_c (fg_bin) (fgl_c (fg_putf) (fgl_c (fg_aload) (fgl_c (fg_getf gc3_) (fgl_c (fg_iret) (fgl_n))))))))))))))
theorem fgt_X3_end : fgl_ P3_ Q3_ mt_X3_end := by
  unfold mt_X3_end
  exact fgl_c (fg_aload) (fgl_c (fg_getf gc3_) (fgl_c (fg_if) (fgl_c (fg_throw) (fgl_c (fg_aload) (fgl_c (fg_callv rfl) (fgl_c (fg_iret) (fgl_n)))))))
theorem fgt_X3_close : fgl_ P3_ Q3_ mt_X3_close := by
  unfold mt_X3_close
  exact fgl_c (fg_const) (fgl_c (fg_istore) (fgl_c (fg_aload) (fgl_c (fg_getf gc3_) (fgl_c (fg_istore) (fgl_c (fg_iload) (fgl_c (fg_if) (fgl_c (fg_iload) (fgl_c (fg_aload) (fgl_c (fg_callv rfl) (fgl_c (fg_bin) (fgl_c (fg_istore) (fgl_c (fg_iinc) (fgl_c (fg_goto) (fgl_c (fg_iload) (fgl_c (fg_aload) (fgl_c (fg_getf gc3_) (fgl_c (fg_const) (fgl_c (fg_callv rfl) (fgl_c (fg_bin) (fgl_c (fg_iret) (fgl_n)))))))))))))))))))))
theorem fgt_X3_instances : fgl_ P3_ Q3_ mt_X3_instances := by
  unfold mt_X3_instances
  exact fgl_c (fg_aload) (fgl_c (fg_getf gc3_) (fgl_c (fg_getf gc3_) (fgl_c (fg_iret) (fgl_n))))
theorem fgt_X3_componentOf : fgl_ P3_ Q3_ mt_X3_componentOf := by
  unfold mt_X3_componentOf
  exact fgl_c (fg_aload) (fgl_c (fg_iload) (fgl_c (fg_callv rfl) (fgl_c (fg_aload) (fgl_c (fg_getf gc3_) (fgl_c (fg_getf gc3_) (fgl_c (fg_iload) (fgl_c (fg_iald) (fgl_c (fg_iret) (fgl_n)))))))))
theorem fgt_X3_isAlive : fgl_ P3_ Q3_ mt_X3_isAlive := by
  unfold mt_X3_isAlive
  exact fgl_c (fg_aload) (fgl_c (fg_iload) (fgl_c (fg_callv rfl) (fgl_c (fg_aload) (fgl_c (fg_getf gc3_) (fgl_c (fg_getf gc3_) (fgl_c (fg_iload) (fgl_c (fg_zald) (fgl_c (fg_zret) (fgl_n)))))))))
theorem fgt_X3_injected : fgl_ P3_ Q3_ mt_X3_injected := by
  unfold mt_X3_injected
  exact fgl_c (fg_aload) (fgl_c (fg_iload) (fgl_c (fg_callv rfl) (fgl_c (fg_aload) (fgl_c (fg_getf gc3_) (fgl_c (fg_iload) (fgl_c (fg_iload) (fgl_c (fg_callv rfl) (fgl_c (fg_if) (fgl_c (fg_throw) (fgl_c (fg_aload) (fgl_c (fg_getf gc3_) (fgl_c (fg_getf gc3_) (fgl_c (fg_iload) (fgl_c (fg_const) (fgl_c (fg_bin) (fgl_c (fg_iload) (fgl_c (fg_bin) (fgl_c (fg_iald) (fgl_c (fg_iret) (fgl_n))))))))))))))))))))
theorem fgt_X3_event : fgl_ P3_ Q3_ mt_X3_event := by
  unfold mt_X3_event
  exact fgl_c (fg_iload) (fgl_c (fg_const) (fgl_c (fg_icmp) (fgl_c (fg_aload) (fgl_c (fg_getf gc3_) (fgl_c (fg_getf gc3_) (fgl_c (fg_iret) (fgl_c (fg_iload) (fgl_c (fg_if) (fgl_c (fg_iload) (fgl_c (fg_aload) (fgl_c (fg_getf gc3_) (fgl_c (fg_getf gc3_) (fgl_c (fg_icmp) (fgl_c (fg_aload) (fgl_c (fg_getf gc3_) (fgl_c (fg_getf gc3_) (fgl_c (fg_iload) (fgl_c (fg_iald) (fgl_c (fg_goto) (fgl_c (fg_const) (fgl_c (fg_iret) (fgl_n))))))))))))))))))))))
theorem fgt_X3_failureKind : fgl_ P3_ Q3_ mt_X3_failureKind := by
  unfold mt_X3_failureKind
  exact fgl_c (fg_aload) (fgl_c (fg_getf gc3_) (fgl_c (fg_getf gc3_) (fgl_c (fg_iret) (fgl_n))))
theorem fgt_X3_failureDetail : fgl_ P3_ Q3_ mt_X3_failureDetail := by
  unfold mt_X3_failureDetail
  exact fgl_c (fg_aload) (fgl_c (fg_getf gc3_) (fgl_c (fg_getf gc3_) (fgl_c (fg_iret) (fgl_n))))
theorem fgt_X3_failureChain : fgl_ P3_ Q3_ mt_X3_failureChain := by
  unfold mt_X3_failureChain
  exact fgl_c (fg_iload) (fgl_c (fg_const) (fgl_c (fg_icmp) (fgl_c (fg_aload) (fgl_c (fg_getf gc3_) (fgl_c (fg_getf gc3_) (fgl_c (fg_iret) (fgl_c (fg_iload) (fgl_c (fg_if) (fgl_c (fg_iload) (fgl_c (fg_aload) (fgl_c (fg_getf gc3_) (fgl_c (fg_getf gc3_) (fgl_c (fg_icmp) (fgl_c (fg_aload) (fgl_c (fg_getf gc3_) (fgl_c (fg_getf gc3_) (fgl_c (fg_iload) (fgl_c (fg_iald) (fgl_c (fg_goto) (fgl_c (fg_const) (fgl_c (fg_iret) (fgl_n))))))))))))))))))))))
theorem fgt_X3_isBetween : fgl_ P3_ Q3_ mt_X3_isBetween := by
  unfold mt_X3_isBetween
  exact fgl_c (fg_iload) (fgl_c (fg_iload) (fgl_c (fg_icmp) (fgl_c (fg_iload) (fgl_c (fg_iload) (fgl_c (fg_icmp) (fgl_c (fg_const) (fgl_c (fg_goto) (fgl_c (fg_const) (fgl_c (fg_zret) (fgl_n))))))))))
theorem fgt_X3_isPropertyValue : fgl_ P3_ Q3_ mt_X3_isPropertyValue := by
  unfold mt_X3_isPropertyValue
  exact fgl_c (fg_iload) (fgl_c (fg_gets rfl) (fgl_c (fg_iload) (fgl_c (fg_iald) (fgl_c (fg_gets rfl) (fgl_c (fg_iload) (fgl_c (fg_iald) (fgl_c (fg_calls rfl) (fgl_c (fg_zret) (fgl_n)))))))))
theorem fgt_X3_requireComponent : fgl_ P3_ Q3_ mt_X3_requireComponent := by
  unfold mt_X3_requireComponent
  exact fgl_c (fg_iload) (fgl_c (fg_if) (fgl_c (fg_iload) (fgl_c (fg_aload) (fgl_c (fg_getf gc3_) (fgl_c (fg_getf gc3_) (fgl_c (fg_icmp) (fgl_c (fg_throw) (fgl_c (fg_vret) (fgl_n)))))))))
theorem fgt_X3_requireInstance : fgl_ P3_ Q3_ mt_X3_requireInstance := by
  unfold mt_X3_requireInstance
  exact fgl_c (fg_iload) (fgl_c (fg_if) (fgl_c (fg_iload) (fgl_c (fg_aload) (fgl_c (fg_getf gc3_) (fgl_c (fg_getf gc3_) (fgl_c (fg_icmp) (fgl_c (fg_throw) (fgl_c (fg_vret) (fgl_n)))))))))
theorem fgt_X3_requireProperty : fgl_ P3_ Q3_ mt_X3_requireProperty := by
  unfold mt_X3_requireProperty
  exact fgl_c (fg_iload) (fgl_c (fg_const) (fgl_c (fg_const) (fgl_c (fg_calls rfl) (fgl_c (fg_if) (fgl_c (fg_throw) (fgl_c (fg_vret) (fgl_n)))))))
theorem fgt_X3_requireTypeAndQualifier : fgl_ P3_ Q3_ mt_X3_requireTypeAndQualifier := by
  unfold mt_X3_requireTypeAndQualifier
  exact fgl_c (fg_iload) (fgl_c (fg_const) (fgl_c (fg_const) (fgl_c (fg_calls rfl) (fgl_c (fg_if) (fgl_c (fg_iload) (fgl_c (fg_const) (fgl_c (fg_const) (fgl_c (fg_calls rfl) (fgl_c (fg_if) (fgl_c (fg_throw) (fgl_c (fg_vret) (fgl_n))))))))))))
theorem fgt_X3_tryConstruction : fgl_ P3_ Q3_ mt_X3_tryConstruction := by
  unfold mt_X3_tryConstruction
  exact fgl_c (fg_const) (fgl_c (fg_iload) (fgl_c (fg_bin) (fgl_c (fg_istore) (fgl_c (fg_iload) (fgl_c (fg_iload) (fgl_c (fg_bin) (fgl_c (fg_if) (fgl_c (fg_const) (fgl_c (fg_iret) (fgl_c (fg_aload) (fgl_c (fg_getf gc3_) (fgl_c (fg_iload) (fgl_c (fg_bin) (fgl_c (fg_if) (fgl_c (fg_const) (fgl_c (fg_iret) (fgl_c (fg_const) (fgl_c (fg_istore) (fgl_c (fg_iload) (fgl_c (fg_aload) (fgl_c (fg_getf gc3_) (fgl_c (fg_getf gc3_) (fgl_c (fg_iload) (fgl_c (fg_iald) (fgl_c (fg_icmp) (fgl_c (fg_aload) (fgl_c (fg_iload) (fgl_c (fg_iload) (fgl_c (fg_iload) (fgl_c (fg_iload) (fgl_c (fg_bin) (fgl_c (fg_callv rfl) (fgl_c (fg_istore) (fgl_c (fg_iload) (fgl_c (fg_if) (fgl_c (fg_iload) (fgl_c (fg_iret) (fgl_c (fg_iinc) (fgl_c (fg_goto) (fgl_c (fg_aload) (fgl_c (fg_dup) (fgl_c (fg_getf gc3_) (fgl_c (fg_iload) (fgl_c (fg_bin) (fgl_c (fg_putf) (fgl_c (fg_const) (fgl_c (fg_iret) (fgl_n))))))))))))))))))))))))))))))))))))))))))))))))
theorem fgt_X3_tryDependency : fgl_ P3_ Q3_ mt_X3_tryDependency := by
  unfold mt_X3_tryDependency
  exact fgl_c (fg_aload) (fgl_c (fg_getf gc3_) (fgl_c (fg_iload) (fgl_c (fg_iload) (fgl_c (fg_const) (fgl_c (fg_callv rfl) (fgl_c (fg_istore) (fgl_c (fg_iload) (fgl_c (fg_const) (fgl_c (fg_icmp) (fgl_c (fg_const) (fgl_c (fg_iret) (fgl_c (fg_aload) (fgl_c (fg_getf gc3_) (fgl_c (fg_iload) (fgl_c (fg_iload) (fgl_c (fg_callv rfl) (fgl_c (fg_istore) (fgl_c (fg_iload) (fgl_c (fg_const) (fgl_c (fg_icmp) (fgl_c (fg_aload) (fgl_c (fg_iload) (fgl_c (fg_iload) (fgl_c (fg_callv rfl) (fgl_c (fg_iret) (fgl_c (fg_iload) (fgl_c (fg_if) (fgl_c (fg_iload) (fgl_c (fg_const) (fgl_c (fg_icmp) (fgl_c (fg_const) (fgl_c (fg_goto) (fgl_c (fg_const) (fgl_c (fg_iret) (fgl_c (fg_aload) (fgl_c (fg_getf gc3_) (fgl_c (fg_iload) (fgl_c (fg_callv rfl) (fgl_c (fg_istore) (fgl_c (fg_iload) (fgl_c (fg_const) (fgl_c (fg_icmp) (fgl_c (fg_const) (fgl_c (fg_goto) (fgl_c (fg_aload) (fgl_c (fg_iload) (fgl_c (fg_iload) (fgl_c (fg_callv rfl) (fgl_c (fg_iret) (fgl_n))))))))))))))))))))))))))))))))))))))))))))))))))
theorem fgt_X3_tryEach : fgl_ P3_ Q3_ mt_X3_tryEach := by
  unfold mt_X3_tryEach
  exact fgl_c (fg_const) (fgl_c (fg_istore) (fgl_c (fg_iload) (fgl_c (fg_aload) (fgl_c (fg_getf gc3_) (fgl_c (fg_getf gc3_) (fgl_c (fg_icmp) (fgl_c (fg_iload) (fgl_c (fg_iload) (fgl_c (fg_calls rfl) (fgl_c (fg_if) (fgl_c (fg_aload) (fgl_c (fg_iload) (fgl_c (fg_iload) (fgl_c (fg_callv rfl) (fgl_c (fg_istore) (fgl_c (fg_iload) (fgl_c (fg_if) (fgl_c (fg_iload) (fgl_c (fg_iret) (fgl_c (fg_iinc) (fgl_c (fg_goto) (fgl_c (fg_const) (fgl_c (fg_iret) (fgl_n))))))))))))))))))))))))
theorem fgt_X3_requestOrThrow : fgl_ P3_ Q3_ mt_X3_requestOrThrow := by
  unfold mt_X3_requestOrThrow
  exact fgl_c (fg_aload) (fgl_c (fg_getf gc3_) (fgl_c (fg_getf gc3_) (fgl_c (fg_istore) (fgl_c (fg_aload) (fgl_c (fg_iload) (fgl_c (fg_iload) (fgl_c (fg_const) (fgl_c (fg_callv rfl) (fgl_c (fg_istore) (fgl_c (fg_iload) (fgl_c (fg_const) (fgl_c (fg_icmp) (fgl_c (fg_aload) (fgl_c (fg_getf gc3_) (fgl_c (fg_iload) (fgl_c (fg_callv rfl) (fgl_c (fg_throw) (fgl_c (fg_iload) (fgl_c (fg_iret) (fgl_n))))))))))))))))))))
theorem fgt_X3_request : fgl_ P3_ Q3_ mt_X3_request := by
  unfold mt_X3_request
  exact fgl_c (fg_aload) (fgl_c (fg_getf gc3_) (fgl_c (fg_iload) (fgl_c (fg_iload) (fgl_c (fg_callv rfl) (fgl_c (fg_istore) (fgl_c (fg_iload) (fgl_c (fg_if) (fgl_c (fg_aload) (fgl_c (fg_const) (fgl_c (fg_iload) (fgl_c (fg_iload) (fgl_c (fg_callv rfl) (fgl_c (fg_iret) (fgl_c (fg_aload) (fgl_c (fg_getf gc3_) (fgl_c (fg_iload) (fgl_c (fg_callv rfl) (fgl_c (fg_istore) (fgl_c (fg_iload) (fgl_c (fg_const) (fgl_c (fg_icmp) (fgl_c (fg_aload) (fgl_c (fg_const) (fgl_c (fg_iload) (fgl_c (fg_iload) (fgl_c (fg_callv rfl) (fgl_c (fg_goto) (fgl_c (fg_aload) (fgl_c (fg_iload) (fgl_c (fg_iload) (fgl_c (fg_callv rfl) (fgl_c (fg_iret) (fgl_n)))))))))))))))))))))))))))))))))
theorem fgt_X3_obtain : fgl_ P3_ Q3_ mt_X3_obtain := by
  unfold mt_X3_obtain
  exact fgl_c (fg_aload) (fgl_c (fg_getf gc3_) (fgl_c (fg_getf gc3_) (fgl_c (fg_iload) (fgl_c (fg_aald gc3_) (fgl_c (fg_const) (fgl_c (fg_iald) (fgl_c (fg_istore) (fgl_c (fg_iload) (fgl_c (fg_const) (fgl_c (fg_icmp) (fgl_c (fg_aload) (fgl_c (fg_iload) (fgl_c (fg_const) (fgl_c (fg_iload) (fgl_c (fg_callv rfl) (fgl_c (fg_iret) (fgl_c (fg_iload) (fgl_c (fg_const) (fgl_c (fg_icmp) (fgl_c (fg_aload) (fgl_c (fg_getf gc3_) (fgl_c (fg_if) (fgl_c (fg_aload) (fgl_c (fg_const) (fgl_c (fg_iload) (fgl_c (fg_iload) (fgl_c (fg_callv rfl) (fgl_c (fg_iret) (fgl_c (fg_iload) (fgl_c (fg_if) (fgl_c (fg_const) (fgl_c (fg_goto) (fgl_c (fg_aload) (fgl_c (fg_getf gc3_) (fgl_c (fg_istore) (fgl_c (fg_aload) (fgl_c (fg_getf gc3_) (fgl_c (fg_getf gc3_) (fgl_c (fg_iload) (fgl_c (fg_aald gc3_) (fgl_c (fg_iload) (fgl_c (fg_iald) (fgl_c (fg_istore) (fgl_c (fg_iload) (fgl_c (fg_const) (fgl_c (fg_icmp) (fgl_c (fg_aload) (fgl_c (fg_iload) (fgl_c (fg_iload) (fgl_c (fg_iload) (fgl_c (fg_callv rfl) (fgl_c (fg_goto) (fgl_c (fg_iload) (fgl_c (fg_iret) (fgl_n)))))))))))))))))))))))))))))))))))))))))))))))))))))))
theorem fgt_X3_construct : fgl_ P3_ Q3_ mt_X3_construct := by
  unfold mt_X3_construct
  exact fgl_c (fg_iload) (fgl_c (fg_const) (fgl_c (fg_icmp) (fgl_c (fg_aload) (fgl_c (fg_iload) (fgl_c (fg_iload) (fgl_c (fg_callv rfl) (fgl_c (fg_if) (fgl_c (fg_aload) (fgl_c (fg_const) (fgl_c (fg_iload) (fgl_c (fg_iload) (fgl_c (fg_callv rfl) (fgl_c (fg_iret) (fgl_c (fg_aload) (fgl_c (fg_getf gc3_) (fgl_c (fg_iload) (fgl_c (fg_iload) (fgl_c (fg_iast) (fgl_c (fg_aload) (fgl_c (fg_getf gc3_) (fgl_c (fg_getf gc3_) (fgl_c (fg_iload) (fgl_c (fg_iald) (fgl_c (fg_istore) (fgl_c (fg_const) (fgl_c (fg_istore) (fgl_c (fg_iload) (fgl_c (fg_iload) (fgl_c (fg_icmp) (fgl_c (fg_aload) (fgl_c (fg_iload) (fgl_c (fg_iload) (fgl_c (fg_iload) (fgl_c (fg_const) (fgl_c (fg_bin) (fgl_c (fg_callv rfl) (fgl_c (fg_istore) (fgl_c (fg_iload) (fgl_c (fg_const) (fgl_c (fg_icmp) (fgl_c (fg_const) (fgl_c (fg_iret) (fgl_c (fg_aload) (fgl_c (fg_getf gc3_) (fgl_c (fg_iload) (fgl_c (fg_aald gc3_) (fgl_c (fg_iload) (fgl_c (fg_iload) (fgl_c (fg_iast) (fgl_c (fg_iinc) (fgl_c (fg_goto) (fgl_c (fg_aload) (fgl_c (fg_iload) (fgl_c (fg_iload) (fgl_c (fg_iload) (fgl_c (fg_callv rfl) (fgl_c (fg_iret) (fgl_n))))))))))))))))))))))))))))))))))))))))))))))))))))))))))
theorem fgt_X3_isUnderConstruction : fgl_ P3_ Q3_ mt_X3_isUnderConstruction := by
  unfold mt_X3_isUnderConstruction
  exact fgl_c (fg_const) (fgl_c (fg_istore) (fgl_c (fg_iload) (fgl_c (fg_iload) (fgl_c (fg_icmp) (fgl_c (fg_aload) (fgl_c (fg_getf gc3_) (fgl_c (fg_iload) (fgl_c (fg_iald) (fgl_c (fg_iload) (fgl_c (fg_icmp) (fgl_c (fg_const) (fgl_c (fg_zret) (fgl_c (fg_iinc) (fgl_c (fg_goto) (fgl_c (fg_const) (fgl_c (fg_zret) (fgl_n)))))))))))))))))
theorem fgt_X3_inject : fgl_ P3_ Q3_ mt_X3_inject := by
  unfold mt_X3_inject
  exact fgl_c (fg_aload) (fgl_c (fg_getf gc3_) (fgl_c (fg_iload) (fgl_c (fg_iload) (fgl_c (fg_const) (fgl_c (fg_callv rfl) (fgl_c (fg_istore) (fgl_c (fg_iload) (fgl_c (fg_const) (fgl_c (fg_icmp) (fgl_c (fg_const) (fgl_c (fg_iret) (fgl_c (fg_aload) (fgl_c (fg_getf gc3_) (fgl_c (fg_iload) (fgl_c (fg_iload) (fgl_c (fg_callv rfl) (fgl_c (fg_istore) (fgl_c (fg_iload) (fgl_c (fg_const) (fgl_c (fg_icmp) (fgl_c (fg_aload) (fgl_c (fg_iload) (fgl_c (fg_iload) (fgl_c (fg_callv rfl) (fgl_c (fg_iret) (fgl_c (fg_iload) (fgl_c (fg_const) (fgl_c (fg_icmp) (fgl_c (fg_iload) (fgl_c (fg_if) (fgl_c (fg_const) (fgl_c (fg_iret) (fgl_c (fg_aload) (fgl_c (fg_aload) (fgl_c (fg_getf gc3_) (fgl_c (fg_iload) (fgl_c (fg_iload) (fgl_c (fg_const) (fgl_c (fg_callv rfl) (fgl_c (fg_aload) (fgl_c (fg_getf gc3_) (fgl_c (fg_iload) (fgl_c (fg_iload) (fgl_c (fg_const) (fgl_c (fg_callv rfl) (fgl_c (fg_iload) (fgl_c (fg_callv rfl) (fgl_c (fg_iret) (fgl_n)))))))))))))))))))))))))))))))))))))))))))))))))
theorem fgt_X3_obtainEach : fgl_ P3_ Q3_ mt_X3_obtainEach := by
  unfold mt_X3_obtainEach
  exact fgl_c (fg_const) (fgl_c (fg_istore) (fgl_c (fg_const) (fgl_c (fg_istore) (fgl_c (fg_iload) (fgl_c (fg_aload) (fgl_c (fg_getf gc3_) (fgl_c (fg_getf gc3_) (fgl_c (fg_icmp) (fgl_c (fg_iload) (fgl_c (fg_iload) (fgl_c (fg_calls rfl) (fgl_c (fg_if) (fgl_c (fg_aload) (fgl_c (fg_iload) (fgl_c (fg_iload) (fgl_c (fg_callv rfl) (fgl_c (fg_const) (fgl_c (fg_icmp) (fgl_c (fg_const) (fgl_c (fg_iret) (fgl_c (fg_iinc) (fgl_c (fg_iinc) (fgl_c (fg_goto) (fgl_c (fg_iload) (fgl_c (fg_iret) (fgl_n))))))))))))))))))))))))))
theorem fgt_X3_complete : fgl_ P3_ Q3_ mt_X3_complete := by
  unfold mt_X3_complete
  exact fgl_c (fg_aload) (fgl_c (fg_getf gc3_) (fgl_c (fg_getf gc3_) (fgl_c (fg_const) (fgl_c (fg_icmp) (fgl_c (fg_aload) (fgl_c (fg_const) (fgl_c (fg_iload) (fgl_c (fg_iload) (fgl_c (fg_const) (fgl_c (fg_bin) (fgl_c (fg_callv rfl) (fgl_c (fg_iret) (fgl_c (fg_aload) (fgl_c (fg_getf gc3_) (fgl_c (fg_getf gc3_) (fgl_c (fg_iload) (fgl_c (fg_aald gc3_) (fgl_c (fg_const) (fgl_c (fg_iald) (fgl_c (fg_istore) (fgl_c (fg_iload) (fgl_c (fg_const) (fgl_c (fg_icmp) (fgl_c (fg_aload) (fgl_c (fg_getf gc3_) (fgl_c (fg_getf gc3_) (fgl_c (fg_iload) (fgl_c (fg_iald) (fgl_c (fg_iload) (fgl_c (fg_icmp) (fgl_c (fg_aload) (fgl_c (fg_const) (fgl_c (fg_iload) (fgl_c (fg_iload) (fgl_c (fg_const) (fgl_c (fg_bin) (fgl_c (fg_callv rfl) (fgl_c (fg_iret) (fgl_c (fg_aload) (fgl_c (fg_getf gc3_) (fgl_c (fg_iload) (fgl_c (fg_iload) (fgl_c (fg_aload) (fgl_c (fg_getf gc3_) (fgl_c (fg_iload) (fgl_c (fg_aald gc3_) (fgl_c (fg_aload) (fgl_c (fg_getf gc3_) (fgl_c (fg_getf gc3_) (fgl_c (fg_iload) (fgl_c (fg_iald) (fgl_c (fg_callv rfl) (fgl_c (fg_iret) (fgl_n))))))))))))))))))))))))))))))))))))))))))))))))))))))
theorem fgt_X3_recordFailure : fgl_ P3_ Q3_ mt_X3_recordFailure := by
  unfold mt_X3_recordFailure
  exact fgl_c (fg_aload) (fgl_c (fg_getf gc3_) (fgl_c (fg_iload) (fgl_c (fg_iload) (fgl_c (fg_aload) (fgl_c (fg_getf gc3_) (fgl_c (fg_iload) (fgl_c (fg_callv rfl) (fgl_c (fg_const) (fgl_c (fg_iret) (fgl_n))))))))))
theorem fgt_X3_closeInnermostScope : fgl_ P3_ Q3_ mt_X3_closeInnermostScope := by
  unfold mt_X3_closeInnermostScope
  exact fgl_c (fg_aload) (fgl_c (fg_getf gc3_) (fgl_c (fg_aload) (fgl_c (fg_getf gc3_) (fgl_c (fg_callv rfl) (fgl_c (fg_istore) (fgl_c (fg_aload) (fgl_c (fg_dup) (fgl_c (fg_getf gc3_) (fgl_c (fg_const) (fgl_c (fg_bin) (fgl_c (fg_putf) (fgl_c (fg_iload) (fgl_c (fg_iret) (fgl_n))))))))))))))
theorem fgt_X3_isIn : fgl_ P3_ Q3_ mt_X3_isIn := by
  unfold mt_X3_isIn
  exact fgl_c (fg_iload) (fgl_c (fg_const) (fgl_c (fg_iload) (fgl_c (fg_bin) (fgl_c (fg_bin) (fgl_c (fg_if) (fgl_c (fg_const) (fgl_c (fg_goto) (fgl_c (fg_const) (fgl_c (fg_zret) (fgl_n))))))))))
theorem fga3_0 : ∀ k, 0 ≤ k → k < 35 → fgl_ P3_ Q3_ (mv_tab k) := by
  intro k h1 h2
  rcases (show k = 0 ∨ k = 1 ∨ k = 2 ∨ k = 3 ∨ k = 4 ∨ k = 5 ∨ k = 6 ∨ k = 7 ∨ k = 8 ∨ k = 9 ∨ k = 10 ∨ k = 11 ∨ k = 12 ∨ k = 13 ∨ k = 14 ∨ k = 15 ∨ k = 16 ∨ k = 17 ∨ k = 18 ∨ k = 19 ∨ k = 20 ∨ k = 21 ∨ k = 22 ∨ k = 23 ∨ k = 24 ∨ k = 25 ∨ k = 26 ∨ k = 27 ∨ k = 28 ∨ k = 29 ∨ k = 30 ∨ k = 31 ∨ k = 32 ∨ k = 33 ∨ k = 34 by omega) with rfl | rfl | rfl | rfl | rfl | rfl | rfl | rfl | rfl | rfl | rfl | rfl | rfl | rfl | rfl | rfl | rfl | rfl | rfl | rfl | rfl | rfl | rfl | rfl | rfl | rfl | rfl | rfl | rfl | rfl | rfl | rfl | rfl | rfl | rfl
  · exact fgt_X0_append
  · exact fgt_X0_appendDependency
  · exact fgt_X0_hasDependency
  · exact fgt_X0_partOf
  · exact fgt_X0_turnProfile
  · exact fgt_X0_isActive
  · exact fgt_X0_isStarted
  · exact fgt_X0_provides
  · exact fgt_X0_candidateMask
  · exact fgt_X0_candidatesFor
  · exact fgt_X0_choiceAmong
  · exact fgt_X0_singleIn
  · exact fgt_X0_primaryMask
  · exact fgt_X0_directNeeds
  · exact fgt_X0_needsOfDependency
  · exact fgt_X0_allNeeds
  · exact fgt_X1_remember
  · exact fgt_X2_append
  · exact fgt_X2_hasInjection
  · exact fgt_X2_destroyAllIn
  · exact fgt_X2_destroyPrototypesFrom
  · exact fgt_X2_destroyFrom
  · exact fgt_X2_destroy
  · exact fgt_X2_recordEvent
  · exact fgt_X3_add
  · exact fgt_X3_set
  · exact fgt_X3_property
  · exact fgt_X3_depend
  · exact fgt_X3_clear
  · exact fgt_X3_dependency
  · exact fgt_X3_profile
  · exact fgt_X3_components
  · exact fgt_X3_candidates
  · exact fgt_X3_chosen
  · exact fgt_X3_problem
theorem fga3_1 : ∀ k, 35 ≤ k → k < 70 → fgl_ P3_ Q3_ (mv_tab k) := by
  intro k h1 h2
  rcases (show k = 35 ∨ k = 36 ∨ k = 37 ∨ k = 38 ∨ k = 39 ∨ k = 40 ∨ k = 41 ∨ k = 42 ∨ k = 43 ∨ k = 44 ∨ k = 45 ∨ k = 46 ∨ k = 47 ∨ k = 48 ∨ k = 49 ∨ k = 50 ∨ k = 51 ∨ k = 52 ∨ k = 53 ∨ k = 54 ∨ k = 55 ∨ k = 56 ∨ k = 57 ∨ k = 58 ∨ k = 59 ∨ k = 60 ∨ k = 61 ∨ k = 62 ∨ k = 63 ∨ k = 64 ∨ k = 65 ∨ k = 66 ∨ k = 67 ∨ k = 68 ∨ k = 69 by omega) with rfl | rfl | rfl | rfl | rfl | rfl | rfl | rfl | rfl | rfl | rfl | rfl | rfl | rfl | rfl | rfl | rfl | rfl | rfl | rfl | rfl | rfl | rfl | rfl | rfl | rfl | rfl | rfl | rfl | rfl | rfl | rfl | rfl | rfl | rfl
  · exact fgt_X3_needs
  · exact fgt_X3_resolve
  · exact fgt_X3_provide
  · exact fgt_X3_start
  · exact fgt_X3_begin
  · exact fgt_X3_end
  · exact fgt_X3_close
  · exact fgt_X3_instances
  · exact fgt_X3_componentOf
  · exact fgt_X3_isAlive
  · exact fgt_X3_injected
  · exact fgt_X3_event
  · exact fgt_X3_failureKind
  · exact fgt_X3_failureDetail
  · exact fgt_X3_failureChain
  · exact fgt_X3_isBetween
  · exact fgt_X3_isPropertyValue
  · exact fgt_X3_requireComponent
  · exact fgt_X3_requireInstance
  · exact fgt_X3_requireProperty
  · exact fgt_X3_requireTypeAndQualifier
  · exact fgt_X3_tryConstruction
  · exact fgt_X3_tryDependency
  · exact fgt_X3_tryEach
  · exact fgt_X3_requestOrThrow
  · exact fgt_X3_request
  · exact fgt_X3_obtain
  · exact fgt_X3_construct
  · exact fgt_X3_isUnderConstruction
  · exact fgt_X3_inject
  · exact fgt_X3_obtainEach
  · exact fgt_X3_complete
  · exact fgt_X3_recordFailure
  · exact fgt_X3_closeInnermostScope
  · exact fgt_X3_isIn
theorem fga3_ : ∀ k, Q3_ k = true → fgl_ P3_ Q3_ (mv_tab k) := by
  intro k h
  unfold Q3_ at h
  have h := Nat.le_of_ble_eq_true h
  rcases (show (0 ≤ k ∧ k < 35) ∨ (35 ≤ k ∧ k < 70) by omega) with q | q
  · exact fga3_0 k q.1 q.2
  · exact fga3_1 k q.1 q.2
theorem fgt_X4_thrown : fgl_ P4_ Q4_ mt_X4_thrown := by
  unfold mt_X4_thrown
  exact fgl_c (fg_aload) (fgl_c (fg_getf gc4_) (fgl_c (fg_iret) (fgl_n)))
theorem fgt_X4_in : fgl_ P4_ Q4_ mt_X4_in := by
  unfold mt_X4_in
  exact fgl_c (fg_iload) (fgl_c (fg_iload) (fgl_c (fg_icmp) (fgl_c (fg_iload) (fgl_c (fg_iload) (fgl_c (fg_icmp) (fgl_c (fg_const) (fgl_c (fg_goto) (fgl_c (fg_const) (fgl_c (fg_zret) (fgl_n))))))))))
theorem fgt_X4_isComponent : fgl_ P4_ Q4_ mt_X4_isComponent := by
  unfold mt_X4_isComponent
  exact fgl_c (fg_iload) (fgl_c (fg_const) (fgl_c (fg_aload) (fgl_c (fg_getf gc4_) (fgl_c (fg_const) (fgl_c (fg_bin) (fgl_c (fg_calls rfl) (fgl_c (fg_zret) (fgl_n))))))))
theorem fgt_X4_of : fgl_ P4_ Q4_ mt_X4_of := by
  unfold mt_X4_of
  exact fgl_c (fg_aload) (fgl_c (fg_getf gc4_) (fgl_c (fg_const) (fgl_c (fg_iload) (fgl_c (fg_bin) (fgl_c (fg_iload) (fgl_c (fg_bin) (fgl_c (fg_iald) (fgl_c (fg_iret) (fgl_n)))))))))
theorem fgt_X4_add : fgl_ P4_ Q4_ mt_X4_add := by
  unfold mt_X4_add
  exact fgl_c (fg_aload) (fgl_c (fg_iload) (fgl_c (fg_const) (fgl_c (fg_const) (fgl_c (fg_calls rfl) (fgl_c (fg_if) (fgl_c (fg_iload) (fgl_c (fg_const) (fgl_c (fg_const) (fgl_c (fg_calls rfl) (fgl_c (fg_if) (fgl_c (fg_const) (fgl_c (fg_goto) (fgl_c (fg_aload) (fgl_c (fg_getf gc4_) (fgl_c (fg_const) (fgl_c (fg_icmp) (fgl_c (fg_const) (fgl_c (fg_goto) (fgl_c (fg_const) (fgl_c (fg_putf) (fgl_c (fg_aload) (fgl_c (fg_getf gc4_) (fgl_c (fg_if) (fgl_c (fg_const) (fgl_c (fg_iret) (fgl_c (fg_aload) (fgl_c (fg_getf gc4_) (fgl_c (fg_const) (fgl_c (fg_aload) (fgl_c (fg_getf gc4_) (fgl_c (fg_bin) (fgl_c (fg_const) (fgl_c (fg_bin) (fgl_c (fg_iload) (fgl_c (fg_iast) (fgl_c (fg_aload) (fgl_c (fg_getf gc4_) (fgl_c (fg_const) (fgl_c (fg_aload) (fgl_c (fg_getf gc4_) (fgl_c (fg_bin) (fgl_c (fg_const) (fgl_c (fg_bin) (fgl_c (fg_iload) (fgl_c (fg_iast) (fgl_c (fg_aload) (fgl_c (fg_getf gc4_) (fgl_c (fg_const) (fgl_c (fg_aload) (fgl_c (fg_getf gc4_) (fgl_c (fg_bin) (fgl_c (fg_const) (fgl_c (fg_bin) (fgl_c (fg_const) (fgl_c (fg_iast) (fgl_c (fg_aload) (fgl_c (fg_getf gc4_) (fgl_c (fg_const) (fgl_c (fg_aload) (fgl_c (fg_getf gc4_) (fgl_c (fg_bin) (fgl_c (fg_const) (fgl_c (fg_bin) (fgl_c (fg_const) (fgl_c (fg_iast) (fgl_c (fg_aload) (fgl_c (fg_getf gc4_) (fgl_c (fg_const) (fgl_c (fg_aload) (fgl_c (fg_getf gc4_) (fgl_c (fg_bin) (fgl_c (fg_const) (fgl_c (fg_bin) (fgl_c (fg_const) (fgl_c (fg_iast) (fgl_c (fg_aload) (fgl_c (fg_dup) (fgl_c (fg_getf gc4_) (fgl_c (fg_const) (fgl_c (fg_bin) (fgl_c (fg_putf) (fgl_c (fg_aload) (fgl_c (fg_getf gc4_) (fgl_c (fg_const) (fgl_c (fg_bin) (fgl_c (fg_iret) (fgl_n)))))))))))))))))))))))))))))))))))))))))))))))))))))))))))))))))))))))))))))))))))))))
theorem fgt_X4_isValue : fgl_ P4_ Q4_ mt_X4_isValue := by
  unfold mt_X4_isValue
  exact fgl_c (fg_iload) (fgl_c (fg_tsw) (fgl_c (fg_iload) (fgl_c (fg_const) (fgl_c (fg_const) (fgl_c (fg_calls rfl) (fgl_c (fg_zret) (fgl_c (fg_iload) (fgl_c (fg_const) (fgl_c (fg_const) (fgl_c (fg_calls rfl) (fgl_c (fg_zret) (fgl_c (fg_iload) (fgl_c (fg_const) (fgl_c (fg_const) (fgl_c (fg_calls rfl) (fgl_c (fg_zret) (fgl_c (fg_iload) (fgl_c (fg_const) (fgl_c (fg_const) (fgl_c (fg_calls rfl) (fgl_c (fg_zret) (fgl_c (fg_iload) (fgl_c (fg_const) (fgl_c (fg_const) (fgl_c (fg_calls rfl) (fgl_c (fg_zret) (fgl_c (fg_iload) (fgl_c (fg_const) (fgl_c (fg_const) (fgl_c (fg_calls rfl) (fgl_c (fg_zret) (fgl_n))))))))))))))))))))))))))))))))
theorem fgt_X4_set : fgl_ P4_ Q4_ mt_X4_set := by
  unfold mt_X4_set
  exact fgl_c (fg_aload) (fgl_c (fg_aload) (fgl_c (fg_iload) (fgl_c (fg_callv rfl) (fgl_c (fg_if) (fgl_c (fg_const) (fgl_c (fg_goto) (fgl_c (fg_iload) (fgl_c (fg_const) (fgl_c (fg_const) (fgl_c (fg_calls rfl) (fgl_c (fg_if) (fgl_c (fg_iload) (fgl_c (fg_iload) (fgl_c (fg_calls rfl) (fgl_c (fg_if) (fgl_c (fg_const) (fgl_c (fg_goto) (fgl_c (fg_const) (fgl_c (fg_putf) (fgl_c (fg_aload) (fgl_c (fg_getf gc4_) (fgl_c (fg_if) (fgl_c (fg_const) (fgl_c (fg_iret) (fgl_c (fg_aload) (fgl_c (fg_iload) (fgl_c (fg_iload) (fgl_c (fg_callv rfl) (fgl_c (fg_istore) (fgl_c (fg_aload) (fgl_c (fg_getf gc4_) (fgl_c (fg_const) (fgl_c (fg_iload) (fgl_c (fg_bin) (fgl_c (fg_iload) (fgl_c (fg_bin) (fgl_c (fg_iload) (fgl_c (fg_iast) (fgl_c (fg_iload) (fgl_c (fg_iret) (fgl_n)))))))))))))))))))))))))))))))))))))))))
theorem fgt_X4_property : fgl_ P4_ Q4_ mt_X4_property := by
  unfold mt_X4_property
  exact fgl_c (fg_aload) (fgl_c (fg_aload) (fgl_c (fg_iload) (fgl_c (fg_callv rfl) (fgl_c (fg_if) (fgl_c (fg_const) (fgl_c (fg_goto) (fgl_c (fg_iload) (fgl_c (fg_const) (fgl_c (fg_const) (fgl_c (fg_calls rfl) (fgl_c (fg_if) (fgl_c (fg_const) (fgl_c (fg_goto) (fgl_c (fg_const) (fgl_c (fg_putf) (fgl_c (fg_aload) (fgl_c (fg_getf gc4_) (fgl_c (fg_if) (fgl_c (fg_const) (fgl_c (fg_goto) (fgl_c (fg_aload) (fgl_c (fg_iload) (fgl_c (fg_iload) (fgl_c (fg_callv rfl) (fgl_c (fg_iret) (fgl_n))))))))))))))))))))))))))
theorem fgt_X4_isAsked : fgl_ P4_ Q4_ mt_X4_isAsked := by
  unfold mt_X4_isAsked
  exact fgl_c (fg_iload) (fgl_c (fg_const) (fgl_c (fg_const) (fgl_c (fg_calls rfl) (fgl_c (fg_if) (fgl_c (fg_iload) (fgl_c (fg_const) (fgl_c (fg_const) (fgl_c (fg_calls rfl) (fgl_c (fg_if) (fgl_c (fg_const) (fgl_c (fg_goto) (fgl_c (fg_const) (fgl_c (fg_zret) (fgl_n))))))))))))))
theorem fgt_X4_dependAt : fgl_ P4_ Q4_ mt_X4_dependAt := by
  unfold mt_X4_dependAt
  exact fgl_c (fg_aload) (fgl_c (fg_getf gc4_) (fgl_c (fg_const) (fgl_c (fg_iload) (fgl_c (fg_bin) (fgl_c (fg_const) (fgl_c (fg_iload) (fgl_c (fg_bin) (fgl_c (fg_bin) (fgl_c (fg_iload) (fgl_c (fg_bin) (fgl_c (fg_iald) (fgl_c (fg_iret) (fgl_n)))))))))))))
theorem fgt_X4_depend : fgl_ P4_ Q4_ mt_X4_depend := by
  unfold mt_X4_depend
  exact fgl_c (fg_aload) (fgl_c (fg_aload) (fgl_c (fg_iload) (fgl_c (fg_callv rfl) (fgl_c (fg_if) (fgl_c (fg_const) (fgl_c (fg_goto) (fgl_c (fg_iload) (fgl_c (fg_iload) (fgl_c (fg_calls rfl) (fgl_c (fg_if) (fgl_c (fg_iload) (fgl_c (fg_const) (fgl_c (fg_const) (fgl_c (fg_calls rfl) (fgl_c (fg_if) (fgl_c (fg_const) (fgl_c (fg_goto) (fgl_c (fg_aload) (fgl_c (fg_getf gc4_) (fgl_c (fg_iload) (fgl_c (fg_iald) (fgl_c (fg_const) (fgl_c (fg_icmp) (fgl_c (fg_const) (fgl_c (fg_goto) (fgl_c (fg_const) (fgl_c (fg_putf) (fgl_c (fg_aload) (fgl_c (fg_getf gc4_) (fgl_c (fg_if) (fgl_c (fg_const) (fgl_c (fg_iret) (fgl_c (fg_const) (fgl_c (fg_iload) (fgl_c (fg_bin) (fgl_c (fg_const) (fgl_c (fg_aload) (fgl_c (fg_getf gc4_) (fgl_c (fg_iload) (fgl_c (fg_iald) (fgl_c (fg_bin) (fgl_c (fg_bin) (fgl_c (fg_istore) (fgl_c (fg_aload) (fgl_c (fg_getf gc4_) (fgl_c (fg_iload) (fgl_c (fg_iload) (fgl_c (fg_iast) (fgl_c (fg_aload) (fgl_c (fg_getf gc4_) (fgl_c (fg_iload) (fgl_c (fg_const) (fgl_c (fg_bin) (fgl_c (fg_iload) (fgl_c (fg_iast) (fgl_c (fg_aload) (fgl_c (fg_getf gc4_) (fgl_c (fg_iload) (fgl_c (fg_const) (fgl_c (fg_bin) (fgl_c (fg_iload) (fgl_c (fg_iast) (fgl_c (fg_aload) (fgl_c (fg_getf gc4_) (fgl_c (fg_iload) (fgl_c (fg_dup2) (fgl_c (fg_iald) (fgl_c (fg_const) (fgl_c (fg_bin) (fgl_c (fg_iast) (fgl_c (fg_aload) (fgl_c (fg_getf gc4_) (fgl_c (fg_iload) (fgl_c (fg_iald) (fgl_c (fg_const) (fgl_c (fg_bin) (fgl_c (fg_iret) (fgl_n))))))))))))))))))))))))))))))))))))))))))))))))))))))))))))))))))))))))))))))
theorem fgt_X4_clear : fgl_ P4_ Q4_ mt_X4_clear := by
  unfold mt_X4_clear
  exact fgl_c (fg_aload) (fgl_c (fg_aload) (fgl_c (fg_iload) (fgl_c (fg_callv rfl) (fgl_c (fg_if) (fgl_c (fg_const) (fgl_c (fg_goto) (fgl_c (fg_const) (fgl_c (fg_putf) (fgl_c (fg_aload) (fgl_c (fg_getf gc4_) (fgl_c (fg_if) (fgl_c (fg_const) (fgl_c (fg_iret) (fgl_c (fg_aload) (fgl_c (fg_getf gc4_) (fgl_c (fg_iload) (fgl_c (fg_iald) (fgl_c (fg_istore) (fgl_c (fg_aload) (fgl_c (fg_getf gc4_) (fgl_c (fg_iload) (fgl_c (fg_const) (fgl_c (fg_iast) (fgl_c (fg_iload) (fgl_c (fg_iret) (fgl_n))))))))))))))))))))))))))
theorem fgt_X4_dependency : fgl_ P4_ Q4_ mt_X4_dependency := by
  unfold mt_X4_dependency
  exact fgl_c (fg_aload) (fgl_c (fg_aload) (fgl_c (fg_iload) (fgl_c (fg_callv rfl) (fgl_c (fg_if) (fgl_c (fg_const) (fgl_c (fg_goto) (fgl_c (fg_iload) (fgl_c (fg_const) (fgl_c (fg_const) (fgl_c (fg_calls rfl) (fgl_c (fg_if) (fgl_c (fg_const) (fgl_c (fg_goto) (fgl_c (fg_const) (fgl_c (fg_putf) (fgl_c (fg_aload) (fgl_c (fg_getf gc4_) (fgl_c (fg_if) (fgl_c (fg_const) (fgl_c (fg_iret) (fgl_c (fg_iload) (fgl_c (fg_const) (fgl_c (fg_icmp) (fgl_c (fg_aload) (fgl_c (fg_getf gc4_) (fgl_c (fg_iload) (fgl_c (fg_iald) (fgl_c (fg_goto) (fgl_c (fg_iload) (fgl_c (fg_const) (fgl_c (fg_aload) (fgl_c (fg_getf gc4_) (fgl_c (fg_iload) (fgl_c (fg_iald) (fgl_c (fg_const) (fgl_c (fg_bin) (fgl_c (fg_calls rfl) (fgl_c (fg_if) (fgl_c (fg_aload) (fgl_c (fg_iload) (fgl_c (fg_iload) (fgl_c (fg_iload) (fgl_c (fg_callv rfl) (fgl_c (fg_goto) (fgl_c (fg_const) (fgl_c (fg_iret) (fgl_n)))))))))))))))))))))))))))))))))))))))))))))))
theorem fgt_X4_profile : fgl_ P4_ Q4_ mt_X4_profile := by
  unfold mt_X4_profile
  exact fgl_c (fg_aload) (fgl_c (fg_iload) (fgl_c (fg_const) (fgl_c (fg_const) (fgl_c (fg_calls rfl) (fgl_c (fg_if) (fgl_c (fg_const) (fgl_c (fg_goto) (fgl_c (fg_const) (fgl_c (fg_putf) (fgl_c (fg_aload) (fgl_c (fg_getf gc4_) (fgl_c (fg_if) (fgl_c (fg_const) (fgl_c (fg_zret) (fgl_c (fg_aload) (fgl_c (fg_getf gc4_) (fgl_c (fg_iload) (fgl_c (fg_bin) (fgl_c (fg_const) (fgl_c (fg_bin) (fgl_c (fg_const) (fgl_c (fg_icmp) (fgl_c (fg_const) (fgl_c (fg_goto) (fgl_c (fg_const) (fgl_c (fg_istore) (fgl_c (fg_aload) (fgl_c (fg_iload) (fgl_c (fg_if) (fgl_c (fg_aload) (fgl_c (fg_getf gc4_) (fgl_c (fg_const) (fgl_c (fg_iload) (fgl_c (fg_bin) (fgl_c (fg_bin) (fgl_c (fg_goto) (fgl_c (fg_aload) (fgl_c (fg_getf gc4_) (fgl_c (fg_const) (fgl_c (fg_iload) (fgl_c (fg_bin) (fgl_c (fg_const) (fgl_c (fg_bin) (fgl_c (fg_bin) (fgl_c (fg_putf) (fgl_c (fg_iload) (fgl_c (fg_zret) (fgl_n))))))))))))))))))))))))))))))))))))))))))))))))
theorem fgt_X4_components : fgl_ P4_ Q4_ mt_X4_components := by
  unfold mt_X4_components
  exact fgl_c (fg_aload) (fgl_c (fg_const) (fgl_c (fg_putf) (fgl_c (fg_aload) (fgl_c (fg_getf gc4_) (fgl_c (fg_iret) (fgl_n))))))
theorem fgt_X4_isActive : fgl_ P4_ Q4_ mt_X4_isActive := by
  unfold mt_X4_isActive
  exact fgl_c (fg_aload) (fgl_c (fg_iload) (fgl_c (fg_const) (fgl_c (fg_callv rfl) (fgl_c (fg_const) (fgl_c (fg_icmp) (fgl_c (fg_aload) (fgl_c (fg_getf gc4_) (fgl_c (fg_aload) (fgl_c (fg_iload) (fgl_c (fg_const) (fgl_c (fg_callv rfl) (fgl_c (fg_bin) (fgl_c (fg_const) (fgl_c (fg_bin) (fgl_c (fg_const) (fgl_c (fg_icmp) (fgl_c (fg_const) (fgl_c (fg_goto) (fgl_c (fg_const) (fgl_c (fg_zret) (fgl_n)))))))))))))))))))))
theorem fgt_X4_candidatesFor : fgl_ P4_ Q4_ mt_X4_candidatesFor := by
  unfold mt_X4_candidatesFor
  exact fgl_c (fg_const) (fgl_c (fg_istore) (fgl_c (fg_const) (fgl_c (fg_istore) (fgl_c (fg_iload) (fgl_c (fg_aload) (fgl_c (fg_getf gc4_) (fgl_c (fg_icmp) (fgl_c (fg_aload) (fgl_c (fg_iload) (fgl_c (fg_callv rfl) (fgl_c (fg_if) (fgl_c (fg_aload) (fgl_c (fg_iload) (fgl_c (fg_const) (fgl_c (fg_callv rfl) (fgl_c (fg_iload) (fgl_c (fg_bin) (fgl_c (fg_const) (fgl_c (fg_bin) (fgl_c (fg_const) (fgl_c (fg_icmp) (fgl_c (fg_iload) (fgl_c (fg_const) (fgl_c (fg_icmp) (fgl_c (fg_aload) (fgl_c (fg_iload) (fgl_c (fg_const) (fgl_c (fg_callv rfl) (fgl_c (fg_iload) (fgl_c (fg_icmp) (fgl_c (fg_const) (fgl_c (fg_goto) (fgl_c (fg_const) (fgl_c (fg_istore) (fgl_c (fg_iload) (fgl_c (fg_iload) (fgl_c (fg_if) (fgl_c (fg_const) (fgl_c (fg_iload) (fgl_c (fg_bin) (fgl_c (fg_goto) (fgl_c (fg_const) (fgl_c (fg_bin) (fgl_c (fg_istore) (fgl_c (fg_iinc) (fgl_c (fg_goto) (fgl_c (fg_iload) (fgl_c (fg_iret) (fgl_n)))))))))))))))))))))))))))))))))))))))))))))))))
theorem fgt_X4_bits : fgl_ P4_ Q4_ mt_X4_bits := by
  unfold mt_X4_bits
  exact fgl_c (fg_const) (fgl_c (fg_istore) (fgl_c (fg_const) (fgl_c (fg_istore) (fgl_c (fg_iload) (fgl_c (fg_const) (fgl_c (fg_icmp) (fgl_c (fg_iload) (fgl_c (fg_iload) (fgl_c (fg_iload) (fgl_c (fg_bin) (fgl_c (fg_const) (fgl_c (fg_bin) (fgl_c (fg_bin) (fgl_c (fg_istore) (fgl_c (fg_iinc) (fgl_c (fg_goto) (fgl_c (fg_iload) (fgl_c (fg_iret) (fgl_n)))))))))))))))))))
theorem fgt_X4_lowest : fgl_ P4_ Q4_ mt_X4_lowest := by
  unfold mt_X4_lowest
  exact fgl_c (fg_const) (fgl_c (fg_istore) (fgl_c (fg_iload) (fgl_c (fg_iload) (fgl_c (fg_bin) (fgl_c (fg_const) (fgl_c (fg_bin) (fgl_c (fg_if) (fgl_c (fg_iinc) (fgl_c (fg_goto) (fgl_c (fg_iload) (fgl_c (fg_iret) (fgl_n))))))))))))
theorem fgt_X4_choose : fgl_ P4_ Q4_ mt_X4_choose := by
  unfold mt_X4_choose
  exact fgl_c (fg_aload) (fgl_c (fg_iload) (fgl_c (fg_iload) (fgl_c (fg_callv rfl) (fgl_c (fg_istore) (fgl_c (fg_iload) (fgl_c (fg_if) (fgl_c (fg_const) (fgl_c (fg_iret) (fgl_c (fg_iload) (fgl_c (fg_calls rfl) (fgl_c (fg_const) (fgl_c (fg_icmp) (fgl_c (fg_iload) (fgl_c (fg_calls rfl) (fgl_c (fg_iret) (fgl_c (fg_const) (fgl_c (fg_istore) (fgl_c (fg_const) (fgl_c (fg_istore) (fgl_c (fg_iload) (fgl_c (fg_aload) (fgl_c (fg_getf gc4_) (fgl_c (fg_icmp) (fgl_c (fg_iload) (fgl_c (fg_iload) (fgl_c (fg_iload) (fgl_c (fg_bin) (fgl_c (fg_const) (fgl_c (fg_bin) (fgl_c (fg_const) (fgl_c (fg_icmp) (fgl_c (fg_aload) (fgl_c (fg_iload) (fgl_c (fg_const) (fgl_c (fg_callv rfl) (fgl_c (fg_const) (fgl_c (fg_icmp) (fgl_c (fg_const) (fgl_c (fg_iload) (fgl_c (fg_bin) (fgl_c (fg_goto) (fgl_c (fg_const) (fgl_c (fg_bin) (fgl_c (fg_istore) (fgl_c (fg_iinc) (fgl_c (fg_goto) (fgl_c (fg_iload) (fgl_c (fg_calls rfl) (fgl_c (fg_const) (fgl_c (fg_icmp) (fgl_c (fg_iload) (fgl_c (fg_calls rfl) (fgl_c (fg_goto) (fgl_c (fg_const) (fgl_c (fg_iret) (fgl_n))))))))))))))))))))))))))))))))))))))))))))))))))))))))
theorem fgt_X4_candidates : fgl_ P4_ Q4_ mt_X4_candidates := by
  unfold mt_X4_candidates
  exact fgl_c (fg_aload) (fgl_c (fg_iload) (fgl_c (fg_iload) (fgl_c (fg_calls rfl) (fgl_c (fg_if) (fgl_c (fg_const) (fgl_c (fg_goto) (fgl_c (fg_const) (fgl_c (fg_putf) (fgl_c (fg_aload) (fgl_c (fg_getf gc4_) (fgl_c (fg_if) (fgl_c (fg_const) (fgl_c (fg_goto) (fgl_c (fg_aload) (fgl_c (fg_iload) (fgl_c (fg_iload) (fgl_c (fg_callv rfl) (fgl_c (fg_iret) (fgl_n)))))))))))))))))))
theorem fgt_X4_chosen : fgl_ P4_ Q4_ mt_X4_chosen := by
  unfold mt_X4_chosen
  exact fgl_c (fg_aload) (fgl_c (fg_iload) (fgl_c (fg_iload) (fgl_c (fg_calls rfl) (fgl_c (fg_if) (fgl_c (fg_const) (fgl_c (fg_goto) (fgl_c (fg_const) (fgl_c (fg_putf) (fgl_c (fg_aload) (fgl_c (fg_getf gc4_) (fgl_c (fg_if) (fgl_c (fg_const) (fgl_c (fg_iret) (fgl_c (fg_aload) (fgl_c (fg_iload) (fgl_c (fg_iload) (fgl_c (fg_callv rfl) (fgl_c (fg_istore) (fgl_c (fg_iload) (fgl_c (fg_if) (fgl_c (fg_const) (fgl_c (fg_goto) (fgl_c (fg_iload) (fgl_c (fg_iret) (fgl_n)))))))))))))))))))))))))
theorem fgt_X4_isInFrames : fgl_ P4_ Q4_ mt_X4_isInFrames := by
  unfold mt_X4_isInFrames
  exact fgl_c (fg_const) (fgl_c (fg_istore) (fgl_c (fg_const) (fgl_c (fg_istore) (fgl_c (fg_iload) (fgl_c (fg_aload) (fgl_c (fg_getf gc4_) (fgl_c (fg_icmp) (fgl_c (fg_iload) (fgl_c (fg_if) (fgl_c (fg_aload) (fgl_c (fg_getf gc4_) (fgl_c (fg_iload) (fgl_c (fg_iald) (fgl_c (fg_iload) (fgl_c (fg_icmp) (fgl_c (fg_const) (fgl_c (fg_goto) (fgl_c (fg_const) (fgl_c (fg_istore) (fgl_c (fg_iinc) (fgl_c (fg_goto) (fgl_c (fg_iload) (fgl_c (fg_zret) (fgl_n))))))))))))))))))))))))
theorem fgt_X4_push : fgl_ P4_ Q4_ mt_X4_push := by
  unfold mt_X4_push
  exact fgl_c (fg_aload) (fgl_c (fg_getf gc4_) (fgl_c (fg_aload) (fgl_c (fg_getf gc4_) (fgl_c (fg_iload) (fgl_c (fg_iast) (fgl_c (fg_aload) (fgl_c (fg_getf gc4_) (fgl_c (fg_aload) (fgl_c (fg_getf gc4_) (fgl_c (fg_const) (fgl_c (fg_iast) (fgl_c (fg_aload) (fgl_c (fg_getf gc4_) (fgl_c (fg_aload) (fgl_c (fg_getf gc4_) (fgl_c (fg_const) (fgl_c (fg_iast) (fgl_c (fg_aload) (fgl_c (fg_dup) (fgl_c (fg_getf gc4_) (fgl_c (fg_const) (fgl_c (fg_bin) (fgl_c (fg_putf) (fgl_c (fg_vret) (fgl_n)))))))))))))))))))))))))
theorem fgt_X4_wanted : fgl_ P4_ Q4_ mt_X4_wanted := by
  unfold mt_X4_wanted
  exact fgl_c (fg_aload) (fgl_c (fg_iload) (fgl_c (fg_iload) (fgl_c (fg_const) (fgl_c (fg_callv rfl) (fgl_c (fg_istore) (fgl_c (fg_aload) (fgl_c (fg_iload) (fgl_c (fg_iload) (fgl_c (fg_const) (fgl_c (fg_callv rfl) (fgl_c (fg_istore) (fgl_c (fg_aload) (fgl_c (fg_iload) (fgl_c (fg_iload) (fgl_c (fg_const) (fgl_c (fg_callv rfl) (fgl_c (fg_istore) (fgl_c (fg_iload) (fgl_c (fg_const) (fgl_c (fg_icmp) (fgl_c (fg_const) (fgl_c (fg_iret) (fgl_c (fg_iload) (fgl_c (fg_const) (fgl_c (fg_icmp) (fgl_c (fg_aload) (fgl_c (fg_iload) (fgl_c (fg_iload) (fgl_c (fg_callv rfl) (fgl_c (fg_iret) (fgl_c (fg_aload) (fgl_c (fg_iload) (fgl_c (fg_iload) (fgl_c (fg_callv rfl) (fgl_c (fg_istore) (fgl_c (fg_iload) (fgl_c (fg_if) (fgl_c (fg_const) (fgl_c (fg_iload) (fgl_c (fg_bin) (fgl_c (fg_goto) (fgl_c (fg_iload) (fgl_c (fg_const) (fgl_c (fg_icmp) (fgl_c (fg_iload) (fgl_c (fg_const) (fgl_c (fg_icmp) (fgl_c (fg_const) (fgl_c (fg_goto) (fgl_c (fg_iload) (fgl_c (fg_iret) (fgl_n))))))))))))))))))))))))))))))))))))))))))))))))))))
theorem fgt_X4_wouldGoOn : fgl_ P4_ Q4_ mt_X4_wouldGoOn := by
  unfold mt_X4_wouldGoOn
  exact fgl_c (fg_aload) (fgl_c (fg_getf gc4_) (fgl_c (fg_const) (fgl_c (fg_bin) (fgl_c (fg_istore) (fgl_c (fg_aload) (fgl_c (fg_getf gc4_) (fgl_c (fg_iload) (fgl_c (fg_iald) (fgl_c (fg_if) (fgl_c (fg_aload) (fgl_c (fg_getf gc4_) (fgl_c (fg_iload) (fgl_c (fg_iald) (fgl_c (fg_calls rfl) (fgl_c (fg_istore) (fgl_c (fg_aload) (fgl_c (fg_getf gc4_) (fgl_c (fg_iload) (fgl_c (fg_dup2) (fgl_c (fg_iald) (fgl_c (fg_const) (fgl_c (fg_iload) (fgl_c (fg_bin) (fgl_c (fg_const) (fgl_c (fg_bin) (fgl_c (fg_bin) (fgl_c (fg_iast) (fgl_c (fg_aload) (fgl_c (fg_getf gc4_) (fgl_c (fg_iload) (fgl_c (fg_bin) (fgl_c (fg_const) (fgl_c (fg_bin) (fgl_c (fg_const) (fgl_c (fg_icmp) (fgl_c (fg_const) (fgl_c (fg_iret) (fgl_c (fg_aload) (fgl_c (fg_iload) (fgl_c (fg_callv rfl) (fgl_c (fg_if) (fgl_c (fg_const) (fgl_c (fg_iret) (fgl_c (fg_aload) (fgl_c (fg_iload) (fgl_c (fg_callv rfl) (fgl_c (fg_const) (fgl_c (fg_iret) (fgl_c (fg_aload) (fgl_c (fg_getf gc4_) (fgl_c (fg_iload) (fgl_c (fg_iald) (fgl_c (fg_aload) (fgl_c (fg_getf gc4_) (fgl_c (fg_aload) (fgl_c (fg_getf gc4_) (fgl_c (fg_iload) (fgl_c (fg_iald) (fgl_c (fg_iald) (fgl_c (fg_icmp) (fgl_c (fg_aload) (fgl_c (fg_dup) (fgl_c (fg_getf gc4_) (fgl_c (fg_const) (fgl_c (fg_aload) (fgl_c (fg_getf gc4_) (fgl_c (fg_iload) (fgl_c (fg_iald) (fgl_c (fg_bin) (fgl_c (fg_bin) (fgl_c (fg_putf) (fgl_c (fg_aload) (fgl_c (fg_dup) (fgl_c (fg_getf gc4_) (fgl_c (fg_const) (fgl_c (fg_bin) (fgl_c (fg_putf) (fgl_c (fg_const) (fgl_c (fg_iret) (fgl_c (fg_aload) (fgl_c (fg_aload) (fgl_c (fg_getf gc4_) (fgl_c (fg_iload) (fgl_c (fg_iald) (fgl_c (fg_aload) (fgl_c (fg_getf gc4_) (fgl_c (fg_iload) (fgl_c (fg_iald) (fgl_c (fg_callv rfl) (fgl_c (fg_istore) (fgl_c (fg_aload) (fgl_c (fg_getf gc4_) (fgl_c (fg_iload) (fgl_c (fg_dup2) (fgl_c (fg_iald) (fgl_c (fg_const) (fgl_c (fg_bin) (fgl_c (fg_iast) (fgl_c (fg_iload) (fgl_c (fg_if) (fgl_c (fg_iload) (fgl_c (fg_neg) (fgl_c (fg_iret) (fgl_c (fg_aload) (fgl_c (fg_getf gc4_) (fgl_c (fg_iload) (fgl_c (fg_iload) (fgl_c (fg_iast) (fgl_c (fg_const) (fgl_c (fg_iret) (fgl_n)))))))))))))))))))))))))))))))))))))))))))))))))))))))))))))))))))))))))))))))))))))))))))))))))))))))))))))))
theorem fgt_X4_problem : fgl_ P4_ Q4_ mt_X4_problem := by
  unfold mt_X4_problem
  exact fgl_c (fg_aload) (fgl_c (fg_aload) (fgl_c (fg_iload) (fgl_c (fg_callv rfl) (fgl_c (fg_if) (fgl_c (fg_const) (fgl_c (fg_goto) (fgl_c (fg_const) (fgl_c (fg_putf) (fgl_c (fg_aload) (fgl_c (fg_getf gc4_) (fgl_c (fg_if) (fgl_c (fg_const) (fgl_c (fg_iret) (fgl_c (fg_aload) (fgl_c (fg_const) (fgl_c (fg_putf) (fgl_c (fg_aload) (fgl_c (fg_const) (fgl_c (fg_putf) (fgl_c (fg_aload) (fgl_c (fg_iload) (fgl_c (fg_callv rfl) (fgl_c (fg_const) (fgl_c (fg_istore) (fgl_c (fg_aload) (fgl_c (fg_getf gc4_) (fgl_c (fg_if) (fgl_c (fg_iload) (fgl_c (fg_if) (fgl_c (fg_aload) (fgl_c (fg_callv rfl) (fgl_c (fg_istore) (fgl_c (fg_goto) (fgl_c (fg_aload) (fgl_c (fg_const) (fgl_c (fg_putf) (fgl_c (fg_iload) (fgl_c (fg_iret) (fgl_n)))))))))))))))))))))))))))))))))))))))
theorem fgt_X4_directly : fgl_ P4_ Q4_ mt_X4_directly := by
  unfold mt_X4_directly
  exact fgl_c (fg_const) (fgl_c (fg_istore) (fgl_c (fg_const) (fgl_c (fg_istore) (fgl_c (fg_iload) (fgl_c (fg_aload) (fgl_c (fg_getf gc4_) (fgl_c (fg_iload) (fgl_c (fg_iald) (fgl_c (fg_icmp) (fgl_c (fg_aload) (fgl_c (fg_iload) (fgl_c (fg_iload) (fgl_c (fg_callv rfl) (fgl_c (fg_istore) (fgl_c (fg_iload) (fgl_c (fg_iload) (fgl_c (fg_if) (fgl_c (fg_iload) (fgl_c (fg_goto) (fgl_c (fg_const) (fgl_c (fg_bin) (fgl_c (fg_istore) (fgl_c (fg_iinc) (fgl_c (fg_goto) (fgl_c (fg_iload) (fgl_c (fg_iret) (fgl_n)))))))))))))))))))))))))))
theorem fgt_X4_needs : fgl_ P4_ Q4_ mt_X4_needs := by
  unfold mt_X4_needs
  exact fgl_c (fg_aload) (fgl_c (fg_aload) (fgl_c (fg_iload) (fgl_c (fg_callv rfl) (fgl_c (fg_if) (fgl_c (fg_const) (fgl_c (fg_goto) (fgl_c (fg_const) (fgl_c (fg_putf) (fgl_c (fg_aload) (fgl_c (fg_getf gc4_) (fgl_c (fg_if) (fgl_c (fg_const) (fgl_c (fg_iret) (fgl_c (fg_aload) (fgl_c (fg_iload) (fgl_c (fg_callv rfl) (fgl_c (fg_istore) (fgl_c (fg_const) (fgl_c (fg_istore) (fgl_c (fg_iload) (fgl_c (fg_aload) (fgl_c (fg_getf gc4_) (fgl_c (fg_icmp) (fgl_c (fg_const) (fgl_c (fg_istore) (fgl_c (fg_iload) (fgl_c (fg_aload) (fgl_c (fg_getf gc4_) (fgl_c (fg_icmp) (fgl_c (fg_iload) (fgl_c (fg_iload) (fgl_c (fg_iload) (fgl_c (fg_bin) (fgl_c (fg_const) (fgl_c (fg_bin) (fgl_c (fg_const) (fgl_c (fg_icmp) (fgl_c (fg_aload) (fgl_c (fg_iload) (fgl_c (fg_callv rfl) (fgl_c (fg_goto) (fgl_c (fg_const) (fgl_c (fg_bin) (fgl_c (fg_istore) (fgl_c (fg_iinc) (fgl_c (fg_goto) (fgl_c (fg_iinc) (fgl_c (fg_goto) (fgl_c (fg_iload) (fgl_c (fg_iret) (fgl_n)))))))))))))))))))))))))))))))))))))))))))))))))))
theorem fgt_X4_fail : fgl_ P4_ Q4_ mt_X4_fail := by
  unfold mt_X4_fail
  exact fgl_c (fg_aload) (fgl_c (fg_iload) (fgl_c (fg_putf) (fgl_c (fg_aload) (fgl_c (fg_iload) (fgl_c (fg_putf) (fgl_c (fg_vret) (fgl_n)))))))
theorem fgt_X4_construct : fgl_ P4_ Q4_ mt_X4_construct := by
  unfold mt_X4_construct
  exact fgl_c (fg_aload) (fgl_c (fg_iload) (fgl_c (fg_callv rfl) (fgl_c (fg_if) (fgl_c (fg_aload) (fgl_c (fg_const) (fgl_c (fg_iload) (fgl_c (fg_callv rfl) (fgl_c (fg_vret) (fgl_c (fg_aload) (fgl_c (fg_iload) (fgl_c (fg_callv rfl) (fgl_c (fg_aload) (fgl_c (fg_getf gc4_) (fgl_c (fg_aload) (fgl_c (fg_getf gc4_) (fgl_c (fg_const) (fgl_c (fg_bin) (fgl_c (fg_iload) (fgl_c (fg_iast) (fgl_c (fg_aload) (fgl_c (fg_getf gc4_) (fgl_c (fg_aload) (fgl_c (fg_getf gc4_) (fgl_c (fg_const) (fgl_c (fg_bin) (fgl_c (fg_const) (fgl_c (fg_zast) (fgl_c (fg_vret) (fgl_n)))))))))))))))))))))))))))))
theorem fgt_X4_living : fgl_ P4_ Q4_ mt_X4_living := by
  unfold mt_X4_living
  exact fgl_c (fg_const) (fgl_c (fg_istore) (fgl_c (fg_const) (fgl_c (fg_istore) (fgl_c (fg_iload) (fgl_c (fg_aload) (fgl_c (fg_getf gc4_) (fgl_c (fg_icmp) (fgl_c (fg_aload) (fgl_c (fg_getf gc4_) (fgl_c (fg_iload) (fgl_c (fg_zald) (fgl_c (fg_if) (fgl_c (fg_aload) (fgl_c (fg_getf gc4_) (fgl_c (fg_iload) (fgl_c (fg_iald) (fgl_c (fg_iload) (fgl_c (fg_icmp) (fgl_c (fg_aload) (fgl_c (fg_getf gc4_) (fgl_c (fg_iload) (fgl_c (fg_iald) (fgl_c (fg_iload) (fgl_c (fg_icmp) (fgl_c (fg_iload) (fgl_c (fg_if) (fgl_c (fg_aload) (fgl_c (fg_getf gc4_) (fgl_c (fg_iload) (fgl_c (fg_iald) (fgl_c (fg_aload) (fgl_c (fg_getf gc4_) (fgl_c (fg_icmp) (fgl_c (fg_const) (fgl_c (fg_goto) (fgl_c (fg_const) (fgl_c (fg_istore) (fgl_c (fg_iload) (fgl_c (fg_if) (fgl_c (fg_iload) (fgl_c (fg_goto) (fgl_c (fg_iload) (fgl_c (fg_istore) (fgl_c (fg_iinc) (fgl_c (fg_goto) (fgl_c (fg_iload) (fgl_c (fg_iret) (fgl_n))))))))))))))))))))))))))))))))))))))))))))))))
theorem fgt_X4_obtain : fgl_ P4_ Q4_ mt_X4_obtain := by
  unfold mt_X4_obtain
  exact fgl_c (fg_aload) (fgl_c (fg_iload) (fgl_c (fg_const) (fgl_c (fg_callv rfl) (fgl_c (fg_istore) (fgl_c (fg_aload) (fgl_c (fg_const) (fgl_c (fg_putf) (fgl_c (fg_iload) (fgl_c (fg_const) (fgl_c (fg_icmp) (fgl_c (fg_aload) (fgl_c (fg_getf gc4_) (fgl_c (fg_if) (fgl_c (fg_aload) (fgl_c (fg_const) (fgl_c (fg_iload) (fgl_c (fg_callv rfl) (fgl_c (fg_vret) (fgl_c (fg_aload) (fgl_c (fg_iload) (fgl_c (fg_const) (fgl_c (fg_icmp) (fgl_c (fg_const) (fgl_c (fg_goto) (fgl_c (fg_aload) (fgl_c (fg_iload) (fgl_c (fg_iload) (fgl_c (fg_callv rfl) (fgl_c (fg_putf) (fgl_c (fg_aload) (fgl_c (fg_getf gc4_) (fgl_c (fg_if) (fgl_c (fg_aload) (fgl_c (fg_iload) (fgl_c (fg_iload) (fgl_c (fg_callv rfl) (fgl_c (fg_vret) (fgl_n))))))))))))))))))))))))))))))))))))))
theorem fgt_X4_inject : fgl_ P4_ Q4_ mt_X4_inject := by
  unfold mt_X4_inject
  exact fgl_c (fg_aload) (fgl_c (fg_getf gc4_) (fgl_c (fg_const) (fgl_c (fg_iload) (fgl_c (fg_bin) (fgl_c (fg_aload) (fgl_c (fg_getf gc4_) (fgl_c (fg_iload) (fgl_c (fg_iald) (fgl_c (fg_bin) (fgl_c (fg_iload) (fgl_c (fg_iast) (fgl_c (fg_aload) (fgl_c (fg_getf gc4_) (fgl_c (fg_iload) (fgl_c (fg_dup2) (fgl_c (fg_iald) (fgl_c (fg_const) (fgl_c (fg_bin) (fgl_c (fg_iast) (fgl_c (fg_vret) (fgl_n)))))))))))))))))))))
theorem fgt_X4_serve : fgl_ P4_ Q4_ mt_X4_serve := by
  unfold mt_X4_serve
  exact fgl_c (fg_aload) (fgl_c (fg_getf gc4_) (fgl_c (fg_iload) (fgl_c (fg_iald) (fgl_c (fg_istore) (fgl_c (fg_aload) (fgl_c (fg_getf gc4_) (fgl_c (fg_iload) (fgl_c (fg_iald) (fgl_c (fg_istore) (fgl_c (fg_aload) (fgl_c (fg_iload) (fgl_c (fg_iload) (fgl_c (fg_const) (fgl_c (fg_callv rfl) (fgl_c (fg_istore) (fgl_c (fg_aload) (fgl_c (fg_iload) (fgl_c (fg_iload) (fgl_c (fg_callv rfl) (fgl_c (fg_istore) (fgl_c (fg_iload) (fgl_c (fg_if) (fgl_c (fg_aload) (fgl_c (fg_iload) (fgl_c (fg_neg) (fgl_c (fg_aload) (fgl_c (fg_iload) (fgl_c (fg_iload) (fgl_c (fg_const) (fgl_c (fg_callv rfl) (fgl_c (fg_callv rfl) (fgl_c (fg_goto) (fgl_c (fg_iload) (fgl_c (fg_if) (fgl_c (fg_aload) (fgl_c (fg_iload) (fgl_c (fg_iload) (fgl_c (fg_const) (fgl_c (fg_icmp) (fgl_c (fg_const) (fgl_c (fg_goto) (fgl_c (fg_const) (fgl_c (fg_callv rfl) (fgl_c (fg_goto) (fgl_c (fg_aload) (fgl_c (fg_getf gc4_) (fgl_c (fg_iload) (fgl_c (fg_iload) (fgl_c (fg_iast) (fgl_c (fg_aload) (fgl_c (fg_getf gc4_) (fgl_c (fg_iload) (fgl_c (fg_iload) (fgl_c (fg_calls rfl) (fgl_c (fg_iast) (fgl_c (fg_aload) (fgl_c (fg_getf gc4_) (fgl_c (fg_iload) (fgl_c (fg_const) (fgl_c (fg_zast) (fgl_c (fg_aload) (fgl_c (fg_iload) (fgl_c (fg_calls rfl) (fgl_c (fg_callv rfl) (fgl_c (fg_vret) (fgl_n))))))))))))))))))))))))))))))))))))))))))))))))))))))))))))))))))
theorem fgt_X4_receive : fgl_ P4_ Q4_ mt_X4_receive := by
  unfold mt_X4_receive
  exact fgl_c (fg_aload) (fgl_c (fg_getf gc4_) (fgl_c (fg_iload) (fgl_c (fg_dup2) (fgl_c (fg_iald) (fgl_c (fg_aload) (fgl_c (fg_getf gc4_) (fgl_c (fg_iload) (fgl_c (fg_iald) (fgl_c (fg_const) (fgl_c (fg_bin) (fgl_c (fg_bin) (fgl_c (fg_iast) (fgl_c (fg_aload) (fgl_c (fg_getf gc4_) (fgl_c (fg_iload) (fgl_c (fg_iald) (fgl_c (fg_if) (fgl_c (fg_aload) (fgl_c (fg_aload) (fgl_c (fg_getf gc4_) (fgl_c (fg_iload) (fgl_c (fg_iald) (fgl_c (fg_calls rfl) (fgl_c (fg_callv rfl) (fgl_c (fg_vret) (fgl_c (fg_aload) (fgl_c (fg_getf gc4_) (fgl_c (fg_iload) (fgl_c (fg_const) (fgl_c (fg_zast) (fgl_c (fg_aload) (fgl_c (fg_aload) (fgl_c (fg_getf gc4_) (fgl_c (fg_iload) (fgl_c (fg_iald) (fgl_c (fg_aload) (fgl_c (fg_getf gc4_) (fgl_c (fg_iload) (fgl_c (fg_iald) (fgl_c (fg_const) (fgl_c (fg_callv rfl) (fgl_c (fg_istore) (fgl_c (fg_aload) (fgl_c (fg_iload) (fgl_c (fg_iload) (fgl_c (fg_const) (fgl_c (fg_icmp) (fgl_c (fg_aload) (fgl_c (fg_getf gc4_) (fgl_c (fg_iload) (fgl_c (fg_iald) (fgl_c (fg_goto) (fgl_c (fg_aload) (fgl_c (fg_getf gc4_) (fgl_c (fg_callv rfl) (fgl_c (fg_vret) (fgl_n)))))))))))))))))))))))))))))))))))))))))))))))))))))))))
theorem fgt_X4_note : fgl_ P4_ Q4_ mt_X4_note := by
  unfold mt_X4_note
  exact fgl_c (fg_aload) (fgl_c (fg_getf gc4_) (fgl_c (fg_aload) (fgl_c (fg_getf gc4_) (fgl_c (fg_iload) (fgl_c (fg_iast) (fgl_c (fg_aload) (fgl_c (fg_dup) (fgl_c (fg_getf gc4_) (fgl_c (fg_const) (fgl_c (fg_bin) (fgl_c (fg_putf) (fgl_c (fg_vret) (fgl_n)))))))))))))
theorem fgt_X4_complete : fgl_ P4_ Q4_ mt_X4_complete := by
  unfold mt_X4_complete
  exact fgl_c (fg_aload) (fgl_c (fg_getf gc4_) (fgl_c (fg_iload) (fgl_c (fg_iald) (fgl_c (fg_istore) (fgl_c (fg_aload) (fgl_c (fg_getf gc4_) (fgl_c (fg_const) (fgl_c (fg_icmp) (fgl_c (fg_aload) (fgl_c (fg_const) (fgl_c (fg_iload) (fgl_c (fg_callv rfl) (fgl_c (fg_vret) (fgl_c (fg_aload) (fgl_c (fg_iload) (fgl_c (fg_const) (fgl_c (fg_callv rfl) (fgl_c (fg_const) (fgl_c (fg_icmp) (fgl_c (fg_aload) (fgl_c (fg_getf gc4_) (fgl_c (fg_iload) (fgl_c (fg_iald) (fgl_c (fg_aload) (fgl_c (fg_iload) (fgl_c (fg_const) (fgl_c (fg_callv rfl) (fgl_c (fg_icmp) (fgl_c (fg_aload) (fgl_c (fg_const) (fgl_c (fg_iload) (fgl_c (fg_callv rfl) (fgl_c (fg_vret) (fgl_c (fg_aload) (fgl_c (fg_getf gc4_) (fgl_c (fg_istore) (fgl_c (fg_aload) (fgl_c (fg_getf gc4_) (fgl_c (fg_iload) (fgl_c (fg_iload) (fgl_c (fg_iast) (fgl_c (fg_aload) (fgl_c (fg_getf gc4_) (fgl_c (fg_iload) (fgl_c (fg_aload) (fgl_c (fg_getf gc4_) (fgl_c (fg_iload) (fgl_c (fg_iald) (fgl_c (fg_iast) (fgl_c (fg_aload) (fgl_c (fg_getf gc4_) (fgl_c (fg_iload) (fgl_c (fg_aload) (fgl_c (fg_getf gc4_) (fgl_c (fg_iload) (fgl_c (fg_iald) (fgl_c (fg_const) (fgl_c (fg_icmp) (fgl_c (fg_aload) (fgl_c (fg_getf gc4_) (fgl_c (fg_goto) (fgl_c (fg_const) (fgl_c (fg_iast) (fgl_c (fg_aload) (fgl_c (fg_getf gc4_) (fgl_c (fg_iload) (fgl_c (fg_const) (fgl_c (fg_zast) (fgl_c (fg_aload) (fgl_c (fg_getf gc4_) (fgl_c (fg_iload) (fgl_c (fg_aload) (fgl_c (fg_getf gc4_) (fgl_c (fg_iload) (fgl_c (fg_iald) (fgl_c (fg_iast) (fgl_c (fg_const) (fgl_c (fg_istore) (fgl_c (fg_iload) (fgl_c (fg_const) (fgl_c (fg_icmp) (fgl_c (fg_aload) (fgl_c (fg_getf gc4_) (fgl_c (fg_const) (fgl_c (fg_iload) (fgl_c (fg_bin) (fgl_c (fg_iload) (fgl_c (fg_bin) (fgl_c (fg_aload) (fgl_c (fg_getf gc4_) (fgl_c (fg_const) (fgl_c (fg_iload) (fgl_c (fg_bin) (fgl_c (fg_iload) (fgl_c (fg_bin) (fgl_c (fg_iald) (fgl_c (fg_iast) (fgl_c (fg_iinc) (fgl_c (fg_goto) (fgl_c (fg_aload) (fgl_c (fg_const) (fgl_c (fg_iload) (fgl_c (fg_bin) (fgl_c (fg_callv rfl) (fgl_c (fg_aload) (fgl_c (fg_getf gc4_) (fgl_c (fg_iload) (fgl_c (fg_dup2) (fgl_c (fg_iald) (fgl_c (fg_const) (fgl_c (fg_bin) (fgl_c (fg_iast) (fgl_c (fg_aload) (fgl_c (fg_dup) (fgl_c (fg_getf gc4_) (fgl_c (fg_const) (fgl_c (fg_bin) (fgl_c (fg_putf) (fgl_c (fg_aload) (fgl_c (fg_dup) (fgl_c (fg_getf gc4_) (fgl_c (fg_const) (fgl_c (fg_bin) (fgl_c (fg_putf) (fgl_c (fg_aload) (fgl_c (fg_iload) (fgl_c (fg_putf) (fgl_c (fg_vret) (fgl_n)))))))))))))))))))))))))))))))))))))))))))))))))))))))))))))))))))))))))))))))))))))))))))))))))))))))))))))))))))))))))))))))))
theorem fgt_X4_goOn : fgl_ P4_ Q4_ mt_X4_goOn := by
  unfold mt_X4_goOn
  exact fgl_c (fg_aload) (fgl_c (fg_getf gc4_) (fgl_c (fg_const) (fgl_c (fg_bin) (fgl_c (fg_istore) (fgl_c (fg_aload) (fgl_c (fg_getf gc4_) (fgl_c (fg_iload) (fgl_c (fg_zald) (fgl_c (fg_if) (fgl_c (fg_aload) (fgl_c (fg_iload) (fgl_c (fg_callv rfl) (fgl_c (fg_goto) (fgl_c (fg_aload) (fgl_c (fg_getf gc4_) (fgl_c (fg_iload) (fgl_c (fg_iald) (fgl_c (fg_aload) (fgl_c (fg_getf gc4_) (fgl_c (fg_aload) (fgl_c (fg_getf gc4_) (fgl_c (fg_iload) (fgl_c (fg_iald) (fgl_c (fg_iald) (fgl_c (fg_icmp) (fgl_c (fg_aload) (fgl_c (fg_iload) (fgl_c (fg_callv rfl) (fgl_c (fg_goto) (fgl_c (fg_aload) (fgl_c (fg_iload) (fgl_c (fg_callv rfl) (fgl_c (fg_vret) (fgl_n))))))))))))))))))))))))))))))))))
theorem fgt_X4_clean : fgl_ P4_ Q4_ mt_X4_clean := by
  unfold mt_X4_clean
  exact fgl_c (fg_aload) (fgl_c (fg_const) (fgl_c (fg_putf) (fgl_c (fg_aload) (fgl_c (fg_const) (fgl_c (fg_putf) (fgl_c (fg_aload) (fgl_c (fg_const) (fgl_c (fg_putf) (fgl_c (fg_vret) (fgl_n))))))))))
theorem fgt_X4_destroy : fgl_ P4_ Q4_ mt_X4_destroy := by
  unfold mt_X4_destroy
  exact fgl_c (fg_aload) (fgl_c (fg_getf gc4_) (fgl_c (fg_iload) (fgl_c (fg_const) (fgl_c (fg_zast) (fgl_c (fg_aload) (fgl_c (fg_const) (fgl_c (fg_iload) (fgl_c (fg_bin) (fgl_c (fg_const) (fgl_c (fg_bin) (fgl_c (fg_callv rfl) (fgl_c (fg_vret) (fgl_n)))))))))))))
theorem fgt_X4_make : fgl_ P4_ Q4_ mt_X4_make := by
  unfold mt_X4_make
  exact fgl_c (fg_aload) (fgl_c (fg_iload) (fgl_c (fg_callv rfl) (fgl_c (fg_aload) (fgl_c (fg_getf gc4_) (fgl_c (fg_if) (fgl_c (fg_aload) (fgl_c (fg_getf gc4_) (fgl_c (fg_if) (fgl_c (fg_aload) (fgl_c (fg_callv rfl) (fgl_c (fg_goto) (fgl_c (fg_vret) (fgl_n)))))))))))))
theorem fgt_X4_settle : fgl_ P4_ Q4_ mt_X4_settle := by
  unfold mt_X4_settle
  exact fgl_c (fg_aload) (fgl_c (fg_getf gc4_) (fgl_c (fg_if) (fgl_c (fg_const) (fgl_c (fg_zret) (fgl_c (fg_aload) (fgl_c (fg_aload) (fgl_c (fg_getf gc4_) (fgl_c (fg_putf) (fgl_c (fg_aload) (fgl_c (fg_aload) (fgl_c (fg_getf gc4_) (fgl_c (fg_putf) (fgl_c (fg_aload) (fgl_c (fg_aload) (fgl_c (fg_getf gc4_) (fgl_c (fg_putf) (fgl_c (fg_const) (fgl_c (fg_istore) (fgl_c (fg_iload) (fgl_c (fg_aload) (fgl_c (fg_getf gc4_) (fgl_c (fg_icmp) (fgl_c (fg_aload) (fgl_c (fg_getf gc4_) (fgl_c (fg_iload) (fgl_c (fg_aload) (fgl_c (fg_getf gc4_) (fgl_c (fg_iload) (fgl_c (fg_iald) (fgl_c (fg_iast) (fgl_c (fg_iinc) (fgl_c (fg_goto) (fgl_c (fg_aload) (fgl_c (fg_getf gc4_) (fgl_c (fg_const) (fgl_c (fg_bin) (fgl_c (fg_istore) (fgl_c (fg_iload) (fgl_c (fg_iload) (fgl_c (fg_icmp) (fgl_c (fg_aload) (fgl_c (fg_getf gc4_) (fgl_c (fg_iload) (fgl_c (fg_zald) (fgl_c (fg_if) (fgl_c (fg_aload) (fgl_c (fg_getf gc4_) (fgl_c (fg_iload) (fgl_c (fg_iald) (fgl_c (fg_const) (fgl_c (fg_icmp) (fgl_c (fg_aload) (fgl_c (fg_iload) (fgl_c (fg_callv rfl) (fgl_c (fg_iinc) (fgl_c (fg_goto) (fgl_c (fg_aload) (fgl_c (fg_const) (fgl_c (fg_putf) (fgl_c (fg_const) (fgl_c (fg_zret) (fgl_n))))))))))))))))))))))))))))))))))))))))))))))))))))))))))))))
theorem fgt_X4_request : fgl_ P4_ Q4_ mt_X4_request := by
  unfold mt_X4_request
  exact fgl_c (fg_aload) (fgl_c (fg_getf gc4_) (fgl_c (fg_istore) (fgl_c (fg_aload) (fgl_c (fg_callv rfl) (fgl_c (fg_aload) (fgl_c (fg_iload) (fgl_c (fg_iload) (fgl_c (fg_callv rfl) (fgl_c (fg_istore) (fgl_c (fg_iload) (fgl_c (fg_if) (fgl_c (fg_aload) (fgl_c (fg_iload) (fgl_c (fg_neg) (fgl_c (fg_iload) (fgl_c (fg_callv rfl) (fgl_c (fg_goto) (fgl_c (fg_aload) (fgl_c (fg_iload) (fgl_c (fg_callv rfl) (fgl_c (fg_aload) (fgl_c (fg_iload) (fgl_c (fg_callv rfl) (fgl_c (fg_if) (fgl_c (fg_const) (fgl_c (fg_goto) (fgl_c (fg_aload) (fgl_c (fg_getf gc4_) (fgl_c (fg_iret) (fgl_n))))))))))))))))))))))))))))))
theorem fgt_X4_resolve : fgl_ P4_ Q4_ mt_X4_resolve := by
  unfold mt_X4_resolve
  exact fgl_c (fg_aload) (fgl_c (fg_iload) (fgl_c (fg_iload) (fgl_c (fg_calls rfl) (fgl_c (fg_if) (fgl_c (fg_const) (fgl_c (fg_goto) (fgl_c (fg_const) (fgl_c (fg_putf) (fgl_c (fg_aload) (fgl_c (fg_getf gc4_) (fgl_c (fg_if) (fgl_c (fg_const) (fgl_c (fg_iret) (fgl_c (fg_aload) (fgl_c (fg_iload) (fgl_c (fg_iload) (fgl_c (fg_callv rfl) (fgl_c (fg_istore) (fgl_c (fg_aload) (fgl_c (fg_iload) (fgl_c (fg_if) (fgl_c (fg_const) (fgl_c (fg_goto) (fgl_c (fg_const) (fgl_c (fg_putf) (fgl_c (fg_aload) (fgl_c (fg_getf gc4_) (fgl_c (fg_if) (fgl_c (fg_const) (fgl_c (fg_goto) (fgl_c (fg_iload) (fgl_c (fg_iret) (fgl_n)))))))))))))))))))))))))))))))))
theorem fgt_X4_isInstance : fgl_ P4_ Q4_ mt_X4_isInstance := by
  unfold mt_X4_isInstance
  exact fgl_c (fg_iload) (fgl_c (fg_const) (fgl_c (fg_aload) (fgl_c (fg_getf gc4_) (fgl_c (fg_const) (fgl_c (fg_bin) (fgl_c (fg_calls rfl) (fgl_c (fg_zret) (fgl_n))))))))
theorem fgt_X4_isLater : fgl_ P4_ Q4_ mt_X4_isLater := by
  unfold mt_X4_isLater
  exact fgl_c (fg_iload) (fgl_c (fg_const) (fgl_c (fg_aload) (fgl_c (fg_getf gc4_) (fgl_c (fg_iload) (fgl_c (fg_iald) (fgl_c (fg_const) (fgl_c (fg_bin) (fgl_c (fg_calls rfl) (fgl_c (fg_if) (fgl_c (fg_aload) (fgl_c (fg_iload) (fgl_c (fg_iload) (fgl_c (fg_const) (fgl_c (fg_callv rfl) (fgl_c (fg_const) (fgl_c (fg_icmp) (fgl_c (fg_const) (fgl_c (fg_goto) (fgl_c (fg_const) (fgl_c (fg_zret) (fgl_n)))))))))))))))))))))
theorem fgt_X4_provide : fgl_ P4_ Q4_ mt_X4_provide := by
  unfold mt_X4_provide
  exact fgl_c (fg_aload) (fgl_c (fg_aload) (fgl_c (fg_iload) (fgl_c (fg_callv rfl) (fgl_c (fg_if) (fgl_c (fg_const) (fgl_c (fg_goto) (fgl_c (fg_aload) (fgl_c (fg_aload) (fgl_c (fg_getf gc4_) (fgl_c (fg_iload) (fgl_c (fg_iald) (fgl_c (fg_iload) (fgl_c (fg_callv rfl) (fgl_c (fg_if) (fgl_c (fg_const) (fgl_c (fg_goto) (fgl_c (fg_aload) (fgl_c (fg_getf gc4_) (fgl_c (fg_iload) (fgl_c (fg_zald) (fgl_c (fg_if) (fgl_c (fg_const) (fgl_c (fg_goto) (fgl_c (fg_const) (fgl_c (fg_putf) (fgl_c (fg_aload) (fgl_c (fg_getf gc4_) (fgl_c (fg_if) (fgl_c (fg_const) (fgl_c (fg_iret) (fgl_c (fg_aload) (fgl_c (fg_getf gc4_) (fgl_c (fg_iload) (fgl_c (fg_iald) (fgl_c (fg_istore) (fgl_c (fg_aload) (fgl_c (fg_aload) (fgl_c (fg_iload) (fgl_c (fg_iload) (fgl_c (fg_const) (fgl_c (fg_callv rfl) (fgl_c (fg_aload) (fgl_c (fg_iload) (fgl_c (fg_iload) (fgl_c (fg_const) (fgl_c (fg_callv rfl) (fgl_c (fg_callv rfl) (fgl_c (fg_istore) (fgl_c (fg_aload) (fgl_c (fg_iload) (fgl_c (fg_if) (fgl_c (fg_const) (fgl_c (fg_goto) (fgl_c (fg_const) (fgl_c (fg_putf) (fgl_c (fg_aload) (fgl_c (fg_getf gc4_) (fgl_c (fg_if) (fgl_c (fg_const) (fgl_c (fg_goto) (fgl_c (fg_iload) (fgl_c (fg_iret) (fgl_n)))))))))))))))))))))))))))))))))))))))))))))))))))))))))))))))
theorem fgt_X4_start : fgl_ P4_ Q4_ mt_X4_start := by
  unfold mt_X4_start
  exact fgl_c (fg_aload) (fgl_c (fg_getf gc4_) (fgl_c (fg_istore) (fgl_c (fg_aload) (fgl_c (fg_callv rfl) (fgl_c (fg_const) (fgl_c (fg_istore) (fgl_c (fg_iload) (fgl_c (fg_aload) (fgl_c (fg_getf gc4_) (fgl_c (fg_icmp) (fgl_c (fg_aload) (fgl_c (fg_getf gc4_) (fgl_c (fg_if) (fgl_c (fg_aload) (fgl_c (fg_iload) (fgl_c (fg_callv rfl) (fgl_c (fg_if) (fgl_c (fg_aload) (fgl_c (fg_iload) (fgl_c (fg_const) (fgl_c (fg_callv rfl) (fgl_c (fg_if) (fgl_c (fg_aload) (fgl_c (fg_iload) (fgl_c (fg_const) (fgl_c (fg_callv rfl) (fgl_c (fg_if) (fgl_c (fg_aload) (fgl_c (fg_iload) (fgl_c (fg_callv rfl) (fgl_c (fg_iinc) (fgl_c (fg_goto) (fgl_c (fg_aload) (fgl_c (fg_aload) (fgl_c (fg_iload) (fgl_c (fg_callv rfl) (fgl_c (fg_if) (fgl_c (fg_const) (fgl_c (fg_goto) (fgl_c (fg_const) (fgl_c (fg_putf) (fgl_c (fg_aload) (fgl_c (fg_getf gc4_) (fgl_c (fg_if) (fgl_c (fg_const) (fgl_c (fg_goto) (fgl_c (fg_aload) (fgl_c (fg_getf gc4_) (fgl_c (fg_iload) (fgl_c (fg_bin) (fgl_c (fg_iret) (fgl_n))))))))))))))))))))))))))))))))))))))))))))))))))))
theorem fgt_X4_begin : fgl_ P4_ Q4_ mt_X4_begin := by
  unfold mt_X4_begin
  exact fgl_c (fg_aload) (fgl_c (fg_aload) (fgl_c (fg_getf gc4_) (fgl_c (fg_const) (fgl_c (fg_icmp) (fgl_c (fg_const) (fgl_c (fg_goto) (fgl_c (fg_const) (fgl_c (fg_putf) (fgl_c (fg_aload) (fgl_c (fg_getf gc4_) (fgl_c (fg_if) (fgl_c (fg_const) (fgl_c (fg_iret) (fgl_c (fg_aload) (fgl_c (fg_dup) (fgl_c (fg_getf gc4_) (fgl_c (fg_const) (fgl_c (fg_bin) (fgl_c (fg_putf) (fgl_c (fg_aload) (fgl_c (fg_getf gc4_) (fgl_c (fg_iret) (fgl_n)))))))))))))))))))))))
theorem fgt_X4_endScope : fgl_ P4_ Q4_ mt_X4_endScope := by
  unfold mt_X4_endScope
  exact fgl_c (fg_const) (fgl_c (fg_istore) (fgl_c (fg_aload) (fgl_c (fg_getf gc4_) (fgl_c (fg_const) (fgl_c (fg_bin) (fgl_c (fg_istore) (fgl_c (fg_iload) (fgl_c (fg_if) (fgl_c (fg_aload) (fgl_c (fg_getf gc4_) (fgl_c (fg_iload) (fgl_c (fg_zald) (fgl_c (fg_if) (fgl_c (fg_aload) (fgl_c (fg_getf gc4_) (fgl_c (fg_iload) (fgl_c (fg_iald) (fgl_c (fg_const) (fgl_c (fg_icmp) (fgl_c (fg_aload) (fgl_c (fg_getf gc4_) (fgl_c (fg_iload) (fgl_c (fg_iald) (fgl_c (fg_aload) (fgl_c (fg_getf gc4_) (fgl_c (fg_icmp) (fgl_c (fg_aload) (fgl_c (fg_iload) (fgl_c (fg_callv rfl) (fgl_c (fg_iinc) (fgl_c (fg_iinc) (fgl_c (fg_goto) (fgl_c (fg_aload) (fgl_c (fg_dup) (fgl_c (fg_getf gc4_) (fgl_c (fg_const) (fgl_c (fg_bin) (fgl_c (fg_putf) (fgl_c (fg_iload) (fgl_c (fg_iret) (fgl_n)))))))))))))))))))))))))))))))))))))))))
theorem fgt_X4_end : fgl_ P4_ Q4_ mt_X4_end := by
  unfold mt_X4_end
  exact fgl_c (fg_aload) (fgl_c (fg_aload) (fgl_c (fg_getf gc4_) (fgl_c (fg_if) (fgl_c (fg_const) (fgl_c (fg_goto) (fgl_c (fg_const) (fgl_c (fg_putf) (fgl_c (fg_aload) (fgl_c (fg_getf gc4_) (fgl_c (fg_if) (fgl_c (fg_const) (fgl_c (fg_goto) (fgl_c (fg_aload) (fgl_c (fg_callv rfl) (fgl_c (fg_iret) (fgl_n))))))))))))))))
theorem fgt_X4_close : fgl_ P4_ Q4_ mt_X4_close := by
  unfold mt_X4_close
  exact fgl_c (fg_aload) (fgl_c (fg_const) (fgl_c (fg_putf) (fgl_c (fg_const) (fgl_c (fg_istore) (fgl_c (fg_aload) (fgl_c (fg_getf gc4_) (fgl_c (fg_if) (fgl_c (fg_iload) (fgl_c (fg_aload) (fgl_c (fg_callv rfl) (fgl_c (fg_bin) (fgl_c (fg_istore) (fgl_c (fg_goto) (fgl_c (fg_aload) (fgl_c (fg_getf gc4_) (fgl_c (fg_const) (fgl_c (fg_bin) (fgl_c (fg_istore) (fgl_c (fg_iload) (fgl_c (fg_if) (fgl_c (fg_aload) (fgl_c (fg_getf gc4_) (fgl_c (fg_iload) (fgl_c (fg_zald) (fgl_c (fg_if) (fgl_c (fg_aload) (fgl_c (fg_getf gc4_) (fgl_c (fg_iload) (fgl_c (fg_iald) (fgl_c (fg_if) (fgl_c (fg_aload) (fgl_c (fg_iload) (fgl_c (fg_callv rfl) (fgl_c (fg_iinc) (fgl_c (fg_iinc) (fgl_c (fg_goto) (fgl_c (fg_iload) (fgl_c (fg_iret) (fgl_n)))))))))))))))))))))))))))))))))))))))
theorem fgt_X4_instances : fgl_ P4_ Q4_ mt_X4_instances := by
  unfold mt_X4_instances
  exact fgl_c (fg_aload) (fgl_c (fg_const) (fgl_c (fg_putf) (fgl_c (fg_aload) (fgl_c (fg_getf gc4_) (fgl_c (fg_iret) (fgl_n))))))
theorem fgt_X4_componentOf : fgl_ P4_ Q4_ mt_X4_componentOf := by
  unfold mt_X4_componentOf
  exact fgl_c (fg_aload) (fgl_c (fg_aload) (fgl_c (fg_iload) (fgl_c (fg_callv rfl) (fgl_c (fg_if) (fgl_c (fg_const) (fgl_c (fg_goto) (fgl_c (fg_const) (fgl_c (fg_putf) (fgl_c (fg_aload) (fgl_c (fg_getf gc4_) (fgl_c (fg_if) (fgl_c (fg_const) (fgl_c (fg_goto) (fgl_c (fg_aload) (fgl_c (fg_getf gc4_) (fgl_c (fg_iload) (fgl_c (fg_iald) (fgl_c (fg_iret) (fgl_n)))))))))))))))))))
theorem fgt_X4_isAlive : fgl_ P4_ Q4_ mt_X4_isAlive := by
  unfold mt_X4_isAlive
  exact fgl_c (fg_aload) (fgl_c (fg_aload) (fgl_c (fg_iload) (fgl_c (fg_callv rfl) (fgl_c (fg_if) (fgl_c (fg_const) (fgl_c (fg_goto) (fgl_c (fg_const) (fgl_c (fg_putf) (fgl_c (fg_aload) (fgl_c (fg_getf gc4_) (fgl_c (fg_if) (fgl_c (fg_aload) (fgl_c (fg_getf gc4_) (fgl_c (fg_iload) (fgl_c (fg_zald) (fgl_c (fg_if) (fgl_c (fg_const) (fgl_c (fg_goto) (fgl_c (fg_const) (fgl_c (fg_zret) (fgl_n)))))))))))))))))))))
theorem fgt_X4_injected : fgl_ P4_ Q4_ mt_X4_injected := by
  unfold mt_X4_injected
  exact fgl_c (fg_aload) (fgl_c (fg_aload) (fgl_c (fg_iload) (fgl_c (fg_callv rfl) (fgl_c (fg_if) (fgl_c (fg_const) (fgl_c (fg_goto) (fgl_c (fg_iload) (fgl_c (fg_const) (fgl_c (fg_aload) (fgl_c (fg_getf gc4_) (fgl_c (fg_iload) (fgl_c (fg_iald) (fgl_c (fg_const) (fgl_c (fg_bin) (fgl_c (fg_calls rfl) (fgl_c (fg_if) (fgl_c (fg_const) (fgl_c (fg_goto) (fgl_c (fg_const) (fgl_c (fg_putf) (fgl_c (fg_aload) (fgl_c (fg_getf gc4_) (fgl_c (fg_if) (fgl_c (fg_const) (fgl_c (fg_goto) (fgl_c (fg_aload) (fgl_c (fg_getf gc4_) (fgl_c (fg_const) (fgl_c (fg_iload) (fgl_c (fg_bin) (fgl_c (fg_iload) (fgl_c (fg_bin) (fgl_c (fg_iald) (fgl_c (fg_iret) (fgl_n)))))))))))))))))))))))))))))))))))
theorem fgt_X4_event : fgl_ P4_ Q4_ mt_X4_event := by
  unfold mt_X4_event
  exact fgl_c (fg_aload) (fgl_c (fg_const) (fgl_c (fg_putf) (fgl_c (fg_iload) (fgl_c (fg_const) (fgl_c (fg_icmp) (fgl_c (fg_aload) (fgl_c (fg_getf gc4_) (fgl_c (fg_goto) (fgl_c (fg_iload) (fgl_c (fg_const) (fgl_c (fg_aload) (fgl_c (fg_getf gc4_) (fgl_c (fg_const) (fgl_c (fg_bin) (fgl_c (fg_calls rfl) (fgl_c (fg_if) (fgl_c (fg_aload) (fgl_c (fg_getf gc4_) (fgl_c (fg_iload) (fgl_c (fg_iald) (fgl_c (fg_goto) (fgl_c (fg_const) (fgl_c (fg_iret) (fgl_n))))))))))))))))))))))))
theorem fgt_X4_failureKind : fgl_ P4_ Q4_ mt_X4_failureKind := by
  unfold mt_X4_failureKind
  exact fgl_c (fg_aload) (fgl_c (fg_const) (fgl_c (fg_putf) (fgl_c (fg_aload) (fgl_c (fg_getf gc4_) (fgl_c (fg_iret) (fgl_n))))))
theorem fgt_X4_failureDetail : fgl_ P4_ Q4_ mt_X4_failureDetail := by
  unfold mt_X4_failureDetail
  exact fgl_c (fg_aload) (fgl_c (fg_const) (fgl_c (fg_putf) (fgl_c (fg_aload) (fgl_c (fg_getf gc4_) (fgl_c (fg_iret) (fgl_n))))))
theorem fgt_X4_failureChain : fgl_ P4_ Q4_ mt_X4_failureChain := by
  unfold mt_X4_failureChain
  exact fgl_c (fg_aload) (fgl_c (fg_const) (fgl_c (fg_putf) (fgl_c (fg_iload) (fgl_c (fg_const) (fgl_c (fg_icmp) (fgl_c (fg_aload) (fgl_c (fg_getf gc4_) (fgl_c (fg_goto) (fgl_c (fg_iload) (fgl_c (fg_const) (fgl_c (fg_aload) (fgl_c (fg_getf gc4_) (fgl_c (fg_const) (fgl_c (fg_bin) (fgl_c (fg_calls rfl) (fgl_c (fg_if) (fgl_c (fg_aload) (fgl_c (fg_getf gc4_) (fgl_c (fg_iload) (fgl_c (fg_iald) (fgl_c (fg_goto) (fgl_c (fg_const) (fgl_c (fg_iret) (fgl_n))))))))))))))))))))))))
theorem fga4_0 : ∀ k, 70 ≤ k → k < 105 → fgl_ P4_ Q4_ (mv_tab k) := by
  intro k h1 h2
  rcases (show k = 70 ∨ k = 71 ∨ k = 72 ∨ k = 73 ∨ k = 74 ∨ k = 75 ∨ k = 76 ∨ k = 77 ∨ k = 78 ∨ k = 79 ∨ k = 80 ∨ k = 81 ∨ k = 82 ∨ k = 83 ∨ k = 84 ∨ k = 85 ∨ k = 86 ∨ k = 87 ∨ k = 88 ∨ k = 89 ∨ k = 90 ∨ k = 91 ∨ k = 92 ∨ k = 93 ∨ k = 94 ∨ k = 95 ∨ k = 96 ∨ k = 97 ∨ k = 98 ∨ k = 99 ∨ k = 100 ∨ k = 101 ∨ k = 102 ∨ k = 103 ∨ k = 104 by omega) with rfl | rfl | rfl | rfl | rfl | rfl | rfl | rfl | rfl | rfl | rfl | rfl | rfl | rfl | rfl | rfl | rfl | rfl | rfl | rfl | rfl | rfl | rfl | rfl | rfl | rfl | rfl | rfl | rfl | rfl | rfl | rfl | rfl | rfl | rfl
  · exact fgt_X4_thrown
  · exact fgt_X4_in
  · exact fgt_X4_isComponent
  · exact fgt_X4_of
  · exact fgt_X4_add
  · exact fgt_X4_isValue
  · exact fgt_X4_set
  · exact fgt_X4_property
  · exact fgt_X4_isAsked
  · exact fgt_X4_dependAt
  · exact fgt_X4_depend
  · exact fgt_X4_clear
  · exact fgt_X4_dependency
  · exact fgt_X4_profile
  · exact fgt_X4_components
  · exact fgt_X4_isActive
  · exact fgt_X4_candidatesFor
  · exact fgt_X4_bits
  · exact fgt_X4_lowest
  · exact fgt_X4_choose
  · exact fgt_X4_candidates
  · exact fgt_X4_chosen
  · exact fgt_X4_isInFrames
  · exact fgt_X4_push
  · exact fgt_X4_wanted
  · exact fgt_X4_wouldGoOn
  · exact fgt_X4_problem
  · exact fgt_X4_directly
  · exact fgt_X4_needs
  · exact fgt_X4_fail
  · exact fgt_X4_construct
  · exact fgt_X4_living
  · exact fgt_X4_obtain
  · exact fgt_X4_inject
  · exact fgt_X4_serve
theorem fga4_1 : ∀ k, 105 ≤ k → k < 131 → fgl_ P4_ Q4_ (mv_tab k) := by
  intro k h1 h2
  rcases (show k = 105 ∨ k = 106 ∨ k = 107 ∨ k = 108 ∨ k = 109 ∨ k = 110 ∨ k = 111 ∨ k = 112 ∨ k = 113 ∨ k = 114 ∨ k = 115 ∨ k = 116 ∨ k = 117 ∨ k = 118 ∨ k = 119 ∨ k = 120 ∨ k = 121 ∨ k = 122 ∨ k = 123 ∨ k = 124 ∨ k = 125 ∨ k = 126 ∨ k = 127 ∨ k = 128 ∨ k = 129 ∨ k = 130 by omega) with rfl | rfl | rfl | rfl | rfl | rfl | rfl | rfl | rfl | rfl | rfl | rfl | rfl | rfl | rfl | rfl | rfl | rfl | rfl | rfl | rfl | rfl | rfl | rfl | rfl | rfl
  · exact fgt_X4_receive
  · exact fgt_X4_note
  · exact fgt_X4_complete
  · exact fgt_X4_goOn
  · exact fgt_X4_clean
  · exact fgt_X4_destroy
  · exact fgt_X4_make
  · exact fgt_X4_settle
  · exact fgt_X4_request
  · exact fgt_X4_resolve
  · exact fgt_X4_isInstance
  · exact fgt_X4_isLater
  · exact fgt_X4_provide
  · exact fgt_X4_start
  · exact fgt_X4_begin
  · exact fgt_X4_endScope
  · exact fgt_X4_end
  · exact fgt_X4_close
  · exact fgt_X4_instances
  · exact fgt_X4_componentOf
  · exact fgt_X4_isAlive
  · exact fgt_X4_injected
  · exact fgt_X4_event
  · exact fgt_X4_failureKind
  · exact fgt_X4_failureDetail
  · exact fgt_X4_failureChain
theorem fga4_ : ∀ k, Q4_ k = true → fgl_ P4_ Q4_ (mv_tab k) := by
  intro k h
  unfold Q4_ at h
  rw [Bool.and_eq_true] at h
  have h1 := Nat.le_of_ble_eq_true h.1
  have h2 := Nat.le_of_ble_eq_true h.2
  rcases (show (70 ≤ k ∧ k < 105) ∨ (105 ≤ k ∧ k < 131) by omega) with q | q
  · exact fga4_0 k q.1 q.2
  · exact fga4_1 k q.1 q.2
theorem ev_p3 {d k : Nat} {as : List mv_V} {M M' : mv_M} {o : mv_O} (h : ev_ d k as M o M') (hQ : Q3_ k = true) (ha : gt_ P3_ as) : ev_ d k as M o (gp_ P3_ M M') := ev_patch fga3_ h hQ ha
theorem ev_p4 {d k : Nat} {as : List mv_V} {M M' : mv_M} {o : mv_O} (h : ev_ d k as M o M') (hQ : Q4_ k = true) (ha : gt_ P4_ as) : ev_ d k as M o (gp_ P4_ M M') := ev_patch fga4_ h hQ ha
