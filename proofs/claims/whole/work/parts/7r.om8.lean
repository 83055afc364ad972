/-! what is in many texts: the component's answers -/
def SAu (M : JM) (a : Int) (T : ATx) (F : Int → Int) : Prop := Sx M a 9640 ∧ M 2810 a 0 = jst T T.1 ∧ (∀ t, 0 ≤ t → t < T.1 → M 2 (a + 1) t = jst T t ∧ M 2 (a + 2) t = jst T t + T.2.1 t) ∧ JF T F (M 2 (a + 5)) ∧ SAo (jst T T.1) F (M 2 (a + 6)) (M 2 (a + 10))
/-- some text of s units is in many texts -/
def PM (T : ATx) (many s : Int) : Prop := ∃ p, GP (bsT T T.1) (txT T) (lfT T) (unT T) s many p
noncomputable def lzM (T : ATx) (many : Int) : Int := bsF (PM T many) 300 0 240
def AnsM (T : ATx) (many what r : Int) : Prop := (lzM T many = 0 ∧ r = 0) ∨ (lzM T many ≠ 0 ∧ ∃ p, GP (bsT T T.1) (txT T) (lfT T) (unT T) (lzM T many) many p ∧ ((what = 0 ∧ r = lzM T many) ∨ (what = 1 ∧ r = txT T p) ∨ (what = 2 ∧ r = T.2.1 (txT T p) - lfT T p)))
theorem AnsM.uniq {T : ATx} {many what r r' : Int} (h : AnsM T many what r) (h' : AnsM T many what r') : r = r' := by
  rcases h with h | ⟨z, p, g, h⟩
  · rcases h' with h' | ⟨z, _⟩
    · rw [h.2, h'.2]
    · exact absurd h.1 z
  · rcases h' with h' | ⟨_, p', g', h'⟩
    · exact absurd h'.1 z
    · have := g.uniq g'
      subst this
      rcases h with h | h | h <;> rcases h' with h' | h' | h' <;> first | omega | (rw [h.2, h'.2])
theorem bsF_stop {P : Int → Prop} {lo hi : Int} (h : hi ≤ lo) (k : Nat) : bsF P k lo hi = lo := by
  cases k with
  | zero => rfl
  | succ k => exact cif_t h
theorem bsF_t {P : Int → Prop} {lo hi : Int} (h : ¬ hi ≤ lo) (p : P ((lo + hi + 1) / 2)) (k : Nat) : bsF P (k + 1) lo hi = bsF P k ((lo + hi + 1) / 2) hi := (cif_f h).trans (cif_t p)
theorem bsF_f {P : Int → Prop} {lo hi : Int} (h : ¬ hi ≤ lo) (p : ¬ P ((lo + hi + 1) / 2)) (k : Nat) : bsF P (k + 1) lo hi = bsF P k lo ((lo + hi + 1) / 2 - 1) := (cif_f h).trans (cif_f p)
theorem bsF_ok {P : Int → Prop} : ∀ (k : Nat) (lo hi : Int), 0 ≤ lo → lo ≤ hi → hi ≤ 240 → (lo = 0 ∨ P lo) → 0 ≤ bsF P k lo hi ∧ bsF P k lo hi ≤ 240 ∧ (bsF P k lo hi = 0 ∨ P (bsF P k lo hi)) := by
  intro k
  induction k with
  | zero => intro lo hi a b c d; exact ⟨a, by show lo ≤ 240; omega, d⟩
  | succ k ih =>
    intro lo hi a b c d
    by_cases h : hi ≤ lo
    · rw [bsF_stop h]; exact ⟨a, by omega, d⟩
    · by_cases p : P ((lo + hi + 1) / 2)
      · rw [bsF_t h p]; exact ih _ _ (by omega) (by omega) c (Or.inr p)
      · rw [bsF_f h p]; exact ih _ _ a (by omega) (by omega) d
theorem lzM_ok (T : ATx) (many : Int) : 0 ≤ lzM T many ∧ lzM T many ≤ 240 ∧ (lzM T many = 0 ∨ PM T many (lzM T many)) := bsF_ok _ _ _ (by omega) (by omega) (by omega) (Or.inl rfl)
theorem AnsM.ex {T : ATx} {many what : Int} (h : what = 0 ∨ what = 1 ∨ what = 2) : ∃ r, AnsM T many what r := by
  by_cases c : lzM T many = 0
  · exact ⟨0, Or.inl ⟨c, rfl⟩⟩
  · obtain ⟨p, hp⟩ := ((lzM_ok T many).2.2).resolve_left c
    rcases h with h | h | h
    · exact ⟨_, Or.inr ⟨c, p, hp, Or.inl ⟨h, rfl⟩⟩⟩
    · exact ⟨_, Or.inr ⟨c, p, hp, Or.inr (Or.inl ⟨h, rfl⟩)⟩⟩
    · exact ⟨_, Or.inr ⟨c, p, hp, Or.inr (Or.inr ⟨h, rfl⟩)⟩⟩
section OM8
variable {G : JG} {Q : Int → JM → Prop} {M : JM} {a s many : Int} {T : ATx} {F : Int → Int}
theorem SAu.keep {M' : JM} (U : SAu M a T F) (o : Sof (fun c => c = a + 3) M M') : SAu M' a T F := by
  obtain ⟨u1, u2, u3, u4, u5⟩ := U
  have e : ∀ b, b ≠ a + 3 → M' 2 b = M 2 b := fun b h => funext fun j => o _ _ _ (by omega)
  refine ⟨o.sx u1, by rw [o _ _ _ (by omega)]; exact u2, ?_, ?_, ?_⟩
  · rw [e _ (by omega), e _ (by omega)]; exact u3
  · rw [e _ (by omega)]; exact u4
  · rw [e _ (by omega), e _ (by omega)]; exact u5
theorem c_str (U : SAu M a T F) (A : AT T) (s1 : 1 ≤ s) (m1 : 1 ≤ many) (y : ∀ M' b, Sof (fun c => c = a + 3) M M' → 0 ≤ b → Fst T F (M 2 (a + 10)) s many b → PM T many s → Q b M') (no : ∀ M', Sof (fun c => c = a + 3) M M' → ¬ PM T many s → Q (-1) M') : Runs G 79 0 0 [(1, a), (0, s), (0, many)] M Q := c_stretch U.1 U.2.1 (fun t t0 t1 => (U.2.2.1 t t0 t1).2) A U.2.2.2.1 U.2.2.2.2 s1 m1 (fun M' b o b0 f => y M' b o b0 f (gp_ex (by omega) (by obtain ⟨r, p, h1, h2, _⟩ := f; exact ⟨p, h1.2.1, h2⟩))) (fun M' o h => no M' o (fun ⟨p, g⟩ => by have := h p g.1; have := g.2.1; omega))
theorem c_longest (U : SAu M a T F) (A : AT T) (m1 : 1 ≤ many) (h : ∀ M', Sof (fun c => c = a + 3) M M' → Q (lzM T many) M') : Runs G 78 0 0 [(1, a), (0, many)] M Q := by
  refine lp_X8_longestIn (fun v0 v1 v2 v3 N => a = v0 ∧ many = v1 ∧ 0 ≤ v2 ∧ v2 ≤ v3 ∧ v3 ≤ 240 ∧ Sof (fun c => c = a + 3) M N ∧ Fl (fun k => bsF (PM T many) k v2 v3) (v3 - v2) (lzM T many)) (fun _ _ v2 v3 => (v3 - v2).toNat) ?_ _ _ M ⟨rfl, rfl, by omega, by omega, by omega, Sof.refl _ M, Fl.go (F := fun k => bsF (PM T many) k 0 240) 300 (by omega)⟩
  rintro v0 v1 v2 v3 N ⟨rfl, rfl, i1, i2, i3, o, fl⟩
  have UN := U.keep o
  refine ⟨fun q => ?_, fun q => ⟨by unfold jR; omega, by unfold jR; omega, ⟨by omega, by omega⟩, UN.1.tt, c_str UN A (by omega) m1 (fun M' b o' b0 _ P _ => ⟨fun _ => ⟨⟨rfl, rfl, by omega, by omega, i3, o.trans o', fl.step (by omega) (fun k => bsF_t q P k) (by omega)⟩, by omega⟩, fun z => absurd (by omega) z⟩) (fun M' o' P _ => ⟨fun z => absurd rfl z, fun _ => ⟨by unfold jR; omega, ⟨rfl, rfl, i1, by omega, by omega, o.trans o', fl.step (by omega) (fun k => bsF_f q P k) (by omega)⟩, by omega⟩⟩)⟩⟩
  rw [← fl.stop (fun k => bsF_stop q k)]
  exact h N o
theorem c_first (U : SAu M a T F) (A : AT T) (s1 : 1 ≤ s) (m1 : 1 ≤ many) (P : PM T many s) (h : ∀ M' p, Sof (fun c => c = a + 3) M M' → GP (bsT T T.1) (txT T) (lfT T) (unT T) s many p → Q (jpl T p) M') : Runs G 80 0 0 [(1, a), (0, s), (0, many)] M Q := by
  have nr := jst_r A
  obtain ⟨u1, u2, u3, u4, u5⟩ := id U
  refine lp_X8_firstOf (fun v0 v1 v4 v5 N => a = v0 ∧ s = v1 ∧ Sof (fun c => c = a + 3) M N ∧ ∃ b k, Fst T F (M 2 (a + 10)) s many b ∧ Str (jst T T.1) (M 2 (a + 10)) s b v5 ∧ b ≤ k ∧ k < v5 ∧ v4 = M 2 (a + 6) k ∧ ∀ j, b ≤ j → j < v5 → M 2 (a + 6) k ≤ M 2 (a + 6) j) (fun _ _ _ v5 => (10000 - v5).toNat) ?_ _ _ _ M ⟨fun z => absurd z (by omega), fun _ => ⟨u1.tt, c_str U A s1 m1 (fun M' b o b0 f _ _ => ⟨fun _ => ?_, fun z => absurd (by omega) z⟩) (fun M' o z => absurd P z)⟩⟩
  · rintro v0 v1 v4 v5 N ⟨rfl, rfl, o, b, k, f, R, k0, k1, rfl, hk⟩
    obtain ⟨r1, r2, r3, r4⟩ := id R
    have SN := o.sx u1
    have e6 : ∀ j, N 2 (a + 6) j = M 2 (a + 6) j := fun j => o _ _ _ (by omega)
    have e10 : ∀ j, N 2 (a + 10) j = M 2 (a + 10) j := fun j => o _ _ _ (by omega)
    have en : N 2810 a 0 = jst T T.1 := by rw [o _ _ _ (by omega)]; exact u2
    rw [en, SN.f9, SN.t10, SN.n10, SN.f5, SN.t6, SN.n6, e10, e6]
    have fin : (v5 = jst T T.1 ∨ M 2 (a + 10) v5 < s) → Q (M 2 (a + 6) k) N := fun he => by
      obtain ⟨r, p0, ⟨R', vp, p1, p2⟩, cp, old⟩ := f
      have ge : r + 1 ≤ v5 := by
        rcases Int.lt_or_le v5 (r + 1) with c | c
        · have := R'.2.2.2 v5 r2 c
          have := R'.2.2.1
          omega
        · exact c
      obtain ⟨p, ep, gp⟩ := gp_str A u4 u5 s1 R he k0 k1 hk vp p1 (by omega) cp old
      rw [← ep]
      exact h N p o gp
    refine ⟨SN.tt, fun q => fin (Or.inl (by omega)), fun q => ⟨SN.tt, ⟨rfl, by omega, by omega⟩, fun q2 => fin (Or.inr q2), fun q2 => ⟨SN.tt, ⟨rfl, by omega, by omega⟩, by unfold jR; omega, ⟨rfl, rfl, o, b, ?_⟩, by omega⟩⟩⟩
    have R2 : Str (jst T T.1) (M 2 (a + 10)) s b (v5 + 1) := ⟨r1, by omega, by omega, fun j j0 j1 => by
      by_cases c : j = v5
      · rw [c]; omega
      · exact r4 j j0 (by omega)⟩
    rcases Int.le_total (M 2 (a + 6) k) (M 2 (a + 6) v5) with c | c
    · refine ⟨k, f, R2, k0, by omega, by omega, fun j j0 j1 => ?_⟩
      by_cases d : j = v5
      · rw [d]; exact c
      · exact hk j j0 (by omega)
    · refine ⟨v5, f, R2, by omega, by omega, by omega, fun j j0 j1 => ?_⟩
      by_cases d : j = v5
      · rw [d]; exact Int.le_refl _
      · have := hk j j0 (by omega); omega
  · have SN := o.sx u1
    obtain ⟨r, p0, ⟨R', vp, p1, p2⟩, cp, old⟩ := id f
    have R3 := R'.2.2.1
    have R2 := R'.2.1
    rw [SN.f5, SN.t6, SN.n6, o 2 (a + 6) b (by omega)]
    refine ⟨SN.tt, ⟨rfl, b0, by omega⟩, by unfold jR; omega, rfl, rfl, o, b, b, f, ⟨b0, by omega, by omega, fun j j0 j1 => by omega⟩, by omega, by omega, rfl, fun j j0 j1 => ?_⟩
    have : j = b := by omega
    rw [this]; exact Int.le_refl _
theorem c_owner {x : Int} (U : SAu M a T F) (A : AT T) (x0 : 0 ≤ x) (x1 : x < jst T T.1) (h : Q (M 2 (a + 5) x) M) : Runs G 81 0 0 [(1, a), (0, x)] M Q := by
  have nr := jst_r A
  refine rn_X8_ownerOf _ _ M (sg_X8_ownerOf_0 _ _ M ⟨fun z => absurd z (by omega), fun _ => ?_⟩)
  rw [U.2.1, U.1.f1, U.1.t5, U.1.n5]
  exact ⟨U.1.tt, fun z => absurd z (by omega), fun _ => ⟨U.1.tt, ⟨rfl, x0, by omega⟩, h⟩⟩
theorem c_placeIn {x : Int} (U : SAu M a T F) (A : AT T) (x0 : 0 ≤ x) (x1 : x < jst T T.1) (h : Q (x - jst T (M 2 (a + 5) x)) M) : Runs G 82 0 0 [(1, a), (0, x)] M Q := by
  have nr := jst_r A
  have a2 := A.2.1
  have ow := (jF_r A U.2.2.2.1 x0 x1).2
  have m1 := jst_mono A (Int.le_refl 0) ow.1 (by omega)
  have m2 := jst_mono A ow.1 (show M 2 (a + 5) x ≤ T.1 by omega) (Int.le_refl _)
  rw [jst_z] at m1
  refine rn_X8_placeInOwner _ _ M (sg_X8_placeInOwner_0 _ _ M ⟨U.1.tt, U.1.tt, c_owner U A x0 x1 (fun _ => ?_)⟩)
  rw [U.1.f2, U.1.t1, U.1.n1, (U.2.2.1 _ ow.1 ow.2).1]
  exact ⟨⟨rfl, ow.1, by omega⟩, by unfold jR; omega, h⟩
/-- all that is asked once the texts are held -/
theorem c_ask {X what : Int} (U : SAu M a T F) (A : AT T) (m1 : 1 ≤ many) (T1 : 1 ≤ T.1) (wx : M 0 X 0 = 21) (e12 : M 1212 X 0 = a) (hw : what = 0 ∨ what = 1 ∨ what = 2) (h : ∀ r M', Sof (fun c => c = a + 3) M M' → AnsM T many what r → Q r M') : M 0 X 0 = 21 ∧ M 0 (M 1212 X 0) 0 = 18 ∧ Runs G 78 0 0 [(1, M 1212 X 0), (0, many)] M (fun r3 M3 => jokM M3 → ((¬ what = 0 → M3 0 X 0 = 21 ∧ M3 0 (M3 1212 X 0) 0 = 18 ∧ Runs G 80 0 0 [(1, M3 1212 X 0), (0, r3), (0, many)] M3 (fun r4 M4 => jokM M4 → ((¬ what = 1 → M4 0 X 0 = 21 ∧ M4 0 (M4 1212 X 0) 0 = 18 ∧ Runs G 82 0 0 [(1, M4 1212 X 0), (0, r4)] M4 (fun r5 M5 => jokM M5 → Q r5 M5)) ∧ (¬ (¬ what = 1) → M4 0 X 0 = 21 ∧ M4 0 (M4 1212 X 0) 0 = 18 ∧ Runs G 81 0 0 [(1, M4 1212 X 0), (0, r4)] M4 (fun r6 M6 => jokM M6 → Q r6 M6))))) ∧ (¬ (¬ what = 0) → Q r3 M3))) := by
  rw [e12]
  refine ⟨wx, U.1.tt, c_longest U A m1 (fun N o _ => ?_)⟩
  have UN := U.keep o
  have wn : N 0 X 0 = 21 := by rw [o _ _ _ (by omega)]; exact wx
  have en : N 1212 X 0 = a := by rw [o _ _ _ (by omega)]; exact e12
  obtain ⟨l0, l1, l2⟩ := lzM_ok T many
  rw [en]
  refine ⟨fun w0 => ⟨wn, UN.1.tt, ?_⟩, fun w0 => h _ N o ?_⟩
  · have last : ∀ (V : JM) (x : Int), Sof (fun c => c = a + 3) N V → 0 ≤ x → x < jst T T.1 → (what = 1 → AnsM T many what (N 2 (a + 5) x)) → (what = 2 → AnsM T many what (x - jst T (N 2 (a + 5) x))) → ((¬ what = 1 → V 0 X 0 = 21 ∧ V 0 (V 1212 X 0) 0 = 18 ∧ Runs G 82 0 0 [(1, V 1212 X 0), (0, x)] V (fun r5 M5 => jokM M5 → Q r5 M5)) ∧ (¬ (¬ what = 1) → V 0 X 0 = 21 ∧ V 0 (V 1212 X 0) 0 = 18 ∧ Runs G 81 0 0 [(1, V 1212 X 0), (0, x)] V (fun r6 M6 => jokM M6 → Q r6 M6))) := fun V x oV x0 x1 a1 a2 => by
      have UV := UN.keep oV
      have wv : V 0 X 0 = 21 := by rw [oV _ _ _ (by omega)]; exact wn
      have ev : V 1212 X 0 = a := by rw [oV _ _ _ (by omega)]; exact en
      have e5 : V 2 (a + 5) x = N 2 (a + 5) x := oV _ _ _ (by omega)
      rw [ev]
      exact ⟨fun w1 => ⟨wv, UV.1.tt, c_placeIn UV A x0 x1 (fun _ => h _ V (o.trans oV) (by rw [e5]; exact a2 (by omega)))⟩, fun w1 => ⟨wv, UV.1.tt, c_owner UV A x0 x1 (fun _ => h _ V (o.trans oV) (by rw [e5]; exact a1 (Classical.not_not.mp w1)))⟩⟩
    by_cases c : lzM T many = 0
    · have t0 := UN.2.2.2.1 0 (by omega) (by omega)
      have u0 := (A.2.2 0 (by omega) (by omega)).1
      have ow : N 2 (a + 5) 0 = 0 := by
        by_cases z : T.2.1 0 = 0
        · have := t0.2.1
          rw [jst_z, z] at this
          exact this
        · have := (t0.2.2 0 (by omega) (by omega)).2
          rw [jst_z] at this
          exact this
      have m := jst_mono A (show 0 ≤ (0 : Int) + 1 by omega) (show (0 : Int) + 1 ≤ T.1 by omega) (Int.le_refl _)
      rw [jst_s (by omega), jst_z] at m
      rw [c]
      exact lp_X8_firstOf (fun _ _ _ _ _ => False) (fun _ _ _ _ => 0) (fun _ _ _ _ _ z => z.elim) _ _ _ N ⟨fun _ => ⟨fun z => absurd rfl z, fun _ _ => last N 0 (Sof.refl _ N) (by omega) (by omega) (fun _ => by rw [ow]; exact Or.inl ⟨c, rfl⟩) (fun _ => by rw [ow, jst_z]; exact Or.inl ⟨c, by omega⟩)⟩, fun z => absurd (Int.le_refl _) z⟩
    · have P := l2.resolve_left c
      refine c_first UN A (by omega) m1 P (fun V p oV gp _ => ?_)
      have g := (jpl_v A UN.2.2.2.1 gp.1 (by omega)).1
      refine last V _ oV g.1 (by omega) (fun w => ?_) (fun w => ?_)
      · rw [g.2.2]; exact Or.inr ⟨c, p, gp, Or.inr (Or.inl ⟨w, rfl⟩)⟩
      · rw [g.2.2]
        refine Or.inr ⟨c, p, gp, Or.inr (Or.inr ⟨w, ?_⟩)⟩
        obtain ⟨t, i, h1, h2, h3, h4, h5, h6, h7, h8⟩ := loc_ex A gp.1.1 gp.1.2.1
        have e := jpl_at A h1 h2 h3 h4
        rw [← h5] at e
        rw [e, h6, h7]; omega
  · have w := Classical.not_not.mp w0
    by_cases c : lzM T many = 0
    · exact Or.inl ⟨c, c⟩
    · obtain ⟨p, hp⟩ := l2.resolve_left c
      exact Or.inr ⟨c, p, hp, Or.inl ⟨w, rfl⟩⟩
end OM8
