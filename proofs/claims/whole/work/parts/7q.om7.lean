/-! what is in many texts: the component looks for a stretch -/
/-- a stretch that begins at b is that of the least text of s units that is in many texts -/
def Fst (T : ATx) (F sh : Int → Int) (s many b : Int) : Prop := ∃ r p, (Str (jst T T.1) sh s b (r + 1) ∧ vld (bsT T T.1) (lfT T) s p ∧ b ≤ rk (jst T T.1) F (jpl T p) ∧ rk (jst T T.1) F (jpl T p) < r + 1) ∧ many ≤ cT (bsT T T.1) (txT T) (lfT T) (unT T) s p ∧ ∀ p, vld (bsT T T.1) (lfT T) s p → rk (jst T T.1) F (jpl T p) < b → cT (bsT T T.1) (txT T) (lfT T) (unT T) s p < many
def StP (T : ATx) (F own od sh : Int → Int) (s many b c r : Int) : Prop := (0 ≤ b ∧ b ≤ r ∧ (0 < r → b < r) ∧ r ≤ jst T T.1) ∧ (∀ j, b < j → j < r → s ≤ sh j) ∧ (b = 0 ∨ sh b < s) ∧ (c = tcnt (owv T own s) od b r ∧ c < many) ∧ ∀ p, vld (bsT T T.1) (lfT T) s p → rk (jst T T.1) F (jpl T p) < b → cT (bsT T T.1) (txT T) (lfT T) (unT T) s p < many
def StM (T : ATx) (own od mk : Int → Int) (s b r : Int) : Prop := ∀ t, 0 ≤ t → t < 40 → mk t < r ∧ (mk t = b ↔ ∃ j, b ≤ j ∧ j < r ∧ owv T own s (od j) = t)
def StI (T : ATx) (F : Int → Int) (M : JM) (a s many v0 v1 v2 v3 v4 v5 : Int) (N : JM) : Prop := a = v0 ∧ s = v1 ∧ many = v2 ∧ Sof (fun c => c = a + 3) M N ∧ StP T F (M 2 (a + 5)) (M 2 (a + 6)) (M 2 (a + 10)) s many v3 v4 v5 ∧ StM T (M 2 (a + 5)) (M 2 (a + 6)) (N 2 (a + 3)) s v3 v5
section OM7
variable {T : ATx} {F own od sh : Int → Int} {s many : Int}
theorem owv_d (A : AT T) (J : JF T F own) {x : Int} (s1 : 1 ≤ s) (x0 : 0 ≤ x) (x1 : x < jst T T.1) : (s ≤ jst T (own x) + T.2.1 (own x) - x → owv T own s x = own x) ∧ (¬ s ≤ jst T (own x) + T.2.1 (own x) - x → owv T own s x = -1) := by
  obtain ⟨t, i, t0, t1, i0, i1, e⟩ := jtin A x0 x1
  have ow : own x = t := by
    by_cases c : i = T.2.1 t
    · rw [e, c]; exact (J t t0 t1).2.1
    · rw [e]; exact ((J t t0 t1).2.2 i i0 (by omega)).2
  rw [ow]
  constructor
  · intro h
    obtain ⟨p, v, ep, tp⟩ := jpl_of A s1 t0 t1 i0 (show i + s ≤ T.2.1 t by omega)
    have := owv_p A J s1 v
    rw [ep, ← e, tp] at this
    exact this
  · intro h
    refine cif_f (fun ⟨p, v, ep⟩ => h ?_)
    obtain ⟨t', i', h1, h2, h3, h4, h5, h6, h7, h8⟩ := loc_ex A v.1 v.2.1
    have g := jpl_at A h1 h2 h3 h4
    have g2 := (jpl_v A J v s1).1.2.2
    rw [← h5, ep] at g
    rw [ep, ow, h6] at g2
    have v3 := v.2.2
    rw [h7] at v3
    subst g2
    omega
/-- a new rank -/
theorem StP.new (A : AT T) (J : JF T F own) (S : SAo (jst T T.1) F od sh) (s1 : 1 ≤ s) (m1 : 1 ≤ many) {b c r : Int} (h : StP T F own od sh s many b c r) (lt : r < jst T T.1) (hs : sh r < s) : ((0 ≤ r ∧ r ≤ r) ∧ (∀ j, r < j → j ≤ r → s ≤ sh j)) ∧ (r = 0 ∨ sh r < s) ∧ (0 = tcnt (owv T own s) od r r ∧ 0 < many) ∧ ∀ p, vld (bsT T T.1) (lfT T) s p → rk (jst T T.1) F (jpl T p) < r → cT (bsT T T.1) (txT T) (lfT T) (unT T) s p < many := by
  obtain ⟨⟨b0, b1, b2, b3⟩, h1, h2, ⟨h3, h3'⟩, h4⟩ := h
  refine ⟨⟨⟨by omega, by omega⟩, fun j j0 j1 => by omega⟩, Or.inr hs, ⟨tcnt_z.symm, by omega⟩, fun p v rp => ?_⟩
  rcases Int.lt_or_le (rk (jst T T.1) F (jpl T p)) b with z | z
  · exact h4 p v z
  · have := tc_ge A J S s1 (b := b) (e := r) ⟨b0, by omega, b3, h1⟩ h2 (Or.inr hs) v z rp
    omega
theorem StM.new {mk : Int → Int} {b r : Int} (h : StM T own od mk s b r) : StM T own od mk s r r := fun t t0 t1 => ⟨(h t t0 t1).1, fun z => by have := (h t t0 t1).1; omega, fun ⟨j, j0, j1, _⟩ => by omega⟩
end OM7
section OM7B
variable {G : JG} {Q : Int → JM → Prop} {M : JM} {a s many : Int} {T : ATx} {F : Int → Int}
set_option maxHeartbeats 2000000 in
theorem c_stretch (S : Sx M a 9640) (hN : M 2810 a 0 = jst T T.1) (hu : ∀ t, 0 ≤ t → t < T.1 → M 2 (a + 2) t = jst T t + T.2.1 t) (A : AT T) (J : JF T F (M 2 (a + 5))) (O : SAo (jst T T.1) F (M 2 (a + 6)) (M 2 (a + 10))) (s1 : 1 ≤ s) (m1 : 1 ≤ many) (y : ∀ M' b, Sof (fun c => c = a + 3) M M' → 0 ≤ b → Fst T F (M 2 (a + 10)) s many b → Q b M') (no : ∀ M', Sof (fun c => c = a + 3) M M' → (∀ p, vld (bsT T T.1) (lfT T) s p → cT (bsT T T.1) (txT T) (lfT T) (unT T) s p < many) → Q (-1) M') : Runs G 79 0 0 [(1, a), (0, s), (0, many)] M Q := by
  have nr := jst_r A
  have a2 := A.2.1
  refine lp_X8_stretchOf (fun v0 v1 v2 v3 N => a = v0 ∧ s = v1 ∧ many = v2 ∧ 0 ≤ v3 ∧ v3 ≤ 40 ∧ Sof (fun c => c = a + 3) M N ∧ ∀ t, 0 ≤ t → t < v3 → N 2 (a + 3) t = -1) (fun _ _ _ v3 => (20000 - v3).toNat) (StI T F M a s many) (fun _ _ _ _ _ v5 => (10000 - v5).toNat) ?_ ?_ _ _ _ M ⟨rfl, rfl, rfl, by omega, by omega, Sof.refl _ M, fun t t0 t1 => by omega⟩
  · rintro v0 v1 v2 v3 N ⟨rfl, rfl, rfl, i1, i2, o, i4⟩
    have SN := o.sx S
    rw [SN.f4, SN.t3, SN.n3]
    refine ⟨fun q => ⟨⟨rfl, rfl, rfl, o, ⟨⟨by omega, by omega, fun z => by omega, nr.1⟩, fun j j0 j1 => by omega, Or.inl rfl, ⟨tcnt_z.symm, by omega⟩, fun p v z => ?_⟩, fun t t0 t1 => ?_⟩, by omega⟩, fun q => ⟨SN.tt, ⟨rfl, i1, by omega⟩, by unfold jR; omega, ⟨rfl, rfl, rfl, by omega, by omega, o.set rfl _ _, fun t t0 t1 => ?_⟩, by omega⟩⟩
    · have g := (jpl_v A J v s1).1
      have := rk_r (f := F) g.1 (show jpl T p < jst T T.1 by omega)
      omega
    · rw [i4 t t0 (by omega)]
      exact ⟨by omega, fun z => by omega, fun ⟨j, j0, j1, _⟩ => by omega⟩
    · by_cases c : t = v3
      · rw [c, jset_s]
      · rw [jset_j c]; exact i4 t t0 (by omega)
  · rintro v0 v1 v2 b c r N ⟨rfl, rfl, rfl, o, hP, hM⟩
    have SN := o.sx S
    have tt := SN.tt
    have e5 : ∀ j, N 2 (a + 5) j = M 2 (a + 5) j := fun j => o _ _ _ (by omega)
    have e6 : ∀ j, N 2 (a + 6) j = M 2 (a + 6) j := fun j => o _ _ _ (by omega)
    have e2 : ∀ j, N 2 (a + 2) j = M 2 (a + 2) j := fun j => o _ _ _ (by omega)
    have e10 : ∀ j, N 2 (a + 10) j = M 2 (a + 10) j := fun j => o _ _ _ (by omega)
    have en : N 2810 a 0 = jst T T.1 := by rw [o _ _ _ (by omega)]; exact hN
    obtain ⟨⟨b0, b1, b2, b3⟩, h1, h2, ⟨h3, h3'⟩, h4⟩ := id hP
    rw [en, SN.f9, SN.t10, SN.n10, SN.f5, SN.t6, SN.n6, SN.f1, SN.t5, SN.n5, SN.f4, SN.t3, SN.n3, SN.f3, SN.t2, SN.n2, e10, e6, e5, e2]
    refine ⟨tt, fun q => no N o (fun p v => ?_), fun q => ?_⟩
    · have g := (jpl_v A J v s1).1
      have rp := rk_r (f := F) g.1 (show jpl T p < jst T T.1 by omega)
      rcases Int.lt_or_le (rk (jst T T.1) F (jpl T p)) b with z | z
      · exact h4 p v z
      · have := tc_ge A J O s1 (b := b) (e := jst T T.1) ⟨b0, by omega, by omega, fun j j0 j1 => h1 j j0 (by omega)⟩ h2 (Or.inl rfl) v z rp.2
        have er : r = jst T T.1 := by omega
        rw [← er] at this
        omega
    · obtain ⟨x0, x1, x2⟩ := O.o (show 0 ≤ r by omega) (by omega)
      obtain ⟨x, hx⟩ : ∃ x, x = M 2 (a + 6) r := ⟨_, rfl⟩
      rw [← hx] at x0 x1 x2 ⊢
      have ow := (jF_r A J x0 x1).2
      obtain ⟨t, ht⟩ : ∃ t, t = M 2 (a + 5) x := ⟨_, rfl⟩
      have od := owv_d A J s1 x0 x1
      rw [← ht] at ow od ⊢
      rw [hu t ow.1 ow.2]
      have m0 := jst_mono A (show 0 ≤ t + 1 by omega) (show t + 1 ≤ T.1 by omega) (Int.le_refl _)
      rw [jst_s ow.1] at m0
      have m2 := jst_mono A (Int.le_refl 0) ow.1 (by omega)
      rw [jst_z] at m2
      have l0 := (A.2.2 t ow.1 ow.2).1
      have tail : ∀ b c, (0 ≤ b ∧ b ≤ r) ∧ (∀ j, b < j → j ≤ r → s ≤ M 2 (a + 10) j) → (b = 0 ∨ M 2 (a + 10) b < s) ∧ (c = tcnt (owv T (M 2 (a + 5)) s) (M 2 (a + 6)) b r ∧ c < many) ∧ (∀ p, vld (bsT T T.1) (lfT T) s p → rk (jst T T.1) F (jpl T p) < b → cT (bsT T T.1) (txT T) (lfT T) (unT T) s p < many) → StM T (M 2 (a + 5)) (M 2 (a + 6)) (N 2 (a + 3)) s b r → N 0 a 0 = 18 ∧ N 0 a 0 = 18 ∧ ((1 : Int) = 1 ∧ 0 ≤ r ∧ r < 9640) ∧ ((1 : Int) = 1 ∧ 0 ≤ x ∧ x < 9640) ∧ N 0 a 0 = 18 ∧ ((1 : Int) = 1 ∧ 0 ≤ t ∧ t < 40) ∧ ((N 2 (a + 3) t = b → (c < many → jR (r + 1) ∧ StI T F M a s many a s many b c (r + 1) N ∧ (10000 - (r + 1)).toNat < (10000 - r).toNat) ∧ (¬ c < many → Q b N)) ∧ (¬ N 2 (a + 3) t = b → N 0 a 0 = 18 ∧ ((1 : Int) = 1 ∧ 0 ≤ t ∧ t < 40) ∧ N 0 a 0 = 18 ∧ ((1 : Int) = 1 ∧ 0 ≤ r ∧ r < 9640) ∧ jR (jst T t + T.2.1 t - x) ∧ (jst T t + T.2.1 t - x < s → (c < many → jR (r + 1) ∧ StI T F M a s many a s many b c (r + 1) N ∧ (10000 - (r + 1)).toNat < (10000 - r).toNat) ∧ (¬ c < many → Q b N)) ∧ (¬ jst T t + T.2.1 t - x < s → N 0 a 0 = 18 ∧ ((1 : Int) = 1 ∧ 0 ≤ t ∧ t < 40) ∧ jR (c + 1) ∧ (c + 1 < many → jR (r + 1) ∧ StI T F M a s many a s many b (c + 1) (r + 1) (jset N 2 (a + 3) t b) ∧ (10000 - (r + 1)).toNat < (10000 - r).toNat) ∧ (¬ c + 1 < many → Q b (jset N 2 (a + 3) t b))))) := by
        rintro b c ⟨⟨b0, b1⟩, g1⟩ ⟨g2, ⟨g3, g3'⟩, g4⟩ mM
        have tr := @tcnt_r (owv T (M 2 (a + 5)) s) (M 2 (a + 6)) b r
        have nxt : tcnt (owv T (M 2 (a + 5)) s) (M 2 (a + 6)) b (r + 1) = tcnt (owv T (M 2 (a + 5)) s) (M 2 (a + 6)) b r → (owv T (M 2 (a + 5)) s x = t → N 2 (a + 3) t = b) → StI T F M a s many a s many b c (r + 1) N := fun e z => by
          refine ⟨rfl, rfl, rfl, o, ⟨⟨b0, by omega, fun _ => by omega, by omega⟩, fun j j0 j1 => g1 j j0 (by omega), g2, ⟨by omega, g3'⟩, g4⟩, fun u u0 u1 => ?_⟩
          obtain ⟨w1, w2⟩ := mM u u0 u1
          refine ⟨by omega, fun w => ?_, fun ⟨j, j0, j1, j2⟩ => ?_⟩
          · obtain ⟨j, j0, j1, j2⟩ := w2.mp w
            exact ⟨j, j0, by omega, j2⟩
          · by_cases w : j = r
            · rw [w, ← hx] at j2
              by_cases v : s ≤ jst T t + T.2.1 t - x
              · have := od.1 v
                rw [this] at j2
                rw [← j2]; exact z this
              · have := od.2 v
                omega
            · exact w2.mpr ⟨j, j0, by omega, j2⟩
        have jr : jR (r + 1) := by unfold jR; omega
        have lt9 : (10000 - (r + 1)).toNat < (10000 - r).toNat := by omega
        refine ⟨tt, tt, ⟨rfl, by omega, by omega⟩, ⟨rfl, x0, by omega⟩, tt, ⟨rfl, ow.1, by omega⟩, fun mt => ⟨fun _ => ⟨jr, nxt ?_ (fun _ => mt), lt9⟩, fun z => absurd g3' z⟩, fun mt => ⟨tt, ⟨rfl, ow.1, by omega⟩, tt, ⟨rfl, by omega, by omega⟩, by unfold jR; omega, fun lt => ⟨fun _ => ⟨jr, nxt (tcnt_skip (by rw [← hx]; exact od.2 (by omega))) (fun z => by rw [od.2 (by omega)] at z; omega), lt9⟩, fun z => absurd g3' z⟩, fun lt => ?_⟩⟩
        · obtain ⟨j, j0, j1, j2⟩ := (mM t ow.1 (by omega)).2.mp mt
          by_cases v : s ≤ jst T t + T.2.1 t - x
          · exact tcnt_old ⟨j, j0, j1, by rw [j2, ← hx, od.1 v]⟩
          · exact tcnt_skip (by rw [← hx]; exact od.2 v)
        · have ov := od.1 (show s ≤ jst T t + T.2.1 t - x by omega)
          have tn : tcnt (owv T (M 2 (a + 5)) s) (M 2 (a + 6)) b (r + 1) = tcnt (owv T (M 2 (a + 5)) s) (M 2 (a + 6)) b r + 1 := tcnt_new b1 (by rw [← hx, ov]; omega) (fun j j0 j1 z => mt ((mM t ow.1 (by omega)).2.mpr ⟨j, j0, j1, by rw [z, ← hx, ov]⟩))
          refine ⟨tt, ⟨rfl, ow.1, by omega⟩, by unfold jR; omega, fun l => ⟨jr, ⟨rfl, rfl, rfl, o.set rfl _ _, ⟨⟨b0, by omega, fun _ => by omega, by omega⟩, fun j j0 j1 => g1 j j0 (by omega), g2, ⟨by omega, l⟩, g4⟩, fun u u0 u1 => ?_⟩, lt9⟩, fun l => ?_⟩
          · by_cases w : u = t
            · rw [w, jset_s]
              exact ⟨by omega, fun _ => ⟨r, b1, by omega, by rw [← hx]; exact ov⟩, fun _ => rfl⟩
            · rw [jset_j w]
              obtain ⟨w1, w2⟩ := mM u u0 u1
              refine ⟨by omega, fun z => ?_, fun ⟨j, j0, j1, j2⟩ => ?_⟩
              · obtain ⟨j, j0, j1, j2⟩ := w2.mp z
                exact ⟨j, j0, by omega, j2⟩
              · by_cases v : j = r
                · rw [v, ← hx, ov] at j2; omega
                · exact w2.mpr ⟨j, j0, by omega, j2⟩
          · obtain ⟨p, vp, ep, _⟩ := owv_t A J s1 ow.1 ov
            have R : Str (jst T T.1) (M 2 (a + 10)) s b (r + 1) := ⟨b0, by omega, by omega, fun j j0 j1 => g1 j j0 (by omega)⟩
            have le := tc_le A J O s1 R vp (by rw [ep, x2]; exact b1) (by rw [ep, x2]; omega)
            exact y _ b (o.set rfl _ _) b0 ⟨r, p, ⟨R, vp, by rw [ep, x2]; exact b1, by rw [ep, x2]; omega⟩, by omega, g4⟩
      refine ⟨tt, ⟨rfl, by omega, by omega⟩, fun g => tail b c ⟨⟨b0, b1⟩, fun j j0 j1 => ?_⟩ ⟨h2, ⟨h3, h3'⟩, h4⟩ hM, fun g => tail r 0 (hP.new A J O s1 m1 (by omega) (by omega)).1 (hP.new A J O s1 m1 (by omega) (by omega)).2 hM.new⟩
      by_cases w : j = r
      · rw [w]; exact g
      · exact h1 j j0 (by omega)
end OM7B
