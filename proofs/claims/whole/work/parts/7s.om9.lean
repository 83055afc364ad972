/-! what is in many texts: the component holds all texts -/
/-- only numbers of the large object at a have changed -/
def Hof (a : Int) (M M' : JM) : Prop := ∀ (k : Nat) (b j : Int), ¬ (k = 2 ∧ a + 1 ≤ b ∧ b ≤ a + 10) → ¬ (b = a ∧ 2810 ≤ k ∧ k ≤ 2812) → M' k b j = M k b j
/-- the first m texts are joined -/
def JnM (T : ATx) (M : JM) (a m : Int) : Prop := ∀ t, 0 ≤ t → t < m → M 2 (a + 1) t = jst T t ∧ M 2 (a + 2) t = jst T t + T.2.1 t ∧ M 2 (a + 4) (jst T t + T.2.1 t) = t ∧ M 2 (a + 5) (jst T t + T.2.1 t) = t ∧ ∀ i, 0 ≤ i → i < T.2.1 t → M 2 (a + 4) (jst T t + i) = T.2.2 t i + 40 ∧ M 2 (a + 5) (jst T t + i) = t
section OM9
variable {G : JG} {X : Int} {Q : Int → JM → Prop} {M : JM} {n a : Int} {T : ATx} {K : AKp} {P : ATx} {D : ADt}
theorem Hof.refl (a : Int) (M : JM) : Hof a M M := fun _ _ _ _ _ => rfl
theorem Hof.trans {M' M'' : JM} (h : Hof a M M') (g : Hof a M' M'') : Hof a M M'' := fun k b j q1 q2 => (g k b j q1 q2).trans (h k b j q1 q2)
theorem Hof.cb {M' : JM} (o : Hof a M M') (C : CB X n M T K P D) (A : AI T K P D) (ha : X + 258 ≤ a) : CB X n M' T K P D := C.keep A fun k b j q => o k b j (by unfold fpC fpS fpT fpK fpP fpD at q; omega) (by unfold fpC fpS fpT fpK fpP fpD at q; omega)
theorem Hof.frc {M' : JM} (o : Hof a M M') (ha : X + 258 ≤ a) : FrC X M M' := fun k b j h1 h2 => o k b j (by omega) (by omega)
theorem sx_big {M : JM} (B : BigS M a) : Sx M a 9640 := by
  obtain ⟨c, d, e, f⟩ := B
  exact ⟨c, ⟨d 1 (by omega) (by omega), d 2 (by omega) (by omega), d 3 (by omega) (by omega), d 4 (by omega) (by omega), d 5 (by omega) (by omega), d 6 (by omega) (by omega), d 7 (by omega) (by omega), d 8 (by omega) (by omega), d 9 (by omega) (by omega), d 10 (by omega) (by omega)⟩, ⟨e.1, e.2.1, e.2.2, f 4 (by omega) (by omega), f 5 (by omega) (by omega), f 6 (by omega) (by omega), f 7 (by omega) (by omega), f 8 (by omega) (by omega), by rw [f 9 (by omega) (by omega)]; decide, f 10 (by omega) (by omega)⟩, by omega, by omega⟩
theorem sall_sau {M : JM} (A : AT T) (S : Sx M a 9640) (h : SAll M a T) : ∃ F, SAu M a T F := by
  obtain ⟨h1, F, h2, h3⟩ := h
  have J : JF T F (M 2 (a + 5)) := fun t t0 t1 => ⟨(h2 t t0 t1).2.2.1, (h2 t t0 t1).2.2.2.1, fun i i0 i1 => (h2 t t0 t1).2.2.2.2 i i0 i1⟩
  exact ⟨F, S, h1, fun t t0 t1 => ⟨(h2 t t0 t1).1, (h2 t t0 t1).2.1⟩, J, fun k k0 k1 => (jF_r A J k0 k1).1.1, h3.2.1, h3.2.2⟩
set_option maxHeartbeats 1000000 in
theorem c_holdAll (C : CB X n M T K P D) (H : CH X M T) (A : AI T K P D) (hX : 0 < X) (ea : M 1212 X 0 = a) (na : a ≠ 0) (h : ∀ M' F, FrC X M M' → CB X n M' T K P D → CH X M' T → M' 1212 X 0 = a → M' 1213 X 0 = M 1213 X 0 → SAu M' a T F → Q 0 M') : Runs G 59 0 0 [(1, a), (1, X + 1)] M Q := by
  have W := C.1
  have a1 := A.1.1
  have a2 := A.1.2.1
  have nr := jst_r A.1
  have B := C.2.2.2.2.2.2
  have big : X + 258 ≤ a ∧ BigS M a := by
    have := B.2.1
    rw [ea] at this
    rcases this with q | q
    · exact absurd q na
    · exact ⟨q.1, q.2.2⟩
  obtain ⟨ha, bs⟩ := big
  have S := sx_big bs
  have CT1 := C.2.1.1
  refine lp_X8_holdAll (fun v0 v1 v2 N => a = v0 ∧ X + 1 = v1 ∧ 0 ≤ v2 ∧ v2 ≤ T.1 ∧ Hof a M N ∧ N 2810 a 0 = jst T v2 ∧ JnM T N a v2) (fun _ _ v2 => (T.1 - v2).toNat) ?_ _ _ M ?_
  · rintro v0 v1 t N ⟨rfl, rfl, i1, i2, o, i4, i5⟩
    have SN : Sx N a 9640 := S.keep fun k b j q => o k b j (by omega) (by omega)
    have CN := o.cb C A ha
    have WN := CN.1
    have e02 : N 2402 (X + 1) 0 = T.1 := CN.2.1.1
    have sh := w_shelf_t WN
    rw [e02]
    refine ⟨sh, fun q => ⟨SN.tt, ?_⟩, fun q => ⟨fun z => absurd z (by omega), fun _ => ?_⟩⟩
    · have e : t = T.1 := by omega
      subst e
      have J : JF T (N 2 (a + 4)) (N 2 (a + 5)) := fun t t0 t1 => ⟨(i5 t t0 t1).2.2.1, (i5 t t0 t1).2.2.2.1, fun i i0 i1 => (i5 t t0 t1).2.2.2.2 i i0 i1⟩
      refine c_arr (f := N 2 (a + 4)) (n := jst T T.1) SN i4 nr (fun k k0 k1 => ⟨rfl, (jF_r A.1 J k0 k1).1.1, (jF_r A.1 J k0 k1).1.2⟩) (fun M1 o1 s1 _ => ?_)
      have S1 := o1.sx SN
      have f1 : ∀ (k : Nat) (b j : Int), b < a → M1 k b j = M k b j := fun k b j z => by rw [o1 k b j (by omega)]; exact o k b j (by omega) (by omega)
      obtain ⟨M4, hM4⟩ : ∃ M4, M4 = jset (jset M1 2811 a 0 40) 2812 a 0 (M1 2405 (X + 1) 0) := ⟨_, rfl⟩
      rw [← hM4]
      have o4 : ∀ (k : Nat) (b j : Int), ¬ (b = a ∧ (k = 2811 ∨ k = 2812)) → M4 k b j = M1 k b j := fun k b j z => by
        rw [hM4, show jset (jset M1 2811 a 0 40) 2812 a 0 (M1 2405 (X + 1) 0) k b j = _ from if_neg (fun y => z ⟨y.2.1, Or.inr y.1⟩)]
        exact if_neg (fun y => z ⟨y.2.1, Or.inl y.1⟩)
      have oN : Hof a M M4 := o.trans fun k b j z1 z2 => by rw [o4 k b j (by omega)]; exact o1 k b j (by omega)
      have C4 := oN.cb C A ha
      have S4 : Sx M4 a 9640 := S.keep fun k b j q => oN k b j (by omega) (by omega)
      have e2 : ∀ b j, ¬ (a + 6 ≤ b ∧ b ≤ a + 10) → M4 2 b j = N 2 b j := fun b j z => by rw [o4 _ _ _ (by omega)]; exact o1 _ _ _ (by omega)
      have all : SAll M4 a T := ⟨by rw [o4 _ _ _ (by omega), o1 _ _ _ (by omega)]; exact i4, N 2 (a + 4), fun u u0 u1 => by
        obtain ⟨g1, g2, g3, g4, g5⟩ := i5 u u0 u1
        exact ⟨by rw [e2 _ _ (by omega)]; exact g1, by rw [e2 _ _ (by omega)]; exact g2, g3, by rw [e2 _ _ (by omega)]; exact g4, fun i i0 i1 => ⟨(g5 i i0 i1).1, by rw [e2 _ _ (by omega)]; exact (g5 i i0 i1).2⟩⟩, s1.keep fun b j _ => o4 _ _ _ (by omega)⟩
      have e12 : M4 1212 X 0 = a := by rw [oN _ _ _ (by omega) (by omega)]; exact ea
      have e05 : M4 2405 (X + 1) 0 = M 2405 (X + 1) 0 := oN _ _ _ (by omega) (by omega)
      have f4 : ∀ (k : Nat) (b j : Int), b < a → M4 k b j = M k b j := fun k b j z => oN k b j (by omega) (by omega)
      have H4 : CH X M4 T := by
        refine ⟨⟨?_, fun q2 u u0 u1 eu => ?_⟩, Or.inr ?_⟩
        · rw [f4 _ _ _ (by omega), e05]; exact H.1.1
        · rw [f4 _ _ _ (by omega), e05] at q2
          rw [f4 _ _ _ (by omega)] at eu
          obtain ⟨g1, g2⟩ := H.1.2 q2 u u0 u1 eu
          exact ⟨by rw [f4 _ _ _ (by omega)]; exact g1, g2.keep fun b j _ => f4 _ _ _ (by omega)⟩
        · rw [e12, e05]
          refine ⟨?_, fun _ _ => all⟩
          rw [hM4, jset_s, f1 _ _ _ (by omega)]; exact Int.le_refl _
      obtain ⟨F, U⟩ := sall_sau A.1 S4 all
      have w1 : M1 0 (X + 1) 0 = 14 := by rw [f1 _ _ _ (by omega)]; exact w_shelf_t W
      exact ⟨S1.tt, w1, S1.tt, h M4 F (oN.frc ha) C4 H4 e12 (f4 _ _ _ (by omega)) U⟩
    · have t1 : t < T.1 := by omega
      obtain ⟨x1, x2, x3, x4, x5⟩ := w_text WN i1 (show t < 40 by omega)
      obtain ⟨u1, u2, u3⟩ := A.1.2.2 t i1 t1
      have m := jst_mono A.1 (show 0 ≤ t + 1 by omega) (show t + 1 ≤ T.1 by omega) (Int.le_refl _)
      rw [jst_s i1] at m
      have m0 := jst_mono A.1 (Int.le_refl 0) i1 (by omega)
      rw [jst_z] at m0
      rw [w_shelf_500 WN, w_texts_t WN, w_texts_n WN, x1]
      refine ⟨sh, ⟨Or.inl rfl, i1, by omega⟩, SN.tt, c_join SN i4 m0 ⟨i1, by omega⟩ (c_tf CN A ⟨i1, t1⟩) u3 (by omega) (by rw [x3]; omega) (fun M3 o3 s3 p1 p2 p3 p4 _ => ?_)⟩
      have S3 : Sx M3 a 9640 := SN.keep fun k b j q => o3 k b j (by omega) (by omega)
      refine ⟨S3.tt, rn_X8_addSign _ _ _ M3 (sg_X8_addSign_0 _ _ _ M3 ?_)⟩
      rw [S3.f0, S3.f1, S3.t4, S3.n4, S3.t5, S3.n5, s3]
      obtain ⟨M4, hM4⟩ : ∃ M4, M4 = jset (jset (jset M3 2 (a + 4) (jst T t + T.2.1 t) t) 2 (a + 5) (jst T t + T.2.1 t) t) 2810 a 0 (jst T t + T.2.1 t + 1) := ⟨_, rfl⟩
      rw [← hM4]
      have o4 : ∀ (k : Nat) (b j : Int), ¬ (k = 2 ∧ (b = a + 4 ∨ b = a + 5)) → ¬ (k = 2810 ∧ b = a) → M4 k b j = M3 k b j := fun k b j z1 z2 => by
        rw [hM4, show jset (jset (jset M3 2 (a + 4) (jst T t + T.2.1 t) t) 2 (a + 5) (jst T t + T.2.1 t) t) 2810 a 0 (jst T t + T.2.1 t + 1) k b j = _ from if_neg (fun y => z2 ⟨y.1, y.2.1⟩), show jset (jset M3 2 (a + 4) (jst T t + T.2.1 t) t) 2 (a + 5) (jst T t + T.2.1 t) t k b j = _ from if_neg (fun y => z1 ⟨y.1, Or.inr y.2.1⟩)]
        exact if_neg (fun y => z1 ⟨y.1, Or.inl y.2.1⟩)
      have q4 : ∀ j, M4 2 (a + 4) j = if j = jst T t + T.2.1 t then t else M3 2 (a + 4) j := fun j => by
        rw [hM4, jset_k (by decide), jset_a (show a + 4 ≠ a + 5 by omega)]
        by_cases c : j = jst T t + T.2.1 t
        · rw [c, jset_s, if_pos rfl]
        · rw [jset_j c, if_neg c]
      have q5 : ∀ j, M4 2 (a + 5) j = if j = jst T t + T.2.1 t then t else M3 2 (a + 5) j := fun j => by
        rw [hM4, jset_k (by decide)]
        by_cases c : j = jst T t + T.2.1 t
        · rw [c, jset_s, if_pos rfl]
        · rw [jset_j c, if_neg c, jset_a (show a + 5 ≠ a + 4 by omega)]
      refine ⟨S3.tt, S3.tt, Or.inl rfl, fun z => absurd z (by omega), fun _ => ⟨S3.tt, S3.tt, ⟨rfl, by omega, by omega⟩, S3.tt, S3.tt, ⟨rfl, by omega, by omega⟩, S3.tt, by unfold jR; omega, S3.tt, fun _ => ⟨by unfold jR; omega, ⟨rfl, rfl, by omega, by omega, o.trans fun k b j z1 z2 => ?_, ?_, fun u u0 u1' => ?_⟩, by omega⟩⟩⟩
      · rw [o4 k b j (by omega) (by omega)]; exact o3 k b j (by omega) (by omega)
      · rw [hM4, jset_s, jst_s i1]; omega
      · have e1 : M4 2 (a + 1) u = M3 2 (a + 1) u := o4 _ _ _ (by omega) (by omega)
        have e2 : M4 2 (a + 2) u = M3 2 (a + 2) u := o4 _ _ _ (by omega) (by omega)
        rw [e1, e2, p1, p2]
        by_cases c : u = t
        · subst c
          rw [if_pos rfl, if_pos rfl, q4, q5, if_pos rfl, if_pos rfl]
          refine ⟨rfl, rfl, rfl, rfl, fun i i0 i1 => ?_⟩
          rw [q4, q5, if_neg (by omega), if_neg (by omega)]
          exact p3 i i0 i1
        · have ut : u < t := by omega
          obtain ⟨g1, g2, g3, g4, g5⟩ := i5 u u0 ut
          have mu := jst_mono A.1 (show 0 ≤ u + 1 by omega) (show u + 1 ≤ t by omega) (by omega)
          rw [jst_s u0] at mu
          rw [if_neg c, if_neg c, q4, q5, if_neg (by omega), if_neg (by omega), (p4 _ (by omega)).1, (p4 _ (by omega)).2]
          refine ⟨g1, g2, g3, g4, fun i i0 i1 => ?_⟩
          rw [q4, q5, if_neg (by omega), if_neg (by omega), (p4 _ (by omega)).1, (p4 _ (by omega)).2]
          exact g5 i i0 i1
  · have st : Hof a M (jset M 2810 a 0 0) ∧ jset M 2810 a 0 0 2810 a 0 = jst T 0 ∧ JnM T (jset M 2810 a 0 0) a 0 := ⟨fun k b j z1 z2 => if_neg (by omega), by rw [jset_s, jst_z], fun t t0 t1 => by omega⟩
    refine ⟨S.tt, fun _ => ⟨S.tt, rfl, rfl, by omega, a1, st⟩, fun z => ⟨S.tt, w_shelf_t W, fun _ => ⟨S.tt, rfl, rfl, by omega, a1, st⟩, fun z2 => ?_⟩⟩
    have H2 := H.2
    rw [ea] at H2
    rcases H2 with q | q
    · exact absurd q na
    · obtain ⟨F, U⟩ := sall_sau A.1 S (q.2 (Classical.not_not.mp z2) (Classical.not_not.mp z))
      exact h M F (FrC.refl X M) C H ea rfl U
end OM9
