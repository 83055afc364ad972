/-! step: expand -/
section EXPAND
variable {G : JG} {X : Int}
section EXPA
variable {Q : Int → JM → Prop} {M : JM} {n t S : Int} {F : Int → Int} {T : ATx} {K : AKp} {P : ATx} {D : ADt}
theorem c_txa {N : JM} {s : Int} (C : CB X n N (atx T t s F) K P D) (A : AI (atx T t s F) K P D) (ht : 0 ≤ t ∧ t < T.1) : Tx N (X + (4 + 2 * t)) 240 ∧ N 2901 (X + (4 + 2 * t)) 0 = s ∧ N 1000 (X + (4 + 2 * t)) 0 = X + (5 + 2 * t) ∧ (∀ i, 0 ≤ i → i < s → N 2 (X + (5 + 2 * t)) i = F i) ∧ N 0 (X + (4 + 2 * t)) 0 = 19 ∧ N 0 (X + (5 + 2 * t)) 0 = 1 ∧ N 1 (X + (5 + 2 * t)) 0 = 240 ∧ AU s F := by
  obtain ⟨a1, a2, a3, a4, a5, a6, a7, -, -⟩ := c_txt C A ht
  have u := A.1.2.2 t ht.1 ht.2
  rw [atx_n] at a2
  rw [atx_n, atx_f] at a4 u
  exact ⟨a1, a2, a3, a4, a5, a6, a7, u⟩
/-- one item of the first way -/
theorem c_unC {k s : Int} (C : CB X n M (atx T t s F) K P D) (A : AI (atx T t s F) K P D) (ht : 0 ≤ t ∧ t < T.1) (h0 : 0 ≤ k) (h1 : k < (D.1 5).length) (hp : Pos 0 (D.1 5) F S k s) (h : ∀ N s', Cof X t M N → CB X n N (atx T t s' F) K P D → AI (atx T t s' F) K P D → Pos 0 (D.1 5) F S (k + 1) s' → Q 0 N) : Runs G 46 0 0 [(1, X + 199), (1, X + (4 + 2 * t)), (0, k)] M Q := by
  have W := C.1
  have td := C.2.2.2.2.2.1.2.2.2.2.2.1
  refine lp_X6_unfoldCopy (fun v0 v1 v2 v3 v4 N => X + 199 = v0 ∧ X + (4 + 2 * t) = v1 ∧ k = v2 ∧ rowx (D.1 5) k 1 = v3 ∧ ¬ rowx (D.1 5) k 0 = 0 ∧ 0 ≤ v4 ∧ v4 ≤ rowx (D.1 5) k 2 ∧ Cof X t M N ∧ CB X n N (atx T t (s + v4) F) K P D ∧ AI (atx T t (s + v4) F) K P D) (fun _ _ _ _ v4 => (1000 - v4).toNat) ?_ _ _ _ M ?_
  · rintro v0 v1 v2 v3 v4 N ⟨rfl, rfl, rfl, rfl, i0, i1, i2, i3, i4, i5⟩
    obtain ⟨-, p2, p3, p4, p5, p6⟩ := Pos_copy hp h0 h1 i0
    have WN := i4.1
    have tdN := i4.2.2.2.2.2.1.2.2.2.2.2.1
    obtain ⟨TN, e1, e2, e3, e4, e5, e6, e7⟩ := c_txa i4 i5 ht
    rw [w_squeezer_700 WN]
    refine ⟨w_squeezer_t WN, w_qitems_t WN, c_answer tdN ?_⟩
    rw [tans_in (by omega) (by omega) h0 h1]
    refine fun _ => ⟨fun q => ?_, fun q => ⟨by unfold jR; omega, e4, c_hasPlace TN (fun _ _ _ => ⟨fun z => absurd z (by decide), fun _ => ?_⟩) (fun z => absurd ⟨by omega, by rw [e1]; omega⟩ z)⟩⟩
    · have : v4 = rowx (D.1 5) k 2 := by omega
      subst this
      exact h N _ i3 i4 i5 p6
    · rw [e2, e3 _ (by omega) (by omega)]
      refine ⟨e4, by unfold jR; omega, ⟨e5, by omega, by omega⟩, e4, c_putF i4 i5 ht ⟨by omega, by omega⟩ (p5 v4 i1 (by omega)).symm (by rw [p5 v4 i1 (by omega)]; exact e7.2.2 _ (by omega) (by omega)) (fun M3 o3 c3 a3 _ => ⟨by unfold jR; omega, ⟨rfl, rfl, rfl, rfl, i0, by omega, by omega, i3.trans o3, ?_, ?_⟩, by omega⟩)⟩
      · rw [show s + (v4 + 1) = s + v4 + 1 by omega]; exact c3
      · rw [show s + (v4 + 1) = s + v4 + 1 by omega]; exact a3
  · rw [w_squeezer_700 W]
    refine ⟨w_squeezer_t W, w_qitems_t W, c_answer td ?_⟩
    rw [tans_in (by omega) (by omega) h0 h1]
    refine fun _ => ⟨w_squeezer_t W, ?_⟩
    rw [w_squeezer_700 W]
    refine ⟨w_qitems_t W, c_answer td ?_⟩
    rw [tans_in (by omega) (by omega) h0 h1]
    obtain ⟨TN, e1, e2, e3, e4, e5, e6, e7⟩ := c_txa C A ht
    refine fun _ => ⟨fun q => ⟨rfl, rfl, rfl, rfl, q, by omega, by have := (Pos_copy hp h0 h1 q).2.2.1; omega, Cof.refl X t M, ?_, ?_⟩, fun q => ⟨e4, ?_⟩⟩
    · rw [show s + 0 = s by omega]; exact C
    · rw [show s + 0 = s by omega]; exact A
    · obtain ⟨p1, p2, p3, p4⟩ := Pos_unit hp h0 h1 (Classical.not_not.mp q)
      exact c_putF C A ht ⟨e7.1, p3⟩ p1.symm (by rw [p1]; exact p2) (fun M3 o3 c3 a3 _ => h M3 _ o3 c3 a3 p4)
/-- the frame of the second way -/
def Vof (X t : Int) (M M' : JM) : Prop := ∀ (k : Nat) (a j : Int), ¬ (k = 2901 ∧ a = X + (4 + 2 * t)) → ¬ (k = 2 ∧ a = X + (5 + 2 * t)) → ¬ (k = 2 ∧ (a = X + 202 ∨ a = X + 203)) → M' k a j = M k a j
theorem Vof.trans {M' M'' : JM} (h : Vof X t M M') (g : Vof X t M' M'') : Vof X t M M'' := fun k a j h1 h2 h3 => (g k a j h1 h2 h3).trans (h k a j h1 h2 h3)
theorem Cof.V {M' : JM} (h : Cof X t M M') : Vof X t M M' := fun k a j h1 h2 _ => h k a j h1 h2
/-- what is written behind an item -/
def uE (X t k : Int) (N : JM) (Q : Int → JM → Prop) (M6 : JM) : Prop := M6 0 (X + 199) 0 = 16 ∧ jR (k + 1) ∧ (M6 0 (M6 701 (X + 199) 0) 0 = 1 ∧ (0 : Int) ≤ k + 1 ∧ k + 1 < M6 1 (M6 701 (X + 199) 0) 0) ∧ M6 0 (X + 199) 0 = 16 ∧ jR (k + 1) ∧ M6 0 (X + (4 + 2 * t)) 0 = 19 ∧ (M6 0 (M6 702 (X + 199) 0) 0 = 1 ∧ (0 : Int) ≤ k + 1 ∧ k + 1 < M6 1 (M6 702 (X + 199) 0) 0) ∧ Q 0 (jset (jset M6 2 (M6 701 (X + 199) 0) (k + 1) (N 2901 (X + (4 + 2 * t)) 0)) 2 (M6 702 (X + 199) 0) (k + 1) (M6 2901 (X + (4 + 2 * t)) 0))
def uA (X : Int) (N : JM) (l : List TR) (k : Int) : Prop := ∀ q, 1 ≤ q → q ≤ k → N 2 (X + 202) q = phs l (q - 1) ∧ N 2 (X + 203) q = phs l q
theorem c_unP {k : Int} {l : List TR} (hl : D.1 5 = l) (C : CB X n M (atx T t (phs l k) F) K P D) (A : AI (atx T t (phs l k) F) K P D) (ht : 0 ≤ t ∧ t < T.1) (ht2 : T.1 ≤ 40) (h0 : 0 ≤ k) (h1 : k < l.length) (hp : Pos 1 l F S k (phs l k)) (ha : uA X M l k) (h : ∀ N, Vof X t M N → CB X n N (atx T t (phs l (k + 1)) F) K P D → AI (atx T t (phs l (k + 1)) F) K P D → uA X N l (k + 1) → Q 0 N) : Runs G 47 0 0 [(1, X + 199), (1, X + (4 + 2 * t)), (0, k)] M Q := by
  have W := C.1
  have td := C.2.2.2.2.2.1.2.2.2.2.2.1
  rw [hl] at td
  have tl := td.2.2.1.2
  obtain ⟨TN, e1, e2, e3, e4, e5, e6, e7⟩ := c_txa C A ht
  obtain ⟨-, g, p3, p4, p5, p6, p7, p8⟩ := Pos_ph hp h0 h1
  have ps := phs_s g h0 h1
  have pn := phl_n (l := l) l.length (rowx l k 0)
  have xf := p7 k h0 h1
  have fin2 : ∀ M6, Cof X t M M6 → CB X n M6 (atx T t (phs l (k + 1)) F) K P D → AI (atx T t (phs l (k + 1)) F) K P D → uE X t k M Q M6 := fun M6 o c a => by
    have W6 := c.1
    obtain ⟨-, x1, -, -, x4, -⟩ := c_txa c a ht
    unfold uE
    rw [w_squeezer_701 W6, w_squeezer_702 W6, w_qfrom_t W6, w_qfrom_n W6, w_qto_t W6, w_qto_n W6, x1, e1]
    refine ⟨w_squeezer_t W6, by unfold jR; omega, ⟨rfl, by omega, by omega⟩, w_squeezer_t W6, by unfold jR; omega, x4, ⟨rfl, by omega, by omega⟩, h _ ?_ ?_ a ?_⟩
    · exact o.V.trans fun k a j h1 h2 h3 => by
        rw [show jset (jset M6 2 (X + 202) _ _) 2 (X + 203) _ _ k a j = _ from if_neg (fun z => h3 ⟨z.1, Or.inr z.2.1⟩)]
        exact if_neg (fun z => h3 ⟨z.1, Or.inl z.2.1⟩)
    · exact c.keep a fun k a j q => by
        have : ¬ (k = 2 ∧ (a = X + 202 ∨ a = X + 203)) := by unfold fpC fpS fpT fpK fpP fpD at q; omega
        rw [show jset (jset M6 2 (X + 202) _ _) 2 (X + 203) _ _ k a j = _ from if_neg (fun z => this ⟨z.1, Or.inr z.2.1⟩)]
        exact if_neg (fun z => this ⟨z.1, Or.inl z.2.1⟩)
    · intro q q1 q2
      rw [jset_a (by omega)]
      by_cases hq : q = k + 1
      · rw [hq, jset_s, jset_s, show k + 1 - 1 = k by omega]
        exact ⟨rfl, rfl⟩
      · rw [jset_j hq, jset_j hq, jset_a (by omega), o _ _ _ (by omega) (by omega), o _ _ _ (by omega) (by omega)]
        exact ha q q1 (by omega)
  have fin : ∀ M5, Cof X t M M5 → CB X n M5 (atx T t (phs l k + phl l l.length (rowx l k 0)) F) K P D → AI (atx T t (phs l k + phl l l.length (rowx l k 0)) F) K P D → ((rowx l k 1 = -1 → uE X t k M Q M5) ∧ (¬ rowx l k 1 = -1 → M5 0 (X + (4 + 2 * t)) 0 = 19 ∧ Runs G 88 0 0 [(1, X + (4 + 2 * t)), (0, rowx l k 1)] M5 (fun _ M6 => jokM M6 → uE X t k M Q M6))) := fun M5 o c a => by
    obtain ⟨-, x1, -, -, x4, -, -, x7⟩ := c_txa c a ht
    refine ⟨fun z => ?_, fun z => ⟨x4, c_putF c a ht ⟨x7.1, ?_⟩ (xf.2 z).symm ?_ (fun M6 o6 c6 a6 _ => fin2 M6 (o.trans o6) ?_ ?_)⟩⟩
    · rw [if_pos z] at ps
      rw [show phs l k + phl l l.length (rowx l k 0) = phs l (k + 1) by omega] at c a
      exact fin2 M5 o c a
    · rw [if_neg z] at ps; omega
    · rw [xf.2 z]; exact p5.resolve_right z
    · rw [if_neg z] at ps
      rw [show phs l (k + 1) = phs l k + phl l l.length (rowx l k 0) + 1 by omega]; exact c6
    · rw [if_neg z] at ps
      rw [show phs l (k + 1) = phs l k + phl l l.length (rowx l k 0) + 1 by omega]; exact a6
  refine rn_X6_unfoldPhrase _ _ _ M (sg_X6_unfoldPhrase_0 _ _ _ M ?_)
  rw [w_squeezer_700 W]
  refine ⟨w_squeezer_t W, w_qitems_t W, c_answer td ?_⟩
  rw [tans_in (by omega) (by omega) h0 h1]
  refine fun _ => ⟨w_squeezer_t W, ?_⟩
  rw [w_squeezer_700 W]
  refine ⟨w_qitems_t W, c_answer td ?_⟩
  rw [tans_in (by omega) (by omega) h0 h1]
  refine fun _ => ⟨e4, fun q => ?_, fun q => ⟨fun z => absurd z (by omega), fun _ => ?_⟩⟩
  · have r0 : rowx l k 0 = 0 := by omega
    have z : phl l l.length (rowx l k 0) = 0 := by rw [r0]; exact phl_z
    exact fin M (Cof.refl X t M) (by rw [z, show phs l k + 0 = phs l k by omega]; exact C) (by rw [z, show phs l k + 0 = phs l k by omega]; exact A)
  · obtain ⟨p, hpp⟩ : ∃ p, p = rowx l k 0 := ⟨_, rfl⟩
    rw [← hpp] at q p3 pn xf ps fin ⊢
    have ap := ha p (by omega) (by omega)
    have fp := p4 (p - 1) (by omega) (by omega)
    have sp := phs_s g (k := p - 1) (by omega) (by omega)
    rw [if_neg (by omega), show p - 1 + 1 = p by omega] at sp
    have lp := phl_s g (p := p) (by omega) (by omega)
    have le := phs_le g (k := p) (m := k) (by omega) (by omega) (by omega)
    have pm := phl_n (l := l) l.length (rowx l (p - 1) 0)
    have s0 := phs_le g (k := 0) (m := p - 1) (by omega) (by omega) (by omega)
    rw [show phs l 0 = 0 by unfold phs; exact smI_z (by omega)] at s0
    have xp := p7 (p - 1) (by omega) (by omega)
    rw [w_squeezer_701 W, w_squeezer_702 W, w_qfrom_t W, w_qfrom_n W, w_qto_t W, w_qto_n W, ap.1, ap.2]
    refine ⟨w_squeezer_t W, ⟨rfl, by omega, by omega⟩, w_squeezer_t W, ⟨rfl, by omega, by omega⟩, e4, c_ppA C A ht TN (g := F) (fun i i0 i1 => by rw [e2]; exact e3 i i0 (by omega)) (fun i i0 i1 => e7.2.2 i (by omega) (by omega)) (by omega) (by omega) (by omega) ?_ (fun M5 o5 c5 a5 _ => ?_)⟩
    · rw [atx_n]
      by_cases z : rowx l k 1 = -1
      · rw [if_pos z] at ps; omega
      · rw [if_neg z] at ps; omega
    · rw [atx_atx, atx_n, atx_f, show phs l p - phs l (p - 1) = phl l l.length p by omega] at c5 a5
      have sm : Same (atx T t (phs l k + phl l l.length p) (fun i => if i < phs l k then F i else F (phs l (p - 1) + (i - phs l k)))) (atx T t (phs l k + phl l l.length p) F) := same_atx2 fun i i0 i1 => by
        by_cases hi : i < phs l k
        · rw [if_pos hi]
        · rw [if_neg hi]
          have a := xf.1 (i - phs l k) (by omega) (by omega)
          rw [show phs l k + (i - phs l k) = i by omega] at a
          rw [a, phv_s g (by omega) (by omega)]
          by_cases hj : i - phs l k = phl l l.length (rowx l (p - 1) 0)
          · rw [if_pos hj, hj]; exact (xp.2 (by omega)).symm
          · rw [if_neg hj]; exact (xp.1 (i - phs l k) (by omega) (by omega)).symm
      exact fin M5 o5 (sm.CB c5) (sm.AI a5)
/-- all items, both ways -/
theorem c_unfold {w : Int} (C : CB X n M (atx T t 0 F) K P D) (A : AI (atx T t 0 F) K P D) (ht : 0 ≤ t ∧ t < T.1) (ht2 : T.1 ≤ 40) (hw : D.2 = w) (h01 : w = 0 ∨ w = 1) (hp : Pos w (D.1 5) F S 0 0) (h : ∀ N, Vof X t M N → CB X n N (atx T t S F) K P D → AI (atx T t S F) K P D → Q 0 N) : Runs G 45 0 0 [(1, X + 199), (1, X + (4 + 2 * t))] M Q := by
  refine lp_X6_unfold (fun v0 v1 v2 N => X + 199 = v0 ∧ X + (4 + 2 * t) = v1 ∧ 0 ≤ v2 ∧ v2 ≤ (D.1 5).length ∧ Vof X t M N ∧ ∃ s, Pos w (D.1 5) F S v2 s ∧ CB X n N (atx T t s F) K P D ∧ AI (atx T t s F) K P D ∧ (w = 1 → uA X N (D.1 5) v2)) (fun _ _ v2 => (1000 - v2).toNat) ?_ _ _ M ⟨rfl, rfl, by omega, by omega, fun _ _ _ _ _ _ => rfl, 0, hp, C, A, fun _ q q1 q2 => by omega⟩
  rintro v0 v1 v2 N ⟨rfl, rfl, i1, i2, i3, s, i4, i5, i6, i7⟩
  have WN := i5.1
  have cd := i5.2.2.2.2.2.1
  have td := cd.2.2.2.2.2.1
  have tl := td.2.2.1.2
  rw [w_squeezer_700 WN, td.2.2.1.1, cd.2.2.2.2.2.2.2, hw]
  refine ⟨w_squeezer_t WN, w_qitems_t WN, fun q => ?_, fun q => ⟨w_squeezer_t WN, fun z => ⟨w_squeezer_t WN, ?_⟩, fun z => ⟨w_squeezer_t WN, ?_⟩⟩⟩
  · have : v2 = (D.1 5).length := by omega
    subst this
    have e := Pos_end i4
    subst e
    exact h N i3 i5 i6
  · have w1 : w = 1 := by omega
    subst w1
    have e := (Pos_ph i4 i1 (by omega)).1
    subst e
    exact c_unP rfl i5 i6 ht ht2 i1 (by omega) i4 (i7 rfl) (fun M3 o3 c3 a3 u3 _ => ⟨by unfold jR; omega, ⟨rfl, rfl, by omega, by omega, i3.trans o3, _, (Pos_ph i4 i1 (by omega)).2.2.2.2.2.2.2, c3, a3, fun _ => u3⟩, by omega⟩)
  · have w0 : w = 0 := Classical.not_not.mp z
    subst w0
    exact c_unC i5 i6 ht i1 (by omega) i4 (fun M3 s' o3 c3 a3 p3 _ => ⟨by unfold jR; omega, ⟨rfl, rfl, by omega, by omega, i3.trans o3.V, s', p3, c3, a3, fun z => absurd z (by decide)⟩, by omega⟩)
end EXPA
section EXPR
variable {Q : Int → JM → Prop} {M : JM} {t S : Int} {F : Int → Int} {T : ATx} {K : AKp} {P : ATx} {D : ADt}
theorem r_txa {N : JM} {s : Int} (R : RI X N (atx T t s F) K P D) (A : AI (atx T t s F) K P D) (ht : 0 ≤ t ∧ t < T.1) : N 2 (X + 219) t = s ∧ t < 40 ∧ AU s F := by
  obtain ⟨a1, -, a3, -, -⟩ := r_txt R A ht
  have u := A.1.2.2 t ht.1 ht.2
  rw [atx_n] at a1
  rw [atx_n, atx_f] at u
  exact ⟨a1, a3, u⟩
theorem r_una {N : JM} {s i : Int} {g : Int → Int} {Q' : Int → JM → Prop} (R : RI X N (atx T t s g) K P D) (A : AI (atx T t s g) K P D) (ht : 0 ≤ t ∧ t < T.1) (h0 : 0 ≤ i) (h1 : i < s) (h : Q' (g i) N) : Runs G 174 0 0 [(1, X + 218), (0, t), (0, i)] N Q' := by
  refine r_un R A ht h0 (by rw [atx_n]; exact h1) ?_
  rw [atx_f]; exact h
set_option maxHeartbeats 1000000 in
/-- a phrase is put -/
theorem r_putP {k : Int} {l : List TR} (hl' : D.1 5 = l) (R : RI X M (atx T t (phs l k) F) K P D) (A : AI (atx T t (phs l k) F) K P D) (ht : 0 ≤ t ∧ t < T.1) (h0 : 0 ≤ k) (h1 : k < l.length) (hl : (l.length : Int) ≤ 240) (hp : Pos 1 l F S k (phs l k)) (h : ∀ N, Rtx X M N → RI X N (atx T t (phs l k + phl l l.length (rowx l k 0)) F) K P D → AI (atx T t (phs l k + phl l l.length (rowx l k 0)) F) K P D → Q 0 N) : Runs G 256 0 0 [(1, X + 218), (0, t), (0, rowx l k 0)] M Q := by
  have W := R.1
  obtain ⟨-, g, p3, p4, p5, p6, p7, p8⟩ := Pos_ph hp h0 h1
  have dr : ∀ N T', RI X N T' K P D → RD3 X N 3242 251 252 253 l := fun N T' r => by rw [← hl']; exact r.2.2.2.2.2.2.2.2.2.1
  have ps := phs_s g h0 h1
  have xf := p7 k h0 h1
  obtain ⟨p, hpp⟩ : ∃ p, p = rowx l k 0 := ⟨_, rfl⟩
  rw [← hpp] at p3 xf ps h ⊢
  obtain ⟨m, hm⟩ : ∃ m, m = phl l l.length p := ⟨_, rfl⟩
  rw [← hm] at xf ps h
  have mn : 0 ≤ m := by rw [hm]; exact phl_n _ _
  obtain ⟨s, hs⟩ : ∃ s, s = phs l k := ⟨_, rfl⟩
  rw [← hs] at R A xf ps h hp
  obtain ⟨z1, z2, z3⟩ := r_txa R A ht
  have sm240 : s + m ≤ 240 := by
    by_cases z : rowx l k 1 = -1
    · rw [if_pos z] at ps; omega
    · rw [if_neg z] at ps; omega
  obtain ⟨v, hv⟩ : ∃ v, v = phv l l.length p := ⟨_, rfl⟩
  obtain ⟨R1, hR1⟩ : ∃ R1 : Int → Int, R1 = fun x => if x < s then F x else v (m - 1 - (x - s)) := ⟨_, rfl⟩
  obtain ⟨R2, hR2⟩ : ∃ R2 : Int → Int → Int, R2 = fun i x => if x < s then F x else if x - s < i ∨ m - 1 - (x - s) < i then v (x - s) else v (m - 1 - (x - s)) := ⟨_, rfl⟩
  refine lp_X12_putPhrase (fun v0 v1 v3 v4 N => X + 218 = v0 ∧ t = v1 ∧ s = v3 ∧ 0 ≤ v4 ∧ v4 ≤ p ∧ Rtx X M N ∧ ∃ i, 0 ≤ i ∧ i + phl l l.length v4 = m ∧ (∀ j, 0 ≤ j → j < phl l l.length v4 → phv l l.length v4 j = v j) ∧ RI X N (atx T t (s + i) R1) K P D ∧ AI (atx T t (s + i) R1) K P D) (fun _ _ _ v4 => v4.toNat + 1000) (fun v0 v1 v3 v4 N => X + 218 = v0 ∧ t = v1 ∧ Rtx X M N ∧ (∀ y, 0 ≤ y → y < m → 0 ≤ v y ∧ v y ≤ 65535) ∧ ∃ i, 0 ≤ i ∧ v3 = s + i ∧ v4 = s + m - 1 - i ∧ 2 * i ≤ m ∧ RI X N (atx T t (s + m) (R2 i)) K P D ∧ AI (atx T t (s + m) (R2 i)) K P D) (fun _ _ v3 _ => (500 - v3).toNat) ?_ ?_ _ _ _ M ?_
  · rintro v0 v1 v3 v4 N ⟨rfl, rfl, rfl, i1, i2, i3, i, i4, i5, i6, i7, i8⟩
    have WN := i7.1
    have wn := w_model_t WN
    obtain ⟨y1, y2, y3⟩ := r_txa i7 i8 ht
    have rd := (dr N _ i7).2
    rw [w_model_1301 WN, w_m1301_t WN, w_m1301_n WN, y1, w_model_1345 WN, w_m1345_t WN, w_m1345_n WN]
    refine ⟨fun q => ?_, fun q => ?_⟩
    · have e4 : v4 = 0 := by omega
      rw [e4, phl_z] at i5
      have ei : i = m := by omega
      subst ei
      have vr : ∀ y, 0 ≤ y → y < i → 0 ≤ v y ∧ v y ≤ 65535 := fun y y0 y1 => by
        have := y3.2.2 (s + (i - 1 - y)) (by have := z3.1; omega) (by omega)
        rw [hR1] at this
        dsimp only at this
        rw [if_neg (by omega), show i - 1 - (s + (i - 1 - y) - s) = y by omega] at this
        exact this
      have sm : Same (atx T t (s + i) R1) (atx T t (s + i) (R2 0)) := same_atx2 fun x x0 x1 => by
        rw [hR1, hR2]
        dsimp only
        by_cases hx : x < s
        · rw [if_pos hx, if_pos hx]
        · rw [if_neg hx, if_neg hx, if_neg (by omega)]
      exact ⟨wn, ⟨rfl, ht.1, y2⟩, by unfold jR; have := z3.1; omega, ⟨rfl, rfl, i3, vr, 0, by omega, by omega, by omega, by omega, sm.RI i7, sm.AI i8⟩, by have := z3.1; omega⟩
    · have r1 := rd (v4 - 1) (by omega) (by omega)
      have fu := p4 (v4 - 1) (by omega) (by omega)
      have ls := phl_s g (p := v4) (by omega) (by omega)
      have ln := phl_n (l := l) l.length (rowx l (v4 - 1) 0)
      have lv := i6 (phl l l.length (rowx l (v4 - 1) 0)) ln (by omega)
      rw [phv_s g (by omega) (by omega), if_pos rfl] at lv
      have fe : R1 (s + i) = rowx l (v4 - 1) 1 := by
        rw [hR1]
        dsimp only
        rw [if_neg (by omega), lv, show m - 1 - (s + i - s) = phl l l.length (rowx l (v4 - 1) 0) by omega]
      rw [r1.2.1]
      refine ⟨wn, by unfold jR; omega, ⟨rfl, by omega, by omega⟩, wn, r_putF i7 i8 ht ⟨by have := z3.1; omega, by omega⟩ fe.symm (by rw [fe]; exact fu.2) (fun M3 o3 r3 a3 _ => ?_)⟩
      have W3 := r3.1
      rw [w_model_1344 W3, w_m1344_t W3, w_m1344_n W3, ((dr M3 _ r3).2 (v4 - 1) (by omega) (by omega)).1]
      refine ⟨w_model_t W3, by unfold jR; omega, ⟨rfl, by omega, by omega⟩, ⟨rfl, rfl, rfl, fu.1.1, by omega, i3.trans o3, i + 1, by omega, by omega, fun j j0 j1 => ?_, ?_, ?_⟩, by omega⟩
      · rw [← i6 j j0 (by omega), phv_s g (p := v4) (by omega) (by omega), if_neg (by omega)]
      · rw [show s + (i + 1) = s + i + 1 by omega]; exact r3
      · rw [show s + (i + 1) = s + i + 1 by omega]; exact a3
  · rintro v0 v1 v3 v4 N ⟨rfl, rfl, i1, i2, i, i3, rfl, rfl, i4, i5, i6⟩
    have WN := i5.1
    have wn := w_model_t WN
    have s0 := z3.1
    obtain ⟨y1, y2, y3⟩ := r_txa i5 i6 ht
    refine ⟨fun q => ?_, fun q => ?_⟩
    · have sm : Same (atx T t (s + m) (R2 i)) (atx T t (s + m) F) := same_atx2 fun x x0 x1 => by
        rw [hR2]
        dsimp only
        by_cases hx : x < s
        · rw [if_pos hx]
        · have a := xf.1 (x - s) (by omega) (by omega)
          rw [show s + (x - s) = x by omega] at a
          rw [if_neg hx, a, ← hv]
          by_cases hy : x - s < i ∨ m - 1 - (x - s) < i
          · rw [if_pos hy]
          · rw [if_neg hy, show m - 1 - (x - s) = x - s by omega]
      exact h N i1 (sm.RI i5) (sm.AI i6)
    · refine ⟨wn, r_una i5 i6 ht (by omega) (by omega) (fun _ => ⟨wn, by unfold jR; omega, by unfold jR; omega, wn, r_una i5 i6 ht (by omega) (by omega) (fun _ => ?_)⟩)⟩
      have f1 : R2 i (s + i) = v (m - 1 - i) := by
        rw [hR2]
        dsimp only
        rw [if_neg (by omega), if_neg (by omega), show m - 1 - (s + i - s) = m - 1 - i by omega]
      have f2 : R2 i (s + m - 1 - i) = v i := by
        rw [hR2]
        dsimp only
        rw [if_neg (by omega), if_neg (by omega), show m - 1 - (s + m - 1 - i - s) = i by omega]
      rw [w_model_1302 WN, w_m1302_t WN, w_m1302_n WN, f1, f2]
      obtain ⟨M3, hM3⟩ : ∃ M3, M3 = jset (jset N 2 (X + 220) (240 * t + (s + i)) (v i)) 2 (X + 220) (240 * t + (s + m - 1 - i)) (v (m - 1 - i)) := ⟨_, rfl⟩
      rw [← hM3]
      have o3 : Rtx X N M3 := fun k a j q => by
        rw [hM3, show jset (jset N 2 (X + 220) _ _) 2 (X + 220) _ _ k a j = _ from if_neg (fun z => q ⟨z.1, Or.inr z.2.1⟩)]
        exact if_neg (fun z => q ⟨z.1, Or.inr z.2.1⟩)
      have a3 : AI (atx T t (s + m) (R2 (i + 1))) K P D := by
        have q : AU (s + m) (R2 (i + 1)) := ⟨by omega, by omega, fun x x0 x1 => by
          rw [hR2]
          dsimp only
          by_cases hx : x < s
          · rw [if_pos hx]; exact z3.2.2 x x0 hx
          · rw [if_neg hx]
            by_cases hy : x - s < i + 1 ∨ m - 1 - (x - s) < i + 1
            · rw [if_pos hy]; exact i2 _ (by omega) (by omega)
            · rw [if_neg hy]; exact i2 _ (by omega) (by omega)⟩
        have a := i6.1.atx (t := t) q
        rw [atx_atx] at a
        exact ⟨a, i6.2.1, i6.2.2⟩
      have r3 : RT X M3 (atx T t (s + m) (R2 (i + 1))) := by
        have a := i5.2.1.atx (k := s + m) (f := R2 (i + 1)) i6.1 ht o3 (by rw [hM3, jset_a (by omega), jset_a (by omega)]; exact y1) (fun s' _ => by rw [hM3, jset_a (by omega), jset_a (by omega)]) (fun x x0 x1 => by
          have ol := (i5.2.1.2 t ht.1 ht.2).2 x x0 (by rw [atx_n]; exact x1)
          rw [atx_f] at ol
          rw [hM3]
          by_cases h1 : x = s + m - 1 - i
          · rw [h1, jset_s, hR2]
            dsimp only
            rw [if_neg (by omega), if_pos (by omega), show s + m - 1 - i - s = m - 1 - i by omega]
          · rw [jset_j (by omega)]
            by_cases h2 : x = s + i
            · rw [h2, jset_s, hR2]
              dsimp only
              rw [if_neg (by omega), if_pos (by omega), show s + i - s = i by omega]
            · rw [jset_j (by omega), ol, hR2]
              dsimp only
              by_cases hx : x < s
              · rw [if_pos hx, if_pos hx]
              · rw [if_neg hx, if_neg hx]
                by_cases hy : x - s < i ∨ m - 1 - (x - s) < i
                · rw [if_pos hy, if_pos (by omega)]
                · rw [if_neg hy, if_neg (by omega)]) (fun j hj => by rw [hM3, jset_j (by omega), jset_j (by omega)])
        rw [atx_atx] at a
        exact a
      exact ⟨⟨rfl, by omega, by omega⟩, wn, by unfold jR; omega, by unfold jR; omega, ⟨rfl, by omega, by omega⟩, by unfold jR; omega, by unfold jR; omega, ⟨rfl, rfl, i1.trans o3, i2, i + 1, by omega, by omega, by omega, by omega, o3.RI i5 r3, a3⟩, by omega⟩
  · rw [w_model_1301 W, w_m1301_t W, w_m1301_n W, z1]
    have sm : Same (atx T t s F) (atx T t (s + 0) R1) := by
      rw [show s + 0 = s by omega]
      exact same_atx2 fun x x0 x1 => by rw [hR1]; exact if_pos x1
    exact ⟨w_model_t W, ⟨rfl, ht.1, z2⟩, rfl, rfl, rfl, p3.1, by omega, Rtx.refl X M, 0, by omega, by omega, fun j _ _ => by rw [hv], sm.RI R, sm.AI A⟩
end EXPR
set_option maxHeartbeats 2000000 in
theorem st_expand : JSt (IV X) 3072 G X 159 257 [] := mk_stp fun n M T K P D C H A hX hn0 hn => by
  have a1 := A.1.1
  have a2 := A.1.2.1
  have cw := C.2.2.2.2.2.1.2.2.2.2.2.2.2
  by_cases hm : T.1 < 40
  · by_cases hw : D.2 = -1
    · refine mk_no (r := -4) C H A ⟨hn0, hn⟩ (fun Q hQ => ?_) (fun M1 Q R hQ => ?_)
      · have W := C.1
        refine rn_X11_expand _ M (sg_X11_expand_0 _ M ?_)
        rw [wa_1205 W, cw, wa_1200 W]
        exact ⟨wa_t W, w_squeezer_t W, fun z => absurd hw z, fun _ => ⟨wa_t W, w_shelf_t W, c_isFull W (fun z => absurd z (by rw [C.2.1.1]; omega)) (fun _ _ => ⟨fun z => absurd rfl z, fun _ => hQ⟩)⟩⟩
      · have W := R.1
        have wt := w_model_t W
        refine lp_X12_expand (fun _ _ _ _ => False) (fun _ _ _ => 0) (fun _ _ _ _ _ => False) (fun _ _ _ _ => 0) (fun _ _ _ _ g => g.elim) (fun _ _ _ _ _ g => g.elim) _ M1 ?_
        rw [R.2.1.1, R.2.2.2.2.2.2.2.2.2.2.2]
        exact ⟨wt, fun _ => ⟨wt, fun z => absurd hw z, fun _ => hQ⟩, fun z => absurd (by omega) z⟩
    · have ad : (D.2 = 0 ∧ Ex0 (D.1 5) 0) ∨ (D.2 = 1 ∧ Ex1 (D.1 5)) := A.2.2.2.1.resolve_left (fun z => hw z.1)
      obtain ⟨F, S, hp⟩ := Pos_0 ad
      obtain ⟨w, hw2⟩ : ∃ w, D.2 = w := ⟨_, rfl⟩
      rw [hw2] at hp hw cw
      have h01 : w = 0 ∨ w = 1 := by rcases ad with z | z <;> omega
      have sm : Same (aopen T) (atx (aopen T) T.1 0 F) := same_atx (by show (0 : Int) = if T.1 = T.1 then 0 else _; rw [if_pos rfl]) (fun i i0 i1 => by omega)
      have ht : 0 ≤ T.1 ∧ T.1 < (aopen T).1 := ⟨a1, by show T.1 < T.1 + 1; omega⟩
      refine mk_yes (r := T.1) (T' := atx (aopen T) T.1 S F) (K' := kpush K T.1 1 0 (T.2.2 T.1)) ⟨hn0, hn⟩ (fun Q hQ => ?_) (fun M1 Q R hQ => ?_)
      · have W := C.1
        refine rn_X11_expand _ M (sg_X11_expand_0 _ M ?_)
        rw [wa_1205 W, cw, wa_1200 W]
        refine ⟨wa_t W, w_squeezer_t W, fun _ => ⟨wa_t W, w_shelf_t W, c_openA C H A hX (by omega) hm (fun M2 _ f2 c2 A2 s2 q1 q2 _ => ⟨fun z => absurd z (by omega), fun _ => ?_⟩)⟩, fun z => absurd hw z⟩
        have W2 := c2.1
        rw [wa_1205 W2]
        refine ⟨wa_t W2, w_squeezer_t W2, c_unfold (sm.CB c2) (sm.AI A2) ht (by show T.1 + 1 ≤ 40; omega) hw2 h01 hp (fun N o c a _ => ?_)⟩
        have WN := c.1
        have e := c.2.1.1
        rw [wa_1200 WN]
        refine ⟨wa_t WN, w_shelf_t WN, c_newest WN (by rw [e]; exact ⟨by show 0 ≤ T.1 + 1; omega, by show T.1 + 1 ≤ 40; omega⟩) (fun _ => ?_)⟩
        rw [e, show (atx (aopen T) T.1 S F).1 - 1 = T.1 by show T.1 + 1 - 1 = T.1; omega]
        exact hQ N a (f2.trans fun k a j h1 h2 => o k a j (by omega) (by omega) (by omega)) c (s2.keep c2.2.2.2.2.2.2 fun k a j q => o k a j (by unfold fpH at q; omega) (by unfold fpH at q; omega) (by unfold fpH at q; omega)) (by rw [o _ _ _ (by omega) (by omega) (by omega)]; exact q1) (by rw [o _ _ _ (by omega) (by omega) (by omega)]; exact q2)
      · have W := R.1
        have wt := w_model_t W
        have len : ((D.1 5).length : Int) ≤ 240 := C.2.2.2.2.2.1.2.2.2.2.2.1.2.2.1.2
        have rdf : ∀ N T' K', RI X N T' K' P D → RD3 X N 3242 251 252 253 (D.1 5) ∧ N 3243 (X + 218) 0 = w := fun N T' K' r => ⟨r.2.2.2.2.2.2.2.2.2.1, r.2.2.2.2.2.2.2.2.2.2.2.trans hw2⟩
        refine lp_X12_expand (fun v0 v1 v2 N => X + 218 = v0 ∧ T.1 = v1 ∧ 0 ≤ v2 ∧ v2 ≤ (D.1 5).length ∧ FrR X M1 N ∧ ∃ s, Pos w (D.1 5) F S v2 s ∧ RI X N (atx (aopen T) T.1 s F) (kpush K T.1 1 0 (T.2.2 T.1)) P D ∧ AI (atx (aopen T) T.1 s F) (kpush K T.1 1 0 (T.2.2 T.1)) P D) (fun _ _ v2 => ((1000 - v2) * 1000).toNat) (fun v0 v1 v2 v3 N => X + 218 = v0 ∧ T.1 = v1 ∧ 0 ≤ v2 ∧ v2 < (D.1 5).length ∧ w = 0 ∧ ¬ rowx (D.1 5) v2 0 = 0 ∧ 0 ≤ v3 ∧ v3 ≤ rowx (D.1 5) v2 2 ∧ FrR X M1 N ∧ ∃ s, Pos 0 (D.1 5) F S v2 s ∧ RI X N (atx (aopen T) T.1 (s + v3) F) (kpush K T.1 1 0 (T.2.2 T.1)) P D ∧ AI (atx (aopen T) T.1 (s + v3) F) (kpush K T.1 1 0 (T.2.2 T.1)) P D) (fun _ _ v2 v3 => ((1000 - v2) * 1000 - 1 - v3).toNat) ?_ ?_ _ M1 ?_
        · rintro v0 v1 v2 N ⟨rfl, rfl, i1, i2, i3, s, i4, i5, i6⟩
          have WN := i5.1
          have wn := w_model_t WN
          obtain ⟨rd, rw'⟩ := rdf N _ _ i5
          rw [rd.1, rw', w_model_1344 WN, w_m1344_t WN, w_m1344_n WN, w_model_1345 WN, w_m1345_t WN, w_m1345_n WN]
          refine ⟨wn, fun q => ?_, fun q => ?_⟩
          · have : v2 = (D.1 5).length := by omega
            subst this
            have e := Pos_end i4
            subst e
            exact hQ N i3 i5
          · obtain ⟨b1, b2, b3⟩ := rd.2 v2 i1 (by omega)
            have u0 := (r_txa i5 i6 ht).2.2
            rw [b1, b2]
            refine ⟨wn, fun z => ⟨wn, fun _ => ⟨wn, ⟨rfl, i1, by omega⟩, wn, ?_⟩, fun z2 => absurd z z2⟩, fun z => ⟨wn, ⟨rfl, i1, by omega⟩, fun z2 => ⟨wn, fun z3 => absurd z3 z, fun _ => ⟨wn, ⟨rfl, i1, by omega⟩, wn, ?_⟩⟩, fun z2 => ⟨⟨rfl, rfl, i1, by omega, ?_⟩, by omega⟩⟩⟩
            · have w1 : w = 1 := by omega
              subst w1
              obtain ⟨rfl, g, p3, p4, p5, p6, p7, p8⟩ := Pos_ph i4 i1 (by omega)
              have ps := phs_s g i1 (by omega)
              refine r_putP rfl i5 i6 ht i1 (by omega) len i4 (fun M3 o3 r3 a3 _ => ?_)
              have W3 := r3.1
              have w3 := w_model_t W3
              obtain ⟨c1, c2, c3⟩ := (rdf M3 _ _ r3).1.2 v2 i1 (by omega)
              rw [w_model_1345 W3, w_m1345_t W3, w_m1345_n W3, c2]
              refine ⟨w3, ⟨rfl, i1, by omega⟩, fun y => ?_, fun y => ⟨w3, ⟨rfl, i1, by omega⟩, w3, ?_⟩⟩
              · rw [if_pos y] at ps
                refine ⟨by unfold jR; omega, ⟨rfl, rfl, by omega, by omega, i3.trans o3.FrR, _, p8, ?_, ?_⟩, by omega⟩
                · rw [ps, Int.add_zero]; exact r3
                · rw [ps, Int.add_zero]; exact a3
              · rw [if_neg y] at ps
                have u3 := (r_txa r3 a3 ht).2.2
                have fe := (p7 v2 i1 (by omega)).2 y
                refine r_putF r3 a3 ht ⟨u3.1, by omega⟩ fe.symm (by rw [fe]; exact p5.resolve_right y) (fun M4 o4 r4 a4 _ => ⟨by unfold jR; omega, ⟨rfl, rfl, by omega, by omega, (i3.trans o3.FrR).trans o4.FrR, _, p8, ?_, ?_⟩, by omega⟩)
                · rw [ps, ← Int.add_assoc]; exact r4
                · rw [ps, ← Int.add_assoc]; exact a4
            · have w0 : w = 0 := Classical.not_not.mp z
              subst w0
              have r0 : rowx (D.1 5) v2 0 = 0 := by
                rcases Classical.em (rowx (D.1 5) v2 0 = 0) with y | y
                · exact y
                · exact absurd (Pos_copy i4 i1 (by omega) y).1 z2
              obtain ⟨p1, p2, p3, p4⟩ := Pos_unit i4 i1 (by omega) r0
              exact r_putF i5 i6 ht ⟨u0.1, p3⟩ p1.symm (by rw [p1]; exact p2) (fun M4 o4 r4 a4 _ => ⟨by unfold jR; omega, ⟨rfl, rfl, by omega, by omega, i3.trans o4.FrR, _, p4, r4, a4⟩, by omega⟩)
            · have w0 : w = 0 := Classical.not_not.mp z
              subst w0
              have z2 : rowx (D.1 5) v2 0 = 1 := Classical.not_not.mp z2
              have p := Pos_copy i4 i1 (by omega) (by omega)
              refine ⟨rfl, by omega, by omega, by omega, i3, s, i4, ?_, ?_⟩
              · rw [show s + 0 = s by omega]; exact i5
              · rw [show s + 0 = s by omega]; exact i6
        · rintro v0 v1 v2 v3 N ⟨rfl, rfl, i1, i2, i3, i4, i5, i6, i7, s, i8, i9, i10⟩
          have WN := i9.1
          have wn := w_model_t WN
          obtain ⟨rd, rw'⟩ := rdf N _ _ i9
          obtain ⟨b1, b2, b3⟩ := rd.2 v2 i1 i2
          obtain ⟨-, p2, p3, p4, p5, p6⟩ := Pos_copy i8 i1 i2 i4
          have u0 := (r_txa i9 i10 ht).2.2
          rw [w_model_1345 WN, w_m1345_t WN, w_m1345_n WN, w_model_1346 WN, w_m1346_t WN, w_m1346_n WN, b2, b3]
          refine ⟨wn, ⟨rfl, i1, by omega⟩, fun q => ⟨by unfold jR; omega, ⟨rfl, rfl, by omega, by omega, i7, s + v3, ?_, i9, i10⟩, by omega⟩, fun q => ⟨wn, ⟨rfl, i1, by omega⟩, by unfold jR; omega, wn, r_una i9 i10 ht (by omega) (by omega) (fun _ => ⟨wn, r_putF i9 i10 ht ⟨u0.1, by omega⟩ (p5 v3 i5 (by omega)).symm (by rw [p5 v3 i5 (by omega)]; exact u0.2.2 _ (by omega) (by omega)) (fun M4 o4 r4 a4 _ => ⟨by unfold jR; omega, ⟨rfl, rfl, i1, i2, i3, i4, by omega, by omega, i7.trans o4.FrR, s, i8, ?_, ?_⟩, by omega⟩)⟩)⟩⟩
          · rw [show rowx (D.1 5) v2 2 = v3 by omega] at p6
            rw [i3]
            exact p6
          · rw [show s + (v3 + 1) = s + v3 + 1 by omega]; exact r4
          · rw [show s + (v3 + 1) = s + v3 + 1 by omega]; exact a4
        · rw [R.2.1.1, (rdf M1 _ _ R).2]
          exact ⟨wt, fun _ => ⟨wt, fun _ => ⟨wt, r_newText R A hm (fun M2 f2 r2 a2 _ => ⟨rfl, rfl, by omega, by omega, f2, 0, hp, sm.RI r2, sm.AI a2⟩)⟩, fun z => absurd hw z⟩, fun z => absurd (by omega) z⟩
  · refine mk_no (r := -3) C H A ⟨hn0, hn⟩ (fun Q hQ => ?_) (fun M1 Q R hQ => ?_)
    · have W := C.1
      refine rn_X11_expand _ M (sg_X11_expand_0 _ M ?_)
      rw [wa_1205 W, wa_1200 W]
      exact ⟨wa_t W, w_squeezer_t W, fun _ => ⟨wa_t W, w_shelf_t W, c_open W (C.sh A) (fun g => absurd g (by rw [C.2.1.1]; omega)) (fun _ _ => ⟨fun _ => hQ, fun g => absurd rfl g⟩)⟩, fun _ => ⟨wa_t W, w_shelf_t W, c_isFull W (fun _ _ => ⟨fun _ => by rw [wa_1200 W]; exact ⟨wa_t W, w_shelf_t W, c_open W (C.sh A) (fun g => absurd g (by rw [C.2.1.1]; omega)) (fun _ _ => ⟨fun _ => hQ, fun g => absurd rfl g⟩)⟩, fun z => absurd (by decide) z⟩) (fun z => absurd z (by rw [C.2.1.1]; omega))⟩⟩
    · have W := R.1
      have wt := w_model_t W
      refine lp_X12_expand (fun _ _ _ _ => False) (fun _ _ _ => 0) (fun _ _ _ _ _ => False) (fun _ _ _ _ => 0) (fun _ _ _ _ g => g.elim) (fun _ _ _ _ _ g => g.elim) _ M1 ?_
      rw [R.2.1.1]
      exact ⟨wt, fun z => absurd (by omega) z, fun _ => hQ⟩
end EXPAND
