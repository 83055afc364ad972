/-! what is in many texts: places of texts; the reference's ranks -/
noncomputable def bsT (T : ATx) (t : Int) : Int := smI T.2.1 t
noncomputable def locF (T : ATx) : Nat → Int → Int
  | 0, _ => 0
  | k + 1, p => if bsT T k ≤ p then (k : Int) else locF T k p
noncomputable def txT (T : ATx) (p : Int) : Int := locF T T.1.toNat p
noncomputable def lfT (T : ATx) (p : Int) : Int := T.2.1 (txT T p) - (p - bsT T (txT T p))
noncomputable def unT (T : ATx) (p : Int) : Int := T.2.2 (txT T p) (p - bsT T (txT T p))
section OM3
variable {T : ATx}
theorem bsT_s {t : Int} (h : 0 ≤ t) : bsT T (t + 1) = bsT T t + T.2.1 t := smI_s h
theorem bsT_mono (A : AT T) {a b : Int} (h0 : 0 ≤ a) (h1 : a ≤ b) (h2 : b ≤ T.1) : bsT T a ≤ bsT T b := smI_mono h0 h1 (fun i i0 i1 => (A.2.2 i (by omega) (by omega)).1)
theorem bsT_r (A : AT T) {t : Int} (h0 : 0 ≤ t) (h1 : t ≤ T.1) : 0 ≤ bsT T t ∧ bsT T t ≤ 240 * t := ⟨smI_nn fun i i0 i1 => (A.2.2 i i0 (by omega)).1, smI_ub h0 fun i i0 i1 => (A.2.2 i i0 (by omega)).2.1⟩
theorem loc_at (A : AT T) {t i : Int} (t0 : 0 ≤ t) (t1 : t < T.1) (i0 : 0 ≤ i) (i1 : i < T.2.1 t) : txT T (bsT T t + i) = t := by
  have key : ∀ k : Nat, t < k → (k : Int) ≤ T.1 → locF T k (bsT T t + i) = t := by
    intro k
    induction k with
    | zero => intro h; omega
    | succ k ih =>
      intro h1 h2
      show (if bsT T k ≤ bsT T t + i then (k : Int) else locF T k (bsT T t + i)) = t
      by_cases c : t = k
      · rw [if_pos (by rw [← c]; omega), c]
      · have := bsT_mono A (show 0 ≤ t + 1 by omega) (show t + 1 ≤ (k : Int) by omega) (by omega)
        rw [bsT_s t0] at this
        rw [if_neg (by omega)]
        exact ih (by omega) (by omega)
  exact key T.1.toNat (by omega) (by omega)
theorem loc_in (A : AT T) {p : Int} (p0 : 0 ≤ p) : ∀ m : Nat, (m : Int) ≤ T.1 → p < bsT T m → ∃ t i : Int, 0 ≤ t ∧ t < (m : Int) ∧ 0 ≤ i ∧ i < T.2.1 t ∧ p = bsT T t + i := by
  intro m
  induction m with
  | zero =>
    intro _ h
    have : bsT T ((0 : Nat) : Int) = 0 := smI_z (by omega)
    omega
  | succ m ih =>
    intro h1 h2
    by_cases c : p < bsT T m
    · obtain ⟨t, i, a, b, d⟩ := ih (by omega) c
      exact ⟨t, i, a, by omega, d⟩
    · rw [show ((m + 1 : Nat) : Int) = (m : Int) + 1 by omega, bsT_s (by omega)] at h2
      exact ⟨m, p - bsT T m, by omega, by omega, by omega, by omega, by omega⟩
theorem loc_ex (A : AT T) {p : Int} (p0 : 0 ≤ p) (p1 : p < bsT T T.1) : ∃ t i, 0 ≤ t ∧ t < T.1 ∧ 0 ≤ i ∧ i < T.2.1 t ∧ p = bsT T t + i ∧ txT T p = t ∧ lfT T p = T.2.1 t - i ∧ unT T p = T.2.2 t i := by
  have a0 := A.1
  obtain ⟨t, i, h1, h2, h3, h4, h5⟩ := loc_in A p0 T.1.toNat (by omega) (by rw [show (T.1.toNat : Int) = T.1 by omega]; exact p1)
  have e := loc_at A h1 (by omega) h3 h4
  rw [← h5] at e
  refine ⟨t, i, h1, by omega, h3, h4, h5, e, ?_, ?_⟩
  · unfold lfT; rw [e]; omega
  · unfold unT; rw [e, h5, show bsT T t + i - bsT T t = i by omega]
theorem pls_T (A : AT T) : Pls (bsT T T.1) (txT T) (lfT T) (unT T) := by
  have br := bsT_r A A.1 (Int.le_refl _)
  have a2 := A.2.1
  refine ⟨⟨br.1, by omega⟩, fun p p0 p1 => ?_, fun p d p0 p1 d0 d1 => ?_, fun p q p0 pq q1 => ?_⟩
  · obtain ⟨t, i, h1, h2, h3, h4, h5, h6, h7, h8⟩ := loc_ex A p0 p1
    obtain ⟨u1, u2, u3⟩ := A.2.2 t h1 h2
    have m := bsT_mono A (show 0 ≤ t + 1 by omega) (show t + 1 ≤ T.1 by omega) (Int.le_refl _)
    rw [bsT_s h1] at m
    rw [h6, h7, h8]
    exact ⟨⟨by omega, by omega, by omega⟩, ⟨h1, by omega⟩, u3 i h3 h4⟩
  · obtain ⟨t, i, h1, h2, h3, h4, h5, h6, h7, h8⟩ := loc_ex A p0 p1
    rw [h7] at d1
    have e := loc_at A h1 h2 (show 0 ≤ i + d by omega) (show i + d < T.2.1 t by omega)
    rw [show bsT T t + (i + d) = p + d by omega] at e
    refine ⟨?_, by rw [e, h6]⟩
    unfold lfT
    rw [e, h6]; omega
  · obtain ⟨t, i, h1, h2, h3, h4, h5, h6, -⟩ := loc_ex A p0 (by omega)
    obtain ⟨t', i', g1, g2, g3, g4, g5, g6, -⟩ := loc_ex A (by omega) q1
    rw [h6, g6]
    rcases Int.lt_or_le t' t with z | z
    · exfalso
      have m := bsT_mono A (show 0 ≤ t' + 1 by omega) (show t' + 1 ≤ t by omega) (by omega)
      rw [bsT_s g1] at m
      omega
    · exact z
end OM3
section OM3R
variable {n : Int} {tx lf U : Int → Int}
/-- ranks by how often the text changes in the order -/
theorem chg_mono {F : Int → Int} {h a b : Int} {od : Int → Int} (a0 : 0 ≤ a) (ab : a ≤ b) : chg F h od a ≤ chg F h od b := cntI_mono a0 ab
theorem rkp_chg {s k : Int} {sq R : Int → Int} (S : Sq n lf U s k sq) (s0 : 0 ≤ s) (nb : n ≤ 9600) (hR : ∀ a, 0 ≤ a → a < k → R (sq a) = chg U s sq (a + 1)) : Rkp n lf U s R := by
  have srt : Srt U s k sq := fun r q r0 rq q1 z => by
    rcases S.2.2.2 r q r0 rq q1 with y | y
    · exact lsh_asym y z
    · exact lsh_irr (eqh_symm y.1) z
  refine ⟨fun p q hp hq => ?_, fun p hp => ?_⟩
  · obtain ⟨a, a0, a1, rfl⟩ := S.2.2.1 p hp
    obtain ⟨b, b0, b1, rfl⟩ := S.2.2.1 q hq
    rw [hR a a0 a1, hR b b0 b1]
    constructor
    · intro z
      have ab : a < b := by
        rcases Int.lt_trichotomy a b with y | y | y
        · exact y
        · rw [y] at z; exact absurd z (lsh_irr eqh_refl)
        · exact absurd z (srt b a b0 y a1)
      have m := chg_mono (F := U) (h := s) (od := sq) (show 0 ≤ a + 1 by omega) (show a + 1 ≤ b + 1 by omega)
      rcases Int.lt_or_le (chg U s sq (a + 1)) (chg U s sq (b + 1)) with y | y
      · exact y
      · exfalso
        have e : chg U s sq (a + 1) = chg U s sq (a + ((b - a).toNat : Int) + 1) := by rw [show a + ((b - a).toNat : Int) + 1 = b + 1 by omega]; omega
        have := chg_b a0 (b - a).toNat e
        rw [show a + ((b - a).toNat : Int) = b by omega] at this
        exact lsh_irr this z
    · intro z
      rcases Int.le_total a b with y | y
      · have := chg_c s0 srt a0 (b - a).toNat (by omega) (by rw [show a + ((b - a).toNat : Int) = b by omega]; exact z)
        rw [show a + ((b - a).toNat : Int) + 1 = b + 1 by omega] at this
        exact this
      · have := chg_c s0 srt b0 (a - b).toNat (by omega) (by rw [show b + ((a - b).toNat : Int) = a by omega]; exact eqh_symm z)
        rw [show b + ((a - b).toNat : Int) + 1 = a + 1 by omega] at this
        exact this.symm
  · obtain ⟨a, a0, a1, rfl⟩ := S.2.2.1 p hp
    rw [hR a a0 a1]
    have := chg_le (F := U) (h := s) (od := sq) a.toNat
    rw [show (a.toNat : Int) = a by omega] at this
    have := S.1
    omega
theorem chg_step {F : Int → Int} {h k : Int} {od : Int → Int} (k0 : 0 ≤ k) : (k = 0 ∨ eqh F h (od k) (od (k - 1)) → chg F h od (k + 1) = chg F h od k) ∧ (1 ≤ k → ¬ eqh F h (od k) (od (k - 1)) → chg F h od (k + 1) = chg F h od k + 1) := ⟨fun z => cntI_f k0 (fun y => z.elim (fun w => by omega) (fun w => y.2 w)), fun k1 z => cntI_t k0 ⟨k1, z⟩⟩
theorem chg_r {F : Int → Int} {h k : Int} {od : Int → Int} (k0 : 0 ≤ k) : 0 ≤ chg F h od k ∧ chg F h od k ≤ k := cntI_r k0
theorem gp_of {s k many f0 : Int} {sq : Int → Int} (S : Sq n lf U s k sq) (f1 : 0 ≤ f0) (f2 : f0 < k) (h1 : many ≤ cT n tx lf U s (sq f0)) (h2 : ∀ j, 0 ≤ j → j < f0 → cT n tx lf U s (sq j) < many) : GP n tx lf U s many (sq f0) := by
  refine ⟨S.2.1 f0 f1 f2, h1, fun q vq gq => ?_⟩
  obtain ⟨j, j0, j1, rfl⟩ := S.2.2.1 q vq
  rcases Int.lt_trichotomy j f0 with z | z | z
  · have := h2 j j0 z; omega
  · rw [z]; exact Or.inr ⟨eqh_refl, Int.le_refl _⟩
  · rcases S.2.2.2 f0 j f1 z j1 with y | y
    · exact Or.inl y
    · exact Or.inr ⟨y.1, by omega⟩
variable {G : JG} {X : Int} {Q : Int → JM → Prop} {M : JM}
set_option maxHeartbeats 1000000 in
theorem r_manyOf {s many : Int} (W : WSt X M) (L : Pls n tx lf U) (hn : M 3219 (X + 218) 0 = n) (hl : ∀ p, 0 ≤ p → p < n → M 2 (X + 234) p = lf p) (ht : ∀ p, 0 ≤ p → p < n → M 2 (X + 233) p = tx p) (hs : 1 ≤ s ∧ s ≤ 240) (hm : 1 ≤ many) (RK : ∀ lv, 0 ≤ lv → lv ≤ 7 → Rkp n lf U (jshl 1 lv) (fun p => M 2 (X + 235) (9600 * lv + p))) (y : ∀ M' p, Osf X M M' → GP n tx lf U s many p → Q p M') (no : ∀ M', Osf X M M' → (¬ ∃ p, GP n tx lf U s many p) → Q (-1) M') : Runs G 222 0 0 [(1, X + 218), (0, s), (0, many)] M Q := by
  have nb := L.1
  refine lp_X12_manyOf (fun v0 v1 v2 v3 N => M = N ∧ X + 218 = v0 ∧ s = v1 ∧ many = v2 ∧ 0 ≤ v3 ∧ v3 ≤ 7 ∧ jshl 1 v3 ≤ s) (fun _ _ _ v3 => (1000000 - v3).toNat)
    (fun v0 v1 v2 v3 v4 v5 v6 v7 N => X + 218 = v0 ∧ s = v1 ∧ many = v2 ∧ (0 ≤ v3 ∧ v3 ≤ 7 ∧ jshl 1 v3 ≤ s ∧ s ≤ 2 * jshl 1 v3) ∧ Osf X M N ∧ ∃ sq, Sq n lf U s v4 sq ∧ (∀ a, 0 ≤ a → a < v4 → N 2 (X + 237) a = sq a) ∧ (0 ≤ v7 ∧ v7 ≤ v4 ∧ 0 ≤ v5 ∧ v5 ≤ v7 ∧ (0 < v7 → v5 < v7)) ∧ (∀ j, v5 ≤ j → j < v7 → eqh U s (sq v5) (sq j)) ∧ (v5 = 0 ∨ ¬ eqh U s (sq (v5 - 1)) (sq v5)) ∧ v6 = tcnt tx sq v5 v7 ∧ v6 < many ∧ ∀ j, 0 ≤ j → j < v5 → cT n tx lf U s (sq j) < many) (fun _ _ _ _ _ _ _ v7 => (100000 - v7).toNat) ?_ ?_ _ _ _ M ⟨rfl, rfl, rfl, rfl, by omega, by omega, by have := jsh1 (v := 0) (by omega) (by omega); have := this.2.2.2.2.2 rfl; omega⟩
  · rintro v0 v1 v2 v3 N ⟨rfl, rfl, rfl, rfl, i1, i2, i3⟩
    have j := jsh1 i1 i2
    rw [j.2.2.1]
    refine ⟨fun lt => ⟨w_model_t W, r_bySize (R := fun p => M 2 (X + 235) (9600 * v3 + p)) W L hn hl ⟨i1, i2⟩ rfl i3 (by omega) (fun _ _ _ => rfl) (RK v3 i1 i2) (fun N k sq o S cs _ => ⟨⟨rfl, rfl, rfl, ⟨i1, i2, i3, by omega⟩, o, sq, S, cs, ⟨by omega, S.1.1, by omega, by omega, fun z => by omega⟩, fun j j0 j1 => by omega, Or.inl rfl, tcnt_z.symm, by omega, fun j j0 j1 => by omega⟩, by omega⟩)⟩, fun lt => ?_⟩
    have l7 : v3 < 7 := by
      rcases Int.lt_or_le v3 7 with z | z
      · exact z
      · have := j.2.2.2.2.1 (by omega); omega
    have e := j.2.2.2.1 l7
    exact ⟨by unfold jR; omega, ⟨rfl, rfl, rfl, rfl, by omega, by omega, by omega⟩, by omega⟩
  · rintro v0 v1 v2 v3 v4 v5 v6 v7 N ⟨rfl, rfl, rfl, ⟨l0, l1, l2, l3⟩, o, sq, S, cs, ⟨k0, k1, k2, k3, k4⟩, cls, beg, rfl, lt, old⟩
    have WN := o.w W
    have wn := w_model_t WN
    have sk := S.1
    have tr := @tcnt_r tx sq v5 v7
    refine ⟨fun q => no N o (fun ⟨p, hp⟩ => ?_), fun q => ?_⟩
    · obtain ⟨j, j0, j1, rfl⟩ := S.2.2.1 p hp.1
      have hp2 := hp.2.1
      by_cases c : j < v5
      · have := old j j0 c; omega
      · have e := cT_c (n := n) (tx := tx) (lf := lf) (cls j (by omega) (by omega))
        have f := tcnt_all (tx := tx) S k2 (k4 (by omega)) k1 cls beg (Or.inl (by omega))
        omega
    · -- a new text begins at this place
      have vk := S.2.1 v7 k0 (by omega)
      have tk := (L.2.1 (sq v7) vk.1 vk.2.1).2.1
      have prev : (v7 = 0 ∨ ¬ eqh U s (sq (v7 - 1)) (sq v7)) → ∀ j, 0 ≤ j → j < v7 → cT n tx lf U s (sq j) < many := fun nw j j0 j1 => by
        by_cases c : j < v5
        · exact old j j0 c
        · have e := cT_c (n := n) (tx := tx) (lf := lf) (cls j (by omega) j1)
          have f := tcnt_all (tx := tx) S k2 (k4 (by omega)) k1 cls beg (nw.elim (fun z => by omega) Or.inr)
          omega
      have one : tcnt tx sq v7 (v7 + 1) = 1 := by rw [tcnt_new (Int.le_refl _) tk (fun j j0 j1 => by omega), tcnt_z]; rfl
      have self : ∀ j, v7 ≤ j → j < v7 + 1 → eqh U s (sq v7) (sq j) := fun j j0 j1 => by
        have : j = v7 := by omega
        rw [this]; exact eqh_refl
      have new : (v7 = 0 ∨ ¬ eqh U s (sq (v7 - 1)) (sq v7)) → ((1 : Int) < many → jR (v7 + 1) ∧ ((X + 218 = X + 218 ∧ s = s ∧ many = many ∧ (0 ≤ v3 ∧ v3 ≤ 7 ∧ jshl 1 v3 ≤ s ∧ s ≤ 2 * jshl 1 v3) ∧ Osf X M N ∧ ∃ sq, Sq n lf U s v4 sq ∧ (∀ a, 0 ≤ a → a < v4 → N 2 (X + 237) a = sq a) ∧ (0 ≤ v7 + 1 ∧ v7 + 1 ≤ v4 ∧ 0 ≤ v7 ∧ v7 ≤ v7 + 1 ∧ (0 < v7 + 1 → v7 < v7 + 1)) ∧ (∀ j, v7 ≤ j → j < v7 + 1 → eqh U s (sq v7) (sq j)) ∧ (v7 = 0 ∨ ¬ eqh U s (sq (v7 - 1)) (sq v7)) ∧ 1 = tcnt tx sq v7 (v7 + 1) ∧ 1 < many ∧ ∀ j, 0 ≤ j → j < v7 → cT n tx lf U s (sq j) < many) ∧ (100000 - (v7 + 1)).toNat < (100000 - v7).toNat)) ∧ (¬ (1 : Int) < many → N 0 (X + 218) 0 = 22 ∧ (N 0 (N 1324 (X + 218) 0) 0 = 1 ∧ 0 ≤ v7 ∧ v7 < N 1 (N 1324 (X + 218) 0) 0) ∧ Q (N 2 (N 1324 (X + 218) 0) v7) N) := fun nw => by
        refine ⟨fun lm => ⟨by unfold jR; omega, ⟨rfl, rfl, rfl, ⟨l0, l1, l2, l3⟩, o, sq, S, cs, ⟨by omega, by omega, k0, by omega, fun _ => by omega⟩, self, nw, one.symm, lm, prev nw⟩, by omega⟩, fun lm => ?_⟩
        rw [w_model_1324 WN, w_m1324_t WN, w_m1324_n WN, cs v7 k0 (by omega)]
        refine ⟨wn, ⟨rfl, k0, by omega⟩, y N _ o (gp_of S k0 (by omega) ?_ (prev nw))⟩
        have := tcnt_le (tx := tx) S k0 (show v7 + 1 ≤ v4 by omega) self
        omega
      refine ⟨fun z0 => ⟨fun z => absurd z (by decide), fun _ => ⟨fun z => absurd z (by decide), fun _ => new (Or.inl z0)⟩⟩, fun z0 => ?_⟩
      have vp := S.2.1 (v7 - 1) (by omega) (by omega)
      have oo : ∀ lv, 0 ≤ lv → lv ≤ 7 → ∀ p, 0 ≤ p → p < n → N 2 (X + 235) (9600 * lv + p) = M 2 (X + 235) (9600 * lv + p) := fun lv _ _ p _ _ => o _ _ _ (by omega)
      have c1 := cs v7 k0 (by omega)
      have c2 := cs (v7 - 1) (by omega) (by omega)
      have call : ∀ Q' : Int → JM → Prop, (eqh U s (sq v7) (sq (v7 - 1)) → Q' 1 N) → (¬ eqh U s (sq v7) (sq (v7 - 1)) → Q' 0 N) → Runs G 220 0 0 [(1, X + 218), (0, N 2 (N 1324 (X + 218) 0) v7), (0, N 2 (N 1324 (X + 218) 0) (v7 - 1)), (0, s), (0, v3)] N Q' := fun Q' q1 q0 => by
        rw [w_model_1324 WN, c1, c2]
        exact r_same (R := fun p => M 2 (X + 235) (9600 * v3 + p)) WN L ⟨l0, l1⟩ rfl l2 l3 (oo v3 l0 l1) (RK v3 l0 l1) vk vp q1 q0
      have t1 : N 0 (N 1324 (X + 218) 0) 0 = 1 := by rw [w_model_1324 WN]; exact w_m1324_t WN
      have t2 : N 1 (N 1324 (X + 218) 0) 0 = 9600 := by rw [w_model_1324 WN]; exact w_m1324_n WN
      refine ⟨wn, ⟨t1, k0, by omega⟩, wn, by unfold jR; omega, ⟨t1, by omega, by omega⟩, wn, call _ (fun e _ => ⟨fun _ => ⟨fun _ => ⟨fun _ => ?_, fun z => absurd rfl z⟩, fun z => absurd rfl z⟩, fun z => absurd (by decide) z⟩) (fun e _ => ⟨fun z => absurd rfl z, fun _ => ⟨fun z => absurd z (by decide), fun _ => ⟨fun z => absurd z (by decide), fun _ => new (Or.inr (fun z => e (eqh_symm z)))⟩⟩⟩)⟩
      -- the same text once more
      have tp := (L.2.1 (sq (v7 - 1)) vp.1 vp.2.1).2.1
      have o1 : ∀ p, N 2 (X + 233) p = M 2 (X + 233) p := fun p => o _ _ _ (by omega)
      have ext : ∀ j, v5 ≤ j → j < v7 + 1 → eqh U s (sq v5) (sq j) := fun j j0 j1 => by
        by_cases c : j = v7
        · rw [c]; exact eqh_trans (cls (v7 - 1) (by have := k4 (by omega); omega) (by omega)) (eqh_symm e)
        · exact cls j j0 (by omega)
      have v57 := k4 (by omega)
      rw [w_model_1324 WN, w_m1324_t WN, w_m1324_n WN, w_model_1320 WN, w_m1320_t WN, w_m1320_n WN, c1, c2, cs v5 k2 (by omega), o1, o1, ht _ vk.1 vk.2.1, ht _ vp.1 vp.2.1]
      have vk1 := vk.1
      have vk2 := vk.2.1
      have vp1 := vp.1
      have vp2 := vp.2.1
      have nx : ∀ c, c = tcnt tx sq v5 (v7 + 1) → 0 ≤ c ∧ c ≤ 40 ∧ ((c < many → jR (v7 + 1) ∧ ((X + 218 = X + 218 ∧ s = s ∧ many = many ∧ (0 ≤ v3 ∧ v3 ≤ 7 ∧ jshl 1 v3 ≤ s ∧ s ≤ 2 * jshl 1 v3) ∧ Osf X M N ∧ ∃ sq, Sq n lf U s v4 sq ∧ (∀ a, 0 ≤ a → a < v4 → N 2 (X + 237) a = sq a) ∧ (0 ≤ v7 + 1 ∧ v7 + 1 ≤ v4 ∧ 0 ≤ v5 ∧ v5 ≤ v7 + 1 ∧ (0 < v7 + 1 → v5 < v7 + 1)) ∧ (∀ j, v5 ≤ j → j < v7 + 1 → eqh U s (sq v5) (sq j)) ∧ (v5 = 0 ∨ ¬ eqh U s (sq (v5 - 1)) (sq v5)) ∧ c = tcnt tx sq v5 (v7 + 1) ∧ c < many ∧ ∀ j, 0 ≤ j → j < v5 → cT n tx lf U s (sq j) < many) ∧ (100000 - (v7 + 1)).toNat < (100000 - v7).toNat)) ∧ (¬ c < many → N 0 (X + 218) 0 = 22 ∧ ((1 : Int) = 1 ∧ 0 ≤ v5 ∧ v5 < 9600) ∧ Q (sq v5) N)) := fun c hc => by
        have r := @tcnt_r tx sq v5 (v7 + 1)
        refine ⟨by omega, by omega, fun lm => ⟨by unfold jR; omega, ⟨rfl, rfl, rfl, ⟨l0, l1, l2, l3⟩, o, sq, S, cs, ⟨by omega, by omega, k2, by omega, fun _ => by omega⟩, ext, beg, hc, lm, old⟩, by omega⟩, fun lm => ⟨wn, ⟨rfl, k2, by omega⟩, y N _ o (gp_of S k2 (by omega) ?_ old)⟩⟩
        have := tcnt_le (tx := tx) S k2 (show v7 + 1 ≤ v4 by omega) ext
        omega
      refine ⟨wn, wn, ⟨rfl, k0, by omega⟩, ⟨rfl, vk1, by omega⟩, wn, wn, by unfold jR; omega, ⟨rfl, by omega, by omega⟩, ⟨rfl, vp1, by omega⟩, fun te => ?_, fun te => ?_⟩
      · have n := nx (tcnt tx sq v5 v7 + 0) (by rw [tcnt_old ⟨v7 - 1, by omega, by omega, te.symm⟩]; omega)
        exact ⟨by unfold jR; omega, n.2.2⟩
      · have n := nx (tcnt tx sq v5 v7 + 1) (tcnt_new (by omega) tk (fun j j0 j1 z => ?_)).symm
        · exact ⟨by unfold jR; omega, n.2.2⟩
        · -- texts go up with places
          have vj := S.2.1 j (by omega) (by omega)
          have le1 : sq j ≤ sq (v7 - 1) := by
            by_cases c : j = v7 - 1
            · rw [c]; exact Int.le_refl _
            · rcases S.2.2.2 j (v7 - 1) (by omega) (by omega) (by omega) with w | w
              · exact absurd w (lsh_irr (eqh_trans (eqh_symm (cls j j0 j1)) (cls (v7 - 1) (by omega) (by omega))))
              · omega
          have le2 : sq (v7 - 1) ≤ sq v7 := by
            rcases S.2.2.2 (v7 - 1) v7 (by omega) (by omega) (by omega) with w | w
            · exact absurd w (lsh_irr (eqh_symm e))
            · omega
          have m1 := L.2.2.2 (sq j) (sq (v7 - 1)) vj.1 le1 vp2
          have m2 := L.2.2.2 (sq (v7 - 1)) (sq v7) vp1 le2 vk2
          omega
end OM3R
