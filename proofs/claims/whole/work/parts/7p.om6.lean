/-! what is in many texts: stretches of the order -/
def SAo (n : Int) (f od sh : Int → Int) : Prop := (∀ k, 0 ≤ k → k < n → 0 ≤ f k) ∧ (∀ i, 0 ≤ i → i < n → od (rk n f i) = i) ∧ ∀ i, 0 ≤ i → i < n → sh (rk n f i) = if rk n f i = 0 then 0 else lcp2 n f n f (od (rk n f i - 1)) i
def Str (n : Int) (sh : Int → Int) (s b e : Int) : Prop := 0 ≤ b ∧ b < e ∧ e ≤ n ∧ ∀ j, b < j → j < e → s ≤ sh j
section OM6
variable {n s : Int} {f od sh : Int → Int}
theorem SAo.o (S : SAo n f od sh) {r : Int} (r0 : 0 ≤ r) (r1 : r < n) : 0 ≤ od r ∧ od r < n ∧ rk n f (od r) = r := by
  obtain ⟨i, i0, i1, e⟩ := (rk_prm (n := n) (f := f) (by omega) S.1).2.2 r r0 r1
  rw [← e, S.2.1 i i0 i1]
  exact ⟨i0, i1, rfl⟩
theorem SAo.sh0 (S : SAo n f od sh) (h : 0 < n) : sh 0 = 0 := by
  obtain ⟨a, b, c⟩ := S.o (Int.le_refl 0) h
  have := S.2.2 (od 0) a b
  rw [c, if_pos rfl] at this
  exact this
theorem SAo.sh1 (S : SAo n f od sh) {j : Int} (j0 : 1 ≤ j) (j1 : j < n) : sh j = lcp2 n f n f (od (j - 1)) (od j) := by
  obtain ⟨a, b, c⟩ := S.o (show 0 ≤ j by omega) j1
  have := S.2.2 (od j) a b
  rw [c, if_neg (by omega)] at this
  exact this
theorem SAo.sl (S : SAo n f od sh) {r q : Int} (r0 : 0 ≤ r) (rq : r < q) (q1 : q < n) : sls n f (od r) (od q) := by
  obtain ⟨a, b, c⟩ := S.o r0 (by omega)
  obtain ⟨a', b', c'⟩ := S.o (show 0 ≤ q by omega) q1
  exact (rk_iff S.1 a b a' b').mp (by omega)
theorem lcp_big {i j : Int} (h : s ≤ lcp2 n f n f i j) (s1 : 1 ≤ s) : eqh f s i j ∧ i + s ≤ n ∧ j + s ≤ n := by
  obtain ⟨a, b, d, _⟩ := lcp2_is (n := n) (m := n) (f := f) (g := f) i j
  exact ⟨fun k k0 k1 => d k k0 (by omega), by omega, by omega⟩
theorem big_lcp {i j : Int} (h : eqh f s i j) (hi : i + s ≤ n) (hj : j + s ≤ n) : s ≤ lcp2 n f n f i j := by
  obtain ⟨a, b, d, e⟩ := lcp2_is (n := n) (m := n) (f := f) (g := f) i j
  rcases Int.lt_or_le (lcp2 n f n f i j) s with c | c
  · exact absurd ⟨by omega, by omega, h _ a c⟩ e
  · exact c
/-- neighbours that share s signs do so all along -/
theorem SAo.run (S : SAo n f od sh) (s1 : 1 ≤ s) {b : Int} (b0 : 0 ≤ b) : ∀ d : Nat, b + d < n → (∀ j, b < j → j ≤ b + d → s ≤ sh j) → eqh f s (od b) (od (b + d)) ∧ (1 ≤ d → od b + s ≤ n ∧ od (b + d) + s ≤ n) := by
  intro d
  induction d with
  | zero =>
    intro _ _
    rw [show b + ((0 : Nat) : Int) = b by omega]
    exact ⟨eqh_refl, fun h => by omega⟩
  | succ d ih =>
    intro h1 h2
    obtain ⟨e1, e2⟩ := ih (by omega) (fun j j0 j1 => h2 j j0 (by omega))
    have k := S.sh1 (j := b + (d + 1 : Nat)) (by omega) h1
    obtain ⟨g1, g2, g3⟩ := lcp_big (by rw [← k]; exact h2 _ (by omega) (by omega)) s1
    rw [show b + ((d + 1 : Nat) : Int) - 1 = b + d by omega] at g1 g2
    refine ⟨eqh_trans e1 g1, fun _ => ⟨?_, g3⟩⟩
    by_cases c : d = 0
    · subst c
      rw [show b + ((0 : Nat) : Int) = b by omega] at g2
      exact g2
    · exact (e2 (by omega)).1
theorem Str.eq2 (S : SAo n f od sh) (s1 : 1 ≤ s) {b e j k : Int} (R : Str n sh s b e) (j0 : b ≤ j) (jk : j < k) (k1 : k < e) : eqh f s (od j) (od k) ∧ od j + s ≤ n ∧ od k + s ≤ n := by
  obtain ⟨r1, r2, r3, r4⟩ := R
  have := S.run s1 (b := j) (by omega) (k - j).toNat (by omega) (fun i i0 i1 => r4 i (by omega) (by omega))
  rw [show j + ((k - j).toNat : Int) = k by omega] at this
  exact ⟨this.1, this.2 (by omega)⟩
theorem Str.eq (S : SAo n f od sh) (s1 : 1 ≤ s) {b e j k : Int} (R : Str n sh s b e) (j0 : b ≤ j) (j1 : j < e) (k0 : b ≤ k) (k1 : k < e) : eqh f s (od j) (od k) := by
  rcases Int.lt_trichotomy j k with c | c | c
  · exact (R.eq2 S s1 j0 c k1).1
  · rw [c]; exact eqh_refl
  · exact eqh_symm (R.eq2 S s1 k0 c j1).1
/-- and what shares s signs shares them with all between -/
theorem SAo.btw (S : SAo n f od sh) {r j q : Int} (r0 : 0 ≤ r) (rj : r < j) (jq : j ≤ q) (q1 : q < n) (h : eqh f s (od r) (od q)) (hr : od r + s ≤ n) (hq : od q + s ≤ n) : s ≤ sh j := by
  have g := big_lcp h hr hq
  obtain ⟨a1, a2, _⟩ := S.o r0 (by omega)
  obtain ⟨b1, b2, _⟩ := S.o (show 0 ≤ j by omega) (by omega)
  obtain ⟨c1, c2, _⟩ := S.o (show 0 ≤ q by omega) q1
  obtain ⟨d1, d2, _⟩ := S.o (show 0 ≤ j - 1 by omega) (by omega)
  rw [S.sh1 (by omega) (by omega)]
  have g2 : s ≤ lcp2 n f n f (od r) (od j) := by
    by_cases c : j = q
    · rw [c]; exact g
    · have := lcp_btw2 a1 a2 b1 b2 c1 c2 (S.sl r0 rj (by omega)) (S.sl (by omega) (show j < q by omega) q1)
      omega
  by_cases c : r = j - 1
  · rw [← c]; exact g2
  · have := lcp_btw a1 a2 d1 d2 b1 b2 (S.sl r0 (show r < j - 1 by omega) (by omega)) (S.sl (by omega) (show j - 1 < j by omega) (by omega))
    omega
theorem SAo.ord (S : SAo n f od sh) {r q : Int} (r0 : 0 ≤ r) (rq : r < q) (q1 : q < n) (hr : od r + s ≤ n) : eqh f s (od r) (od q) ∨ lsh f s (od r) (od q) := by
  have g := S.sl r0 rq q1
  obtain ⟨a, b, d, e⟩ := lcp2_is (n := n) (m := n) (f := f) (g := f) (od r) (od q)
  by_cases c : s ≤ lcp2 n f n f (od r) (od q)
  · exact Or.inl fun k k0 k1 => d k k0 (by omega)
  · rcases g with z | z
    · omega
    · exact Or.inr ⟨_, a, by omega, d, z.2.2⟩
end OM6
/-- whose place of s units this is, or -1 -/
noncomputable def owv (T : ATx) (own : Int → Int) (s x : Int) : Int := cif (∃ p, vld (bsT T T.1) (lfT T) s p ∧ jpl T p = x) (own x) (-1)
section OM6B
variable {T : ATx} {F own od sh : Int → Int} {s : Int}
theorem owv_p (A : AT T) (J : JF T F own) {p : Int} (s1 : 1 ≤ s) (v : vld (bsT T T.1) (lfT T) s p) : owv T own s (jpl T p) = txT T p := by
  unfold owv
  rw [cif_t ⟨p, v, rfl⟩]; exact (jpl_v A J v s1).1.2.2
theorem owv_t (A : AT T) (J : JF T F own) {x t : Int} (s1 : 1 ≤ s) (t0 : 0 ≤ t) (h : owv T own s x = t) : ∃ p, vld (bsT T T.1) (lfT T) s p ∧ jpl T p = x ∧ txT T p = t := by
  by_cases c : ∃ p, vld (bsT T T.1) (lfT T) s p ∧ jpl T p = x
  · obtain ⟨p, v, e⟩ := c
    rw [← e, owv_p A J s1 v] at h
    exact ⟨p, v, e, h⟩
  · unfold owv at h
    rw [cif_f c] at h
    omega
theorem tcnt_skip {tx sq : Int → Int} {a b : Int} (h : tx (sq b) = -1) : tcnt tx sq a (b + 1) = tcnt tx sq a b := cntI_c fun t t0 _ => by
  constructor
  · rintro ⟨j, j0, j1, j2⟩
    refine ⟨j, j0, ?_, j2⟩
    by_cases c : j = b
    · rw [c, h] at j2; omega
    · omega
  · rintro ⟨j, j0, j1, j2⟩
    exact ⟨j, j0, by omega, j2⟩
theorem tc_le (A : AT T) (J : JF T F own) (S : SAo (jst T T.1) F od sh) (s1 : 1 ≤ s) {b e p : Int} (R : Str (jst T T.1) sh s b e) (v : vld (bsT T T.1) (lfT T) s p) (p0 : b ≤ rk (jst T T.1) F (jpl T p)) (p1 : rk (jst T T.1) F (jpl T p) < e) : tcnt (owv T own s) od b e ≤ cT (bsT T T.1) (txT T) (lfT T) (unT T) s p := cntI_imp fun t t0 _ ⟨j, j0, j1, j2⟩ => by
  obtain ⟨q, vq, eq, tq⟩ := owv_t A J s1 t0 j2
  refine ⟨q, vq, tq, (jpl_e A J s1 v vq).mp ?_⟩
  have g := jpl_v A J v s1
  rw [eq, ← S.2.1 (jpl T p) g.1.1 (by omega)]
  exact R.eq S s1 p0 p1 j0 j1
theorem tc_ge (A : AT T) (J : JF T F own) (S : SAo (jst T T.1) F od sh) (s1 : 1 ≤ s) {b e p : Int} (R : Str (jst T T.1) sh s b e) (hb : b = 0 ∨ sh b < s) (he : e = jst T T.1 ∨ sh e < s) (v : vld (bsT T T.1) (lfT T) s p) (p0 : b ≤ rk (jst T T.1) F (jpl T p)) (p1 : rk (jst T T.1) F (jpl T p) < e) : cT (bsT T T.1) (txT T) (lfT T) (unT T) s p ≤ tcnt (owv T own s) od b e := cntI_imp fun t t0 _ ⟨q, vq, tq, eq⟩ => by
  have gp := (jpl_v A J v s1).1
  have gq := (jpl_v A J vq s1).1
  have eF := (jpl_e A J s1 v vq).mpr eq
  have op := S.2.1 (jpl T p) gp.1 (by omega)
  have oq := S.2.1 (jpl T q) gq.1 (by omega)
  have rp := rk_r (f := F) gp.1 (show jpl T p < jst T T.1 by omega)
  have rq := rk_r (f := F) gq.1 (show jpl T q < jst T T.1 by omega)
  refine ⟨rk (jst T T.1) F (jpl T q), ?_, ?_, by rw [oq, owv_p A J s1 vq]; exact tq⟩
  · rcases Int.lt_or_le (rk (jst T T.1) F (jpl T q)) b with c | c
    · have := S.btw (s := s) rq.1 c p0 rp.2 (by rw [op, oq]; exact eqh_symm eF) (by rw [oq]; omega) (by rw [op]; omega)
      omega
    · exact c
  · rcases Int.lt_or_le (rk (jst T T.1) F (jpl T q)) e with c | c
    · exact c
    · have := S.btw (s := s) rp.1 p1 c rq.2 (by rw [op, oq]; exact eF) (by rw [op]; omega) (by rw [oq]; omega)
      omega
/-- the first place of a stretch -/
theorem gp_str (A : AT T) (J : JF T F own) (S : SAo (jst T T.1) F od sh) (s1 : 1 ≤ s) {b e k many p0 : Int} (R : Str (jst T T.1) sh s b e) (he : e = jst T T.1 ∨ sh e < s) (k0 : b ≤ k) (k1 : k < e) (hk : ∀ j, b ≤ j → j < e → od k ≤ od j) (v : vld (bsT T T.1) (lfT T) s p0) (r0 : b ≤ rk (jst T T.1) F (jpl T p0)) (r1 : rk (jst T T.1) F (jpl T p0) < e) (m : many ≤ cT (bsT T T.1) (txT T) (lfT T) (unT T) s p0) (old : ∀ p, vld (bsT T T.1) (lfT T) s p → rk (jst T T.1) F (jpl T p) < b → cT (bsT T T.1) (txT T) (lfT T) (unT T) s p < many) : ∃ p, jpl T p = od k ∧ GP (bsT T T.1) (txT T) (lfT T) (unT T) s many p := by
  have g0 := (jpl_v A J v s1).1
  have o0 := S.2.1 (jpl T p0) g0.1 (by omega)
  have R1 := R.1
  have R3 := R.2.2.1
  have ex : ∃ p, vld (bsT T T.1) (lfT T) s p ∧ jpl T p = od k := by
    rcases Int.lt_trichotomy k (rk (jst T T.1) F (jpl T p0)) with c | c | c
    · have g := R.eq2 S s1 k0 c r1
      have a := S.o (show 0 ≤ k by omega) (by omega)
      rw [o0] at g
      exact jtwo A J s1 a.1 g.2.1 g0.1 g0.2.1 (fun z => by rw [← z, a.2.2] at c; omega) g.1
    · exact ⟨p0, v, by rw [c, o0]⟩
    · have g := R.eq2 S s1 r0 c k1
      have a := S.o (show 0 ≤ k by omega) (by omega)
      rw [o0] at g
      exact jtwo A J s1 a.1 g.2.2 g0.1 g0.2.1 (fun z => by rw [← z, a.2.2] at c; omega) (eqh_symm g.1)
  obtain ⟨p, vp, ep⟩ := ex
  have gp := (jpl_v A J vp s1).1
  have rp : rk (jst T T.1) F (jpl T p) = k := by rw [ep]; exact (S.o (by omega) (by omega)).2.2
  have e0 : eqh (unT T) s p p0 := (jpl_e A J s1 vp v).mp (by rw [ep, ← o0]; exact R.eq S s1 k0 k1 r0 r1)
  refine ⟨p, ep, vp, by rw [cT_c e0]; exact m, fun q vq mq => ?_⟩
  have gq := (jpl_v A J vq s1).1
  have oq := S.2.1 (jpl T q) gq.1 (by omega)
  have rq := rk_r (f := F) gq.1 (show jpl T q < jst T T.1 by omega)
  rcases Int.lt_or_le (rk (jst T T.1) F (jpl T q)) b with c | c
  · have := old q vq c; omega
  · rcases Int.lt_or_le (rk (jst T T.1) F (jpl T q)) e with d | d
    · refine Or.inr ⟨(jpl_e A J s1 vp vq).mp (by rw [ep, ← oq]; exact R.eq S s1 k0 k1 c d), jpl_le A vp.1 vp.2.1 vq.1 vq.2.1 ?_⟩
      have := hk _ c d
      rw [oq] at this
      rw [ep]; exact this
    · rcases S.ord (s := s) (show 0 ≤ k by omega) (show k < rk (jst T T.1) F (jpl T q) by omega) rq.2 (by omega) with z | z
      · exfalso
        have := S.btw (s := s) (show 0 ≤ k by omega) k1 d rq.2 z (by omega) (by rw [oq]; omega)
        omega
      · rw [oq, ← ep] at z
        exact Or.inl (jpl_l A J s1 vp vq z)
end OM6B
/-- where some text is in many, there is a least one with a first place -/
theorem gp_ex {n : Int} {tx lf U : Int → Int} {s many : Int} (s0 : 0 ≤ s) (h : ∃ p, vld n lf s p ∧ many ≤ cT n tx lf U s p) : ∃ p, GP n tx lf U s many p := by
  have key : ∀ m : Nat, (∃ p, p < (m : Int) ∧ vld n lf s p ∧ many ≤ cT n tx lf U s p) → ∃ p, (p < (m : Int) ∧ vld n lf s p) ∧ many ≤ cT n tx lf U s p ∧ ∀ q, q < (m : Int) → vld n lf s q → many ≤ cT n tx lf U s q → lsh U s p q ∨ (eqh U s p q ∧ p ≤ q) := by
    intro m
    induction m with
    | zero => rintro ⟨p, a, b, c⟩; have := b.1; omega
    | succ m ih =>
      rintro ⟨p, a, b, c⟩
      by_cases g : vld n lf s m ∧ many ≤ cT n tx lf U s m
      · by_cases o : ∃ p, p < (m : Int) ∧ vld n lf s p ∧ many ≤ cT n tx lf U s p
        · obtain ⟨x, x1, x2, x3⟩ := ih o
          rcases lsh_triI (F := U) (i := x) (j := (m : Int)) s0 with z | z | z
          · refine ⟨x, ⟨by omega, x1.2⟩, x2, fun q q0 q1 q2 => ?_⟩
            by_cases w : q = m
            · rw [w]; exact Or.inl z
            · exact x3 q (by omega) q1 q2
          · refine ⟨x, ⟨by omega, x1.2⟩, x2, fun q q0 q1 q2 => ?_⟩
            by_cases w : q = m
            · rw [w]; exact Or.inr ⟨z, by omega⟩
            · exact x3 q (by omega) q1 q2
          · refine ⟨m, ⟨by omega, g.1⟩, g.2, fun q q0 q1 q2 => ?_⟩
            by_cases w : q = m
            · rw [w]; exact Or.inr ⟨eqh_refl, Int.le_refl _⟩
            · rcases x3 q (by omega) q1 q2 with u | u
              · exact Or.inl (lsh_trans z u)
              · exact Or.inl (lsh_le z u.1)
        · refine ⟨m, ⟨by omega, g.1⟩, g.2, fun q q0 q1 q2 => ?_⟩
          by_cases w : q = m
          · rw [w]; exact Or.inr ⟨eqh_refl, Int.le_refl _⟩
          · exact absurd ⟨q, by omega, q1, q2⟩ o
      · have o : ∃ p, p < (m : Int) ∧ vld n lf s p ∧ many ≤ cT n tx lf U s p := by
          refine ⟨p, ?_, b, c⟩
          by_cases w : p = m
          · rw [w] at b c; exact absurd ⟨b, c⟩ g
          · omega
        obtain ⟨x, x1, x2, x3⟩ := ih o
        refine ⟨x, ⟨by omega, x1.2⟩, x2, fun q q0 q1 q2 => ?_⟩
        by_cases w : q = m
        · rw [w] at q1 q2; exact absurd ⟨q1, q2⟩ g
        · exact x3 q (by omega) q1 q2
  obtain ⟨p, v, c⟩ := h
  have v0 := v.1
  have v1 := v.2.1
  obtain ⟨x, x1, x2, x3⟩ := key n.toNat ⟨p, by omega, v, c⟩
  exact ⟨x, x1.2, x2, fun q vq mq => x3 q (by have := vq.2.1; have := vq.1; omega) vq mq⟩
