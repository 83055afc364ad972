/-! step: cover -/
/-- one place: the first patterns looked at, with g behind it -/
noncomputable def lsq (n : Int) (f : Int → Int) (P : ATx) (g : Int → Int) (i : Int) : Nat → Int
  | 0 => -1
  | q + 1 => cif (occ n f P i q ∧ g (i + P.2.1 q) ≠ -1 ∧ (lsq n f P g i q = -1 ∨ g (i + P.2.1 q) + 1 < lsq n f P g i q)) (g (i + P.2.1 q) + 1) (lsq n f P g i q)
/-- the k last places done -/
noncomputable def lst (n : Int) (f : Int → Int) (P : ATx) : Nat → Int → Int
  | 0, _ => 0
  | k + 1, i => cif (i = n - (k + 1)) (lsq n f P (lst n f P k) i P.1.toNat) (lst n f P k i)
theorem lsq_s {n i q : Int} {f g : Int → Int} {P : ATx} (h : 0 ≤ q) : lsq n f P g i (q + 1).toNat = cif (occ n f P i q ∧ g (i + P.2.1 q) ≠ -1 ∧ (lsq n f P g i q.toNat = -1 ∨ g (i + P.2.1 q) + 1 < lsq n f P g i q.toNat)) (g (i + P.2.1 q) + 1) (lsq n f P g i q.toNat) := by
  obtain ⟨k, rfl⟩ := Int.eq_ofNat_of_zero_le h
  rw [show ((k : Int) + 1).toNat = k + 1 by omega, show ((k : Int)).toNat = k by omega]
  rfl
/-- what the numbers of a cover are: 0 at the end; elsewhere none, or one more than behind some pattern, the least so -/
def Cvr (n : Int) (f : Int → Int) (P : ATx) (g : Int → Int) : Prop := g n = 0 ∧ ∀ i, 0 ≤ i → i < n → (g i = -1 ∨ (1 ≤ g i ∧ g i ≤ n - i ∧ ∃ q, 0 ≤ q ∧ q < P.1 ∧ occ n f P i q ∧ g (i + P.2.1 q) = g i - 1))
theorem lsq_ok {n i : Int} {f g : Int → Int} {P : ATx} (hP : ∀ q, 0 ≤ q → q < P.1 → 1 ≤ P.2.1 q) (hg : ∀ j, i < j → j ≤ n → g j = -1 ∨ (0 ≤ g j ∧ g j ≤ n - j)) : ∀ q : Nat, (q : Int) ≤ P.1 → (lsq n f P g i q = -1 ∨ (1 ≤ lsq n f P g i q ∧ lsq n f P g i q ≤ n - i ∧ ∃ p, 0 ≤ p ∧ p < P.1 ∧ occ n f P i p ∧ g (i + P.2.1 p) = lsq n f P g i q - 1))
  | 0, _ => Or.inl rfl
  | q + 1, hq => by
    have ih := lsq_ok (f := f) hP hg q (by omega)
    rcases Classical.em (occ n f P i q ∧ g (i + P.2.1 q) ≠ -1 ∧ (lsq n f P g i q = -1 ∨ g (i + P.2.1 q) + 1 < lsq n f P g i q)) with c | c
    · have e : lsq n f P g i (q + 1) = g (i + P.2.1 q) + 1 := cif_t c
      have l1 := hP q (by omega) (by omega)
      have b := hg (i + P.2.1 q) (by omega) c.1.1
      rw [e]
      exact Or.inr ⟨by omega, by omega, q, by omega, by omega, c.1, by omega⟩
    · have e : lsq n f P g i (q + 1) = lsq n f P g i q := cif_f c
      rw [e]; exact ih
theorem lst_end {n : Int} {f : Int → Int} {P : ATx} : ∀ k : Nat, lst n f P k n = 0
  | 0 => rfl
  | k + 1 => (cif_f (by omega)).trans (lst_end k)
theorem lst_old {n i : Int} {f : Int → Int} {P : ATx} {k : Nat} (h : i ≠ n - (k + 1)) : lst n f P (k + 1) i = lst n f P k i := cif_f h
theorem lst_new {n : Int} {f : Int → Int} {P : ATx} {k : Nat} : lst n f P (k + 1) (n - (k + 1)) = lsq n f P (lst n f P k) (n - (k + 1)) P.1.toNat := cif_t rfl
theorem lst_ok {n : Int} {f : Int → Int} {P : ATx} (h0 : 0 ≤ P.1) (hP : ∀ q, 0 ≤ q → q < P.1 → 1 ≤ P.2.1 q) : ∀ k : Nat, ∀ i, n - k ≤ i → i < n → (lst n f P k i = -1 ∨ (1 ≤ lst n f P k i ∧ lst n f P k i ≤ n - i ∧ ∃ q, 0 ≤ q ∧ q < P.1 ∧ occ n f P i q ∧ lst n f P k (i + P.2.1 q) = lst n f P k i - 1))
  | 0 => fun i h1 h2 => by omega
  | k + 1 => fun i h1 h2 => by
    have ih := lst_ok (n := n) (f := f) h0 hP k
    have nn : ∀ j, n - (k + 1) < j → lst n f P (k + 1) j = lst n f P k j := fun j hj => lst_old (by omega)
    by_cases hi : i = n - (k + 1)
    · have hg : ∀ j, i < j → j ≤ n → lst n f P k j = -1 ∨ (0 ≤ lst n f P k j ∧ lst n f P k j ≤ n - j) := fun j j0 j1 => by
        by_cases hj : j = n
        · rw [hj, lst_end]; omega
        · rcases ih j (by omega) (by omega) with c | c
          · exact Or.inl c
          · exact Or.inr ⟨by omega, c.2.1⟩
      have e : lst n f P (k + 1) i = lsq n f P (lst n f P k) i P.1.toNat := by rw [hi]; exact lst_new
      rw [e]
      rcases lsq_ok (f := f) hP hg P.1.toNat (by omega) with c | c
      · exact Or.inl c
      · obtain ⟨c1, c2, q, c3, c4, c5, c6⟩ := c
        refine Or.inr ⟨c1, c2, q, c3, c4, c5, ?_⟩
        have := hP q c3 c4
        rw [nn _ (by omega)]; exact c6
    · rw [nn i (by omega)]
      rcases ih i (by omega) h2 with c | c
      · exact Or.inl c
      · obtain ⟨c1, c2, q, c3, c4, c5, c6⟩ := c
        refine Or.inr ⟨c1, c2, q, c3, c4, c5, ?_⟩
        have := hP q c3 c4
        rw [nn _ (by omega)]; exact c6
/-- the first pattern on a least way -/
def fq (n : Int) (f : Int → Int) (P : ATx) (g : Int → Int) (i q : Int) : Prop := 0 ≤ q ∧ q < P.1 ∧ (occ n f P i q ∧ g (i + P.2.1 q) = g i - 1) ∧ ∀ p, 0 ≤ p → p < q → ¬ (occ n f P i p ∧ g (i + P.2.1 p) = g i - 1)
theorem fq_uniq {n i q r : Int} {f g : Int → Int} {P : ATx} (h : fq n f P g i q) (h' : fq n f P g i r) : q = r := by
  rcases Int.lt_trichotomy q r with e | e | e
  · exact absurd h.2.2.1 (h'.2.2.2 q h.1 e)
  · exact e
  · exact absurd h'.2.2.1 (h.2.2.2 r h'.1 e)
/-- the words from place i on -/
def Wd (n : Int) (f : Int → Int) (P : ATx) (g : Int → Int) : List TR → Int → Prop
  | [], i => i = n
  | r :: l, i => i < n ∧ fq n f P g i r.1 ∧ r.2 = (0, 0) ∧ Wd n f P g l (i + P.2.1 r.1)
theorem Wd_uniq {n : Int} {f g : Int → Int} {P : ATx} : ∀ (l m : List TR) (i : Int), Wd n f P g l i → Wd n f P g m i → l = m
  | [], [], _, _, _ => rfl
  | [], r :: m, i, h, h' => by have := h'.1; have h : i = n := h; omega
  | r :: l, [], i, h, h' => by have := h.1; have h' : i = n := h'; omega
  | r :: l, s :: m, i, h, h' => by
    have e := fq_uniq h.2.1 h'.2.1
    have e2 : r = s := Prod.ext e (h.2.2.1.trans h'.2.2.1.symm)
    subst e2
    rw [Wd_uniq l m _ h.2.2.2 h'.2.2.2]
section COVER
variable {G : JG} {X : Int}
/-- only an array of scratch has changed -/
def Aof (X p : Int) (M M' : JM) : Prop := ∀ (k : Nat) (a j : Int), ¬ (k = 2 ∧ a = X + p) → M' k a j = M k a j
theorem Aof.refl (X p : Int) (M : JM) : Aof X p M M := fun _ _ _ _ => rfl
theorem Aof.set {p : Int} {M M' : JM} (h : Aof X p M M') (j v : Int) : Aof X p M (jset M' 2 (X + p) j v) := fun k a i g => by
  rw [show jset M' 2 (X + p) j v k a i = M' k a i from if_neg fun e => g ⟨e.1, e.2.1⟩]
  exact h k a i g
set_option maxHeartbeats 2000000 in
theorem st_cover (t : Int) : JSt (IV X) 3072 G X 151 215 [(0, t)] := mk_stp fun n M T K P D C H A hX hn0 hn => by
  by_cases ht : 0 ≤ t ∧ t < T.1
  · have At := A.1.2.2 t ht.1 ht.2
    obtain ⟨u1, u2, u3⟩ := id At
    obtain ⟨p1, p2, p3⟩ := A.2.2.1
    obtain ⟨L, hL⟩ : ∃ L, L = T.2.1 t := ⟨_, rfl⟩
    obtain ⟨f, hf⟩ : ∃ f, f = T.2.2 t := ⟨_, rfl⟩
    rw [← hL] at u1 u2 u3
    rw [← hf] at u3
    rw [← hL, ← hf] at At
    have hP : ∀ q, 0 ≤ q → q < P.1 → 1 ≤ P.2.1 q := fun q q0 q1 => (p3 q q0 q1).1
    obtain ⟨g, hg⟩ : ∃ g, g = lst L f P L.toNat := ⟨_, rfl⟩
    have gn : g L = 0 := by rw [hg]; exact lst_end _
    have gk : ∀ i, 0 ≤ i → i < L → (g i = -1 ∨ (1 ≤ g i ∧ g i ≤ L - i ∧ ∃ q, 0 ≤ q ∧ q < P.1 ∧ occ L f P i q ∧ g (i + P.2.1 q) = g i - 1)) := fun i i0 i1 => by
      rw [hg]; exact lst_ok p1 hP _ i (by omega) i1
    have gb : ∀ i, 0 ≤ i → i ≤ L → -1 ≤ g i ∧ g i ≤ 240 := fun i i0 i1 => by
      by_cases hi : i = L
      · rw [hi, gn]; omega
      · rcases gk i i0 (by omega) with c | c <;> omega
    have lb : ∀ (k : Nat) i, L - k ≤ i → 0 ≤ i → i ≤ L → (k : Int) ≤ L → -1 ≤ lst L f P k i ∧ lst L f P k i ≤ 240 := fun k i i0 i1 i2 hk => by
      by_cases hi : i = L
      · rw [hi, lst_end]; omega
      · rcases lst_ok (n := L) (f := f) p1 hP k i i0 (by omega) with c | c <;> omega
    have qb : ∀ (k : Nat) i (q : Nat), i = L - (k + 1) → (q : Int) ≤ P.1 → 0 ≤ i → -1 ≤ lsq L f P (lst L f P k) i q ∧ lsq L f P (lst L f P k) i q ≤ 240 := fun k i q hi hq h0 => by
      rcases lsq_ok (f := f) (i := i) (n := L) (g := lst L f P k) hP (fun j j0 j1 => by
        by_cases hj : j = L
        · rw [hj, lst_end]; omega
        · rcases lst_ok (n := L) (f := f) p1 hP k j (by omega) (by omega) with c | c
          · exact Or.inl c
          · exact Or.inr ⟨by omega, c.2.1⟩) q hq with c | c <;> omega
    -- the component measures
    have W := C.1
    obtain ⟨TT, e1, e2, e3, e4, e5, e6, e7, e8⟩ := c_txt C A ht
    rw [← hL] at e1
    have cb : ∀ N, Aof X 166 M N → CB X n N T K P D := fun N o => C.keep A fun k a j q => o k a j (by unfold fpC fpS fpT fpK fpP fpD at q; omega)
    have meas : ∀ Q : Int → JM → Prop, (∀ N, Aof X 166 M N → (∀ i, 0 ≤ i → i ≤ L → N 2 (X + 166) i = g i) → Q 0 N) → Runs G 14 0 0 [(1, X + 164), (1, X + (4 + 2 * t))] M Q := fun Q hQ => by
      refine lp_X2_measureRests (fun v0 v1 v2 N => X + 164 = v0 ∧ X + (4 + 2 * t) = v1 ∧ -1 ≤ v2 ∧ v2 < L ∧ Aof X 166 M N ∧ ∀ i, v2 < i → i ≤ L → N 2 (X + 166) i = lst L f P (L - 1 - v2).toNat i) (fun _ _ v2 => ((v2 + 1) * 1000).toNat) (fun v0 v1 v2 v3 N => X + 164 = v0 ∧ X + (4 + 2 * t) = v1 ∧ 0 ≤ v2 ∧ v2 < L ∧ 0 ≤ v3 ∧ v3 ≤ P.1 ∧ Aof X 166 M N ∧ (∀ i, v2 < i → i ≤ L → N 2 (X + 166) i = lst L f P (L - 1 - v2).toNat i) ∧ N 2 (X + 166) v2 = lsq L f P (lst L f P (L - 1 - v2).toNat) v2 v3.toNat) (fun _ _ v2 v3 => ((v2 + 1) * 1000 - 1 - v3).toNat) ?_ ?_ _ _ M ?_
      · rintro v0 v1 v2 N ⟨rfl, rfl, i1, i2, i3, i4⟩
        have cN := cb N i3
        have W1 := cN.1
        refine ⟨fun q => hQ N i3 (fun i i0 i1 => ?_), fun q => ?_⟩
        · rw [i4 i (by omega) i1, hg, show (L - 1 - v2).toNat = L.toNat by omega]
        · rw [w_patterns_301 W1, w_pleast_t W1, w_pleast_n W1]
          exact ⟨w_patterns_t W1, ⟨rfl, by omega, by omega⟩, ⟨rfl, rfl, by omega, i2, by omega, by omega, i3.set _ _, fun i i0 i1 => by rw [jset_j (by omega)]; exact i4 i i0 i1, jset_s⟩, by omega⟩
      · rintro v0 v1 v2 v3 N ⟨rfl, rfl, i1, i2, i3, i4, i5, i6, i7⟩
        have cN := cb N i5
        have W1 := cN.1
        have eK : (((L - 1 - v2).toNat : Nat) : Int) = L - 1 - v2 := by omega
        rw [cN.2.2.2.2.1.1.1, w_patterns_300 W1]
        refine ⟨w_patterns_t W1, fun q => ⟨by unfold jR; omega, ⟨rfl, rfl, by omega, by omega, i5, fun i h0 h1 => ?_⟩, by omega⟩, fun q => ?_⟩
        · have : v3 = P.1 := by omega
          subst this
          rw [show (L - 1 - (v2 + -1)).toNat = (L - 1 - v2).toNat + 1 by omega]
          by_cases hi : i = v2
          · rw [hi, i7]
            have := @lst_new L f P (L - 1 - v2).toNat
            rw [show L - ((((L - 1 - v2).toNat : Nat) : Int) + 1) = v2 by omega] at this
            exact this.symm
          · rw [lst_old (by omega)]; exact i6 i (by omega) h1
        · obtain ⟨pf, pe⟩ := c_pf cN A (q := v3) ⟨i3, by omega⟩
          obtain ⟨b1, b2, b3⟩ := p3 v3 i3 (by omega)
          have iff := fit_occ (n := L) (m := 0) (q := v3) (i := v2) (f := f) (P := P) At (by omega) (fun k k0 k1 => (b3 k k0 k1).1) i1
          have tf := c_tf cN A ht
          rw [← hL, ← hf] at tf
          have lq := lsq_s (n := L) (i := v2) (q := v3) (f := f) (g := lst L f P (L - 1 - v2).toNat) (P := P) i3
          have bq := qb (L - 1 - v2).toNat v2 v3.toNat (by omega) (by omega) i1
          rw [pe]
          refine ⟨w_patterns_t W1, ⟨Or.inl (w_pkept_t W1), i3, by rw [w_pkept_n W1]; omega⟩, c_fits tf pf (by omega) (by decide) (fun g1 g2 g3 _ => ⟨fun q => absurd q (by decide), fun _ => ?_⟩) (fun g0 _ => ⟨fun _ => ⟨by unfold jR; omega, ⟨rfl, rfl, i1, i2, by omega, by omega, i5, i6, ?_⟩, by omega⟩, fun q => absurd rfl q⟩)⟩
          · have oc := iff.mp ⟨g1, g2, g3⟩
            have oc1 := oc.1
            have br := lb (L - 1 - v2).toNat (v2 + P.2.1 v3) (by omega) (by omega) oc.1 (by omega)
            rw [w_patterns_300 W1, w_patterns_301 W1, w_pleast_t W1, w_pleast_n W1, pe, pf.2.1, i7, i6 (v2 + P.2.1 v3) (by omega) oc.1]
            refine ⟨w_patterns_t W1, w_patterns_t W1, ⟨Or.inl (w_pkept_t W1), i3, by rw [w_pkept_n W1]; omega⟩, pf.1, by unfold jR; omega, ⟨rfl, by omega, by omega⟩, fun h1 => ⟨by unfold jR; omega, ⟨rfl, rfl, i1, i2, by omega, by omega, i5, i6, ?_⟩, by omega⟩, fun h1 => ⟨w_patterns_t W1, ⟨rfl, by omega, by omega⟩, fun h2 => ⟨w_patterns_t W1, by unfold jR; omega, ⟨rfl, by omega, by omega⟩, by unfold jR; omega, ⟨rfl, rfl, i1, i2, by omega, by omega, i5.set _ _, fun i h0 h1 => by rw [jset_j (by omega)]; exact i6 i h0 h1, ?_⟩, by omega⟩, fun h2 => ⟨by unfold jR; omega, w_patterns_t W1, ⟨rfl, by omega, by omega⟩, fun h3 => ⟨by unfold jR; omega, ⟨rfl, rfl, i1, i2, by omega, by omega, i5, i6, ?_⟩, by omega⟩, fun h3 => ⟨w_patterns_t W1, by unfold jR; omega, ⟨rfl, by omega, by omega⟩, by unfold jR; omega, ⟨rfl, rfl, i1, i2, by omega, by omega, i5.set _ _, fun i h0 h1 => by rw [jset_j (by omega)]; exact i6 i h0 h1, ?_⟩, by omega⟩⟩⟩⟩
            · rw [lq, cif_f (fun z => z.2.1 h1)]
            · rw [jset_s, lq, cif_t ⟨oc, h1, Or.inl h2⟩]
            · rw [lq, cif_f (fun z => z.2.2.elim h2 (fun y => by omega))]
            · rw [jset_s, lq, cif_t ⟨oc, h1, Or.inr (by omega)⟩]
          · rw [i7, lq, cif_f (fun z => g0 (iff.mpr z.1))]
      · rw [w_patterns_301 W, w_pleast_t W, w_pleast_n W, e1]
        refine ⟨w_patterns_t W, e4, ⟨rfl, by omega, by omega⟩, e4, by unfold jR; omega, ⟨rfl, rfl, by omega, by omega, (Aof.refl X 166 M).set _ _, fun i h0 h1 => ?_⟩⟩
        have : i = L := by omega
        rw [this, jset_s, lst_end]
    have dead : g 0 = -1 ∨ g 0 ≠ -1 := Classical.em _
    -- the reference measures
    have rmeas : ∀ (M1 : JM) (Q : Int → JM → Prop), RI X M1 T K P D → (∀ N, Aof X 232 M1 N → (∀ i, 0 ≤ i → i ≤ L → N 2 (X + 232) i = g i) → (g 0 = -1 → Q (-4) N) ∧ (g 0 ≠ -1 → ∀ l, Wd L f P g l 0 → ∀ N2, Rof1 X N N2 → RD1 X N2 3216 231 l → Q l.length N2)) → Runs G 215 0 0 [(1, X + 218), (0, t)] M1 Q := fun M1 Q R hQ => by
      have W := R.1
      have wt := w_model_t W
      obtain ⟨z1, z2, z3, z4, z5⟩ := r_txt R A ht
      rw [← hL] at z1
      have rb : ∀ N, Aof X 232 M1 N → RI X N T K P D := fun N o => R.keep (R.1.keep fun k a j _ _ hk => o k a j (by omega)) fun k a j q => o k a j (by unfold fpR at q; omega)
      refine lp_X12_cover (fun v0 v1 v2 v3 N => X + 218 = v0 ∧ t = v1 ∧ L = v2 ∧ -1 ≤ v3 ∧ v3 < L ∧ Aof X 232 M1 N ∧ ∀ i, v3 < i → i ≤ L → N 2 (X + 232) i = lst L f P (L - 1 - v3).toNat i) (fun _ _ _ v3 => ((v3 + 2) * 10000).toNat + 1000000) (fun v0 v1 v2 v3 v4 N => X + 218 = v0 ∧ t = v1 ∧ L = v2 ∧ 0 ≤ v3 ∧ v3 < L ∧ 0 ≤ v4 ∧ v4 ≤ P.1 ∧ Aof X 232 M1 N ∧ (∀ i, v3 < i → i ≤ L → N 2 (X + 232) i = lst L f P (L - 1 - v3).toNat i) ∧ N 2 (X + 232) v3 = lsq L f P (lst L f P (L - 1 - v3).toNat) v3 v4.toNat) (fun _ _ _ v3 v4 => ((v3 + 2) * 10000 - 1 - v4).toNat + 1000000) (fun v0 v1 v2 v3 N => X + 218 = v0 ∧ t = v1 ∧ L = v2 ∧ g 0 ≠ -1 ∧ 0 ≤ v3 ∧ v3 ≤ L ∧ g v3 ≠ -1 ∧ ∃ N1 l, Aof X 232 M1 N1 ∧ (∀ i, 0 ≤ i → i ≤ L → N1 2 (X + 232) i = g i) ∧ Rof1 X N1 N ∧ RD1 X N 3216 231 l ∧ (l.length : Int) + g v3 = g 0 ∧ ∀ l2, Wd L f P g l2 v3 → Wd L f P g (l ++ l2) 0) (fun _ _ _ v3 => ((1000 - v3) * 100).toNat) (fun v0 v1 v2 v3 v4 N => X + 218 = v0 ∧ t = v1 ∧ L = v2 ∧ g 0 ≠ -1 ∧ 0 ≤ v3 ∧ v3 < L ∧ g v3 ≠ -1 ∧ (0 ≤ v4 ∧ v4 ≤ P.1 ∧ ∀ p, 0 ≤ p → p < v4 → ¬ (occ L f P v3 p ∧ g (v3 + P.2.1 p) = g v3 - 1)) ∧ ∃ N1 l, Aof X 232 M1 N1 ∧ (∀ i, 0 ≤ i → i ≤ L → N1 2 (X + 232) i = g i) ∧ Rof1 X N1 N ∧ RD1 X N 3216 231 l ∧ (l.length : Int) + g v3 = g 0 ∧ ∀ l2, Wd L f P g l2 v3 → Wd L f P g (l ++ l2) 0) (fun _ _ _ v3 v4 => ((1000 - v3) * 100 - 1 - v4).toNat) ?_ ?_ ?_ ?_ _ _ M1 ?_
      · rintro v0 v1 v2 v3 N ⟨rfl, rfl, rfl, i1, i2, i3, i4⟩
        have rN := rb N i3
        have W1 := rN.1
        have wn := w_model_t W1
        rw [w_model_1318 W1, w_m1318_t W1, w_m1318_n W1]
        refine ⟨fun q => ⟨wn, ⟨rfl, by decide, by decide⟩, ?_⟩, fun q => ⟨wn, ⟨rfl, by omega, by omega⟩, ⟨rfl, rfl, rfl, by omega, i2, by omega, by omega, i3.set _ _, fun i i0 i1 => by rw [jset_j (by omega)]; exact i4 i i0 i1, jset_s⟩, by omega⟩⟩
        have all : ∀ i, 0 ≤ i → i ≤ L → N 2 (X + 232) i = g i := fun i i0 i1 => by
          rw [i4 i (by omega) i1, hg, show (L - 1 - v3).toNat = L.toNat by omega]
        rw [all 0 (by omega) (by omega)]
        obtain ⟨k1, k2⟩ := hQ N i3 all
        refine ⟨fun q2 => ⟨wn, ⟨rfl, rfl, rfl, q2, by omega, by omega, q2, N, [], i3, all, fun k a j h1 h2 => if_neg (by omega), ⟨jset_s, fun k k0 k1 => by have k1 : k < ((0 : Nat) : Int) := k1; omega⟩, by show ((0 : Nat) : Int) + g 0 = g 0; omega, fun l2 h => h⟩, by omega⟩, fun q2 => k1 (Classical.not_not.mp q2)⟩
      · rintro v0 v1 v2 v3 v4 N ⟨rfl, rfl, rfl, i1, i2, i3, i4, i5, i6, i7⟩
        have rN := rb N i5
        have W1 := rN.1
        have wn := w_model_t W1
        have eK : (((L - 1 - v3).toNat : Nat) : Int) = L - 1 - v3 := by omega
        rw [rN.2.2.2.1.1]
        have same : ∀ M2 : JM, jset M2 2 (X + 232) v3 (M2 2 (X + 232) v3) = M2 := fun M2 => jm_ext fun k a j => by
          unfold jset
          by_cases c : k = 2 ∧ a = X + 232 ∧ j = v3
          · rw [if_pos c, c.1, c.2.1, c.2.2]
          · rw [if_neg c]
        refine ⟨wn, fun q => ⟨by unfold jR; omega, ⟨rfl, rfl, rfl, by omega, by omega, i5, fun i h0 h1 => ?_⟩, by omega⟩, fun q => ⟨wn, ?_⟩⟩
        · have : v4 = P.1 := by omega
          subst this
          rw [show (L - 1 - (v3 + -1)).toNat = (L - 1 - v3).toNat + 1 by omega]
          by_cases hi : i = v3
          · rw [hi, i7]
            have := @lst_new L f P (L - 1 - v3).toNat
            rw [show L - ((((L - 1 - v3).toNat : Nat) : Int) + 1) = v3 by omega] at this
            exact this.symm
          · rw [lst_old (by omega)]; exact i6 i (by omega) h1
        · obtain ⟨b1, b2, b3⟩ := p3 v4 i3 (by omega)
          obtain ⟨d1, -⟩ := rN.2.2.2.1.2 v4 i3 (by omega)
          have lq := lsq_s (n := L) (i := v3) (q := v4) (f := f) (g := lst L f P (L - 1 - v3).toNat) (P := P) i3
          have bq := qb (L - 1 - v3).toNat v3 v4.toNat (by omega) (by omega) i1
          refine r_occurs rN A ht ⟨i1, by omega⟩ ⟨i3, by omega⟩ (fun oc _ => ⟨fun q => absurd q (by decide), fun _ => ?_⟩) (fun oc _ => ⟨fun _ => ⟨wn, ?_⟩, fun q => absurd rfl q⟩)
          · rw [← hL, ← hf] at oc
            have oc1 := oc.1
            have br := lb (L - 1 - v3).toNat (v3 + P.2.1 v4) (by omega) (by omega) oc.1 (by omega)
            rw [w_model_1311 W1, w_m1311_t W1, w_m1311_n W1, w_model_1318 W1, w_m1318_t W1, w_m1318_n W1, d1, same, i7, i6 (v3 + P.2.1 v4) (by omega) oc.1]
            refine ⟨wn, wn, ⟨rfl, i3, by omega⟩, by unfold jR; omega, ⟨rfl, by omega, by omega⟩, wn, fun h1 => ⟨wn, ⟨rfl, by omega, by omega⟩, ⟨rfl, by omega, by omega⟩, by unfold jR; omega, ⟨rfl, rfl, rfl, i1, i2, by omega, by omega, i5, i6, ?_⟩, by omega⟩, fun h1 => ⟨wn, ⟨rfl, by omega, by omega⟩, fun h2 => ⟨by unfold jR; omega, ⟨rfl, by omega, by omega⟩, by unfold jR; omega, ⟨rfl, rfl, rfl, i1, i2, by omega, by omega, i5.set _ _, fun i h0 h1 => by rw [jset_j (by omega)]; exact i6 i h0 h1, ?_⟩, by omega⟩, fun h2 => ⟨by unfold jR; omega, wn, ⟨rfl, by omega, by omega⟩, fun h3 => ⟨wn, ⟨rfl, by omega, by omega⟩, ⟨rfl, by omega, by omega⟩, by unfold jR; omega, ⟨rfl, rfl, rfl, i1, i2, by omega, by omega, i5, i6, ?_⟩, by omega⟩, fun h3 => ⟨by unfold jR; omega, ⟨rfl, by omega, by omega⟩, by unfold jR; omega, ⟨rfl, rfl, rfl, i1, i2, by omega, by omega, i5.set _ _, fun i h0 h1 => by rw [jset_j (by omega)]; exact i6 i h0 h1, ?_⟩, by omega⟩⟩⟩⟩
            · rw [lq, cif_f (fun z => z.2.1 h1)]
            · rw [jset_s, lq, cif_t ⟨oc, h1, Or.inl h2⟩]
            · rw [lq, cif_f (fun z => z.2.2.elim h2 (fun y => by omega))]
            · rw [jset_s, lq, cif_t ⟨oc, h1, Or.inr (by omega)⟩]
          · rw [← hL, ← hf] at oc
            rw [w_model_1318 W1, w_m1318_t W1, w_m1318_n W1, same]
            exact ⟨fun _ => ⟨wn, ⟨rfl, by omega, by omega⟩, ⟨rfl, by omega, by omega⟩, by unfold jR; omega, ⟨rfl, rfl, rfl, i1, i2, by omega, by omega, i5, i6, by rw [i7, lq, cif_f (fun z => oc z.1)]⟩, by omega⟩, fun q => absurd rfl q⟩
      · rintro v0 v1 v2 v3 N ⟨rfl, rfl, rfl, i0, i1, i2, i3, N1, l, j1, j2, j3, j4, j5, j6⟩
        have rN := (rb N1 j1).tl j3.tl ((rb N1 j1).2.2.2.2.put1 j3 j4)
        refine ⟨fun q => ⟨w_model_t rN.1, ?_⟩, fun q => ⟨⟨rfl, rfl, rfl, i0, i1, by omega, i3, ⟨by omega, p1, fun p h0 h1 => by omega⟩, N1, l, j1, j2, j3, j4, j5, j6⟩, by omega⟩⟩
        have : v3 = L := by omega
        subst this
        rw [j4.1]
        have wd := j6 [] rfl
        rw [List.append_nil] at wd
        exact (hQ N1 j1 j2).2 i0 l wd N j3 j4
      · rintro v0 v1 v2 v3 v4 N ⟨rfl, rfl, rfl, i0, i1, i2, i3, ⟨k1, k2, k3⟩, N1, l, j1, j2, j3, j4, j5, j6⟩
        have rN := (rb N1 j1).tl j3.tl ((rb N1 j1).2.2.2.2.put1 j3 j4)
        have A' : AI T K P (dset D 1 l) := ⟨A.1, A.2.1, A.2.2.1, A.2.2.2.put (by decide) (by decide)⟩
        have W1 := rN.1
        have wn := w_model_t W1
        have gN : ∀ i, 0 ≤ i → i ≤ L → N 2 (X + 232) i = g i := fun i h0 h1 => by rw [j3 _ _ _ (by omega) (by omega)]; exact j2 i h0 h1
        obtain ⟨c1, c2, q, c3, c4, c5, c6⟩ := (gk v3 i1 i2).resolve_left i3
        have lt : v4 < P.1 := by
          rcases Int.lt_or_le v4 P.1 with h | h
          · exact h
          · exact absurd ⟨c5, c6⟩ (k3 q c3 (by omega))
        obtain ⟨b1, b2, b3⟩ := p3 v4 k1 lt
        obtain ⟨d1, -⟩ := rN.2.2.2.1.2 v4 k1 lt
        have step : ¬ (occ L f P v3 v4 ∧ g (v3 + P.2.1 v4) = g v3 - 1) → ∀ p, 0 ≤ p → p < v4 + 1 → ¬ (occ L f P v3 p ∧ g (v3 + P.2.1 p) = g v3 - 1) := fun h p h0 h1 => by
          by_cases hp : p = v4
          · rw [hp]; exact h
          · exact k3 p h0 (by omega)
        refine ⟨wn, r_occurs rN A' ht ⟨i1, by omega⟩ ⟨k1, lt⟩ (fun oc _ => ⟨fun q => absurd q (by decide), fun _ => ?_⟩) (fun oc _ => ⟨fun _ => ⟨by unfold jR; omega, ⟨rfl, rfl, rfl, i0, i1, i2, i3, ⟨by omega, by omega, step (fun z => by rw [hL, hf] at z; exact oc z.1)⟩, N1, l, j1, j2, j3, j4, j5, j6⟩, by omega⟩, fun q => absurd rfl q⟩)⟩
        rw [← hL, ← hf] at oc
        have oc1 := oc.1
        have gb2 := gb (v3 + P.2.1 v4) (by omega) oc.1
        have en := j4.1
        rw [w_model_1311 W1, w_m1311_t W1, w_m1311_n W1, w_model_1318 W1, w_m1318_t W1, w_m1318_n W1, w_model_1317 W1, w_m1317_t W1, w_m1317_n W1, jset_a (show X + 227 ≠ X + 231 by omega), d1, gN v3 i1 (by omega), gN (v3 + P.2.1 v4) (by omega) oc.1, en]
        have f0 := gb 0 (by omega) (by omega)
        refine ⟨wn, wn, ⟨rfl, k1, by omega⟩, by unfold jR; omega, ⟨rfl, by omega, by omega⟩, wn, ⟨rfl, by omega, by omega⟩, by unfold jR; omega, fun e => ⟨wn, wn, ⟨rfl, by omega, by omega⟩, wn, by unfold jR; omega, wn, wn, ⟨rfl, k1, by omega⟩, by unfold jR; omega, ⟨rfl, rfl, rfl, i0, by omega, oc.1, by omega, N1, l ++ [(v4, 0, 0)], j1, j2, j3.trans (fun k a j h1 h2 => ?_), j4.app (by decide), ?_, fun l2 h => ?_⟩, by omega⟩, fun e => ⟨by unfold jR; omega, ⟨rfl, rfl, rfl, i0, i1, i2, i3, ⟨by omega, by omega, step (fun z => e z.2)⟩, N1, l, j1, j2, j3, j4, j5, j6⟩, by omega⟩⟩
        · rw [show jset (jset N 2 (X + 231) _ v4) 3216 (X + 218) 0 _ k a j = _ from if_neg (by omega)]
          exact if_neg (by omega)
        · rw [len_app1]; omega
        · rw [List.append_assoc]
          exact j6 _ ⟨i2, ⟨k1, lt, ⟨oc, e⟩, k3⟩, rfl, h⟩
      · refine ⟨wt, r_isT R A ht (fun _ => ⟨fun _ => ⟨wt, ?_⟩, fun q => absurd (by decide) q⟩)⟩
        rw [w_model_1301 W, w_m1301_t W, w_m1301_n W, z1, w_model_1318 W, w_m1318_t W, w_m1318_n W]
        refine ⟨⟨rfl, ht.1, z3⟩, wt, ⟨rfl, by omega, by omega⟩, by unfold jR; omega, ⟨rfl, rfl, rfl, by omega, by omega, (Aof.refl X 232 M1).set _ _, fun i h0 h1 => ?_⟩⟩
        have : i = L := by omega
        rw [this, jset_s, lst_end]
    have rfin : ∀ (M1 N : JM), RI X M1 T K P D → Aof X 232 M1 N → FrR X M1 N ∧ RI X N T K P D := fun M1 N R o => ⟨fun k a j q => o k a j (by omega), R.keep (R.1.keep fun k a j _ _ hk => o k a j (by omega)) fun k a j q => o k a j (by unfold fpR at q; omega)⟩
    rcases dead with hd | hd
    · refine mk_gen (r := -4) (T' := T) (K' := K) (P' := P) (D' := D) (fun Q hQ => ?_) (fun M1 Q R hQ => rmeas M1 Q R (fun N o _ => ⟨fun _ => hQ N (rfin M1 N R o).1 (rfin M1 N R o).2, fun q => absurd hd q⟩))
      refine rn_X11_cover _ _ M (sg_X11_cover_0 _ _ M ?_)
      rw [wa_1200 W]
      refine ⟨wa_t W, w_shelf_t W, c_lkT C A hX ht (fun _ => ⟨fun q => absurd q (by omega), fun _ => ⟨wa_t W, wa_t W, by rw [wa_1204 W]; exact w_patterns_t W, ?_⟩⟩)⟩
      rw [wa_1204 W, wa_1208 W]
      refine lp_X2_tellCover (fun _ _ _ _ _ _ => False) (fun _ _ _ _ _ => 0) (fun _ _ _ _ _ _ q => q.elim) _ _ _ M ⟨w_patterns_t W, meas _ (fun N o al _ => ?_)⟩
      have cN := cb N o
      have W1 := cN.1
      rw [w_patterns_301 W1, w_pleast_t W1, w_pleast_n W1, al 0 (by omega) (by omega)]
      exact ⟨w_patterns_t W1, ⟨rfl, by decide, by decide⟩, fun q => absurd hd q, fun _ => ⟨Or.inl rfl, fun _ => ⟨fun _ => hQ N A (fun k a j h1 h2 => o k a j (by omega)) (cN.mono (by omega) (by omega)) (H.keep C.2.2.2.2.2.2 fun k a j q => o k a j (by unfold fpH at q; omega)) (o _ _ _ (by omega)) (o _ _ _ (by omega)), fun q => absurd rfl q⟩⟩⟩
    · refine ⟨fun r T' K' P' D' => ∃ l, Wd L f P g l 0 ∧ r = l.length ∧ T' = T ∧ K' = K ∧ P' = P ∧ D' = dset D 1 l, fun Q hQ => ?_, ?_⟩
      · refine rn_X11_cover _ _ M (sg_X11_cover_0 _ _ M ?_)
        rw [wa_1200 W]
        refine ⟨wa_t W, w_shelf_t W, c_lkT C A hX ht (fun _ => ⟨fun q => absurd q (by omega), fun _ => ⟨wa_t W, wa_t W, by rw [wa_1204 W]; exact w_patterns_t W, ?_⟩⟩)⟩
        rw [wa_1204 W, wa_1208 W]
        have f0 := gb 0 (by omega) (by omega)
        refine lp_X2_tellCover (fun v0 v1 v2 v3 v4 N => X + 164 = v0 ∧ X + (4 + 2 * t) = v1 ∧ X + 210 = v2 ∧ 0 ≤ v3 ∧ v3 ≤ L ∧ g v3 = v4 ∧ 0 ≤ v4 ∧ ∃ N1 l, Aof X 166 M N1 ∧ (∀ i, 0 ≤ i → i ≤ L → N1 2 (X + 166) i = g i) ∧ Tof (X + 210) (X + 211) N1 N ∧ TdL N (X + 210) (X + 211) 1 240 l ∧ (l.length : Int) + v4 = g 0 ∧ ∀ l2, Wd L f P g l2 v3 → Wd L f P g (l ++ l2) 0) (fun _ _ _ _ v4 => v4.toNat) ?_ _ _ _ M ⟨w_patterns_t W, meas _ (fun N o al _ => ?_)⟩
        · rintro v0 v1 v2 v3 v4 N ⟨rfl, rfl, rfl, i1, i2, rfl, i4, N1, l, j1, j2, j3, j4, j5, j6⟩
          have cN := (cb N1 j1).tl A (j3.tl (by omega) (by omega)) ((cb N1 j1).2.2.2.2.2.1.put1 j3 j4)
          have A' : AI T K P (dset D 1 l) := ⟨A.1, A.2.1, A.2.2.1, A.2.2.2.put (by decide) (by decide)⟩
          have W1 := cN.1
          have gN : ∀ i, 0 ≤ i → i ≤ L → N 2 (X + 166) i = g i := fun i h0 h1 => by rw [j3 _ _ _ (by omega) (by omega)]; exact j2 i h0 h1
          refine ⟨fun q => ⟨Or.inr rfl, fun _ => ⟨fun q => absurd q (by decide), fun _ => ?_⟩⟩, fun q => ⟨w_patterns_t W1, ?_⟩⟩
          · have hv : v3 = L := by
              by_cases h : v3 = L
              · exact h
              · rcases gk v3 i1 (by omega) with c | c <;> omega
            subst hv
            have wd := j6 [] rfl
            rw [List.append_nil] at wd
            rw [wa_1208 W1, j4.2.2.1.1]
            exact ⟨wa_t W1, w_twords_t W1, hQ _ N T K P (dset D 1 l) ⟨l, wd, rfl, rfl, rfl, rfl, rfl⟩ A' (fun k a j h1 h2 => by rw [j3 k a j (by omega) (by omega)]; exact j1 k a j (by omega)) (cN.mono (by omega) (by omega)) (H.keep C.2.2.2.2.2.2 fun k a j q => by rw [j3 k a j (by unfold fpH at q; omega) (by unfold fpH at q; omega)]; exact j1 k a j (by unfold fpH at q; omega)) (by rw [j3 _ _ _ (by omega) (by omega)]; exact j1 _ _ _ (by omega)) (by rw [j3 _ _ _ (by omega) (by omega)]; exact j1 _ _ _ (by omega))⟩
          · have hv : v3 < L := by
              by_cases h : v3 = L
              · rw [h, gn] at q; omega
              · omega
            obtain ⟨c1, c2, q0, c3, c4, c5, c6⟩ := (gk v3 i1 hv).resolve_left (by omega)
            -- the first on a least way
            refine lp_X2_firstOfLeast (fun w0 w1 w2 w3 N' => N = N' ∧ X + 164 = w0 ∧ X + (4 + 2 * t) = w1 ∧ v3 = w2 ∧ 0 ≤ w3 ∧ w3 ≤ P.1 ∧ ∀ p, 0 ≤ p → p < w3 → ¬ (occ L f P v3 p ∧ g (v3 + P.2.1 p) = g v3 - 1)) (fun _ _ _ w3 => (1000 - w3).toNat) ?_ _ _ _ N ⟨rfl, rfl, rfl, rfl, by omega, p1, fun p h0 h1 => by omega⟩
            rintro w0 w1 w2 w3 N' ⟨rfl, rfl, rfl, rfl, k1, k2, k3⟩
            have lt : w3 < P.1 := by
              rcases Int.lt_or_le w3 P.1 with h | h
              · exact h
              · exact absurd ⟨c5, c6⟩ (k3 q0 c3 (by omega))
            obtain ⟨pf, pe⟩ := c_pf cN A' (q := w3) ⟨k1, lt⟩
            obtain ⟨b1, b2, b3⟩ := p3 w3 k1 lt
            have iff := fit_occ (n := L) (m := 0) (q := w3) (i := v3) (f := f) (P := P) At (by omega) (fun k k0 k1 => (b3 k k0 k1).1) i1
            have tf := c_tf cN A' ht
            rw [← hL, ← hf] at tf
            have step : ¬ (occ L f P v3 w3 ∧ g (v3 + P.2.1 w3) = g v3 - 1) → ∀ p, 0 ≤ p → p < w3 + 1 → ¬ (occ L f P v3 p ∧ g (v3 + P.2.1 p) = g v3 - 1) := fun h p h0 h1 => by
              by_cases hp : p = w3
              · rw [hp]; exact h
              · exact k3 p h0 (by omega)
            rw [cN.2.2.2.2.1.1.1, w_patterns_300 W1, pe]
            refine ⟨w_patterns_t W1, fun h => absurd h (by omega), fun _ => ⟨w_patterns_t W1, ⟨Or.inl (w_pkept_t W1), k1, by rw [w_pkept_n W1]; omega⟩, c_fits tf pf (by omega) (by decide) (fun g1 g2 g3 _ => ⟨fun q => absurd q (by decide), fun _ => ?_⟩) (fun g0 _ => ⟨fun _ => ⟨by unfold jR; omega, ⟨rfl, rfl, rfl, rfl, by omega, by omega, step (fun z => g0 (iff.mpr z.1))⟩, by omega⟩, fun q => absurd rfl q⟩)⟩⟩
            have oc := iff.mp ⟨g1, g2, g3⟩
            have oc1 := oc.1
            have gb2 := gb (v3 + P.2.1 w3) (by omega) oc.1
            have gb3 := gb v3 i1 i2
            rw [w_patterns_300 W1, pe, pf.2.1, w_patterns_301 W1, w_pleast_t W1, w_pleast_n W1, gN v3 i1 i2, gN (v3 + P.2.1 w3) (by omega) oc.1]
            refine ⟨w_patterns_t W1, w_patterns_t W1, ⟨Or.inl (w_pkept_t W1), k1, by rw [w_pkept_n W1]; omega⟩, pf.1, by unfold jR; omega, ⟨rfl, by omega, by omega⟩, w_patterns_t W1, ⟨rfl, by omega, by omega⟩, by unfold jR; omega, fun e => ⟨by unfold jR; omega, ⟨rfl, rfl, rfl, rfl, by omega, by omega, step (fun z => e z.2)⟩, by omega⟩, fun e _ => ⟨fun h => absurd h (by omega), fun _ => ⟨w_twords_t W1, c_add j4 (by omega) (fun M2 o2 t2 _ => ?_)⟩⟩⟩
            have e : g (v3 + P.2.1 w3) = g v3 - 1 := Classical.not_not.mp e
            have o3 := j3.trans o2
            have c2N := (cb N1 j1).tl A (o3.tl (by omega) (by omega)) ((cb N1 j1).2.2.2.2.2.1.put1 o3 t2)
            have A2 : AI T K P (dset D 1 (l ++ [(w3, 0, 0)])) := ⟨A.1, A.2.1, A.2.2.1, A.2.2.2.put (by decide) (by decide)⟩
            obtain ⟨pf2, pe2⟩ := c_pf c2N A2 (q := w3) ⟨k1, lt⟩
            have W2 := c2N.1
            rw [w_patterns_300 W2, pe2, pf2.2.1]
            refine ⟨w_patterns_t W2, ⟨Or.inl (w_pkept_t W2), k1, by rw [w_pkept_n W2]; omega⟩, pf2.1, by unfold jR; omega, by unfold jR; omega, ⟨rfl, rfl, rfl, by omega, oc.1, by omega, by omega, N1, l ++ [(w3, 0, 0)], j1, j2, o3, t2, by rw [len_app1]; omega, fun l2 h => ?_⟩, by omega⟩
            rw [List.append_assoc]
            exact j6 _ ⟨hv, ⟨k1, lt, ⟨oc, e⟩, k3⟩, rfl, h⟩
        · have cN := cb N o
          have W1 := cN.1
          rw [w_patterns_301 W1, w_pleast_t W1, w_pleast_n W1, al 0 (by omega) (by omega)]
          refine ⟨w_patterns_t W1, ⟨rfl, by decide, by decide⟩, fun _ => ⟨w_twords_t W1, c_clear cN.2.2.2.2.2.1.2.1 (fun M2 o2 t2 _ => ?_)⟩, fun q => absurd hd q⟩
          have W2 : WSt X M2 := W1.keep fun k a j _ _ hk => o2 k a j (by omega) (by omega)
          rw [w_patterns_301 W2, w_pleast_t W2, w_pleast_n W2, o2 2 (X + 166) 0 (by omega) (by omega), al 0 (by omega) (by omega)]
          exact ⟨w_patterns_t W2, ⟨rfl, by decide, by decide⟩, ⟨rfl, rfl, rfl, by omega, by omega, rfl, by omega, N, [], o, al, o2, t2, by show ((0 : Nat) : Int) + g 0 = g 0; omega, fun l2 h => h⟩⟩
      · rintro M1 Q r T' K' P' D' ⟨l, wd, rfl, rfl, rfl, rfl, rfl⟩ R hQ
        refine rmeas M1 Q R (fun N o _ => ⟨fun q => absurd q hd, fun _ l' wd' N2 r2 rd2 => ?_⟩)
        have e := Wd_uniq l' l 0 wd' wd
        subst e
        obtain ⟨f1, r1⟩ := rfin M1 N R o
        exact hQ N2 (f1.trans (FrR.tl r2.tl)) (r1.tl r2.tl (r1.2.2.2.2.put1 r2 rd2))
  · refine mk_no (r := -2) C H A ⟨hn0, hn⟩ (fun Q hQ => ?_) (fun M1 Q R hQ => ?_)
    · have W := C.1
      refine rn_X11_cover _ _ M (sg_X11_cover_0 _ _ M ?_)
      repeat' first | rw [wa_1200 W] | (refine c_lkF C A hX ht ?_) | apply And.intro | intro _ | exact wt | exact wa_t W | exact w_shelf_t W | assumption | exact Or.inl rfl | exact Or.inr rfl | rfl | omega | (unfold jR; omega)
    · have W := R.1
      have wt := w_model_t W
      refine lp_X12_cover (fun _ _ _ _ _ => False) (fun _ _ _ _ => 0) (fun _ _ _ _ _ _ => False) (fun _ _ _ _ _ => 0) (fun _ _ _ _ _ => False) (fun _ _ _ _ => 0) (fun _ _ _ _ _ _ => False) (fun _ _ _ _ _ => 0) (fun _ _ _ _ _ g => g.elim) (fun _ _ _ _ _ _ g => g.elim) (fun _ _ _ _ _ g => g.elim) (fun _ _ _ _ _ _ g => g.elim) _ _ M1 ?_
      repeat' first | rw [wa_1200 W] | (refine r_isF R A ht ?_) | apply And.intro | intro _ | exact wt | exact wa_t W | exact w_shelf_t W | assumption | exact Or.inl rfl | exact Or.inr rfl | rfl | omega | (unfold jR; omega)
end COVER
