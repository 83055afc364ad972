/-! the component's larger changes of a text; steps: point, copy, append, reversed, insert, remove -/
section CHG
variable {G : JG} {X : Int}
section CHG1
variable {Q : Int → JM → Prop} {M : JM} {n t : Int} {T : ATx} {K : AKp} {P : ATx} {D : ADt}
/-- text t becomes k, f where only its own cells were written -/
theorem c_becA {M' : JM} {k : Int} {f : Int → Int} (C : CB X n M T K P D) (A : AI T K P D) (ht : 0 ≤ t ∧ t < T.1) (co : Cof X t M M') (hk : AU k f) (e1 : M' 2901 (X + (4 + 2 * t)) 0 = k) (e2 : ∀ i, 0 ≤ i → i < k → M' 2 (X + (5 + 2 * t)) i = f i) : CB X n M' (atx T t k f) K P D ∧ AI (atx T t k f) K P D := ⟨co.CB C A ht ⟨hk.1, hk.2.1⟩ e1 e2, A.1.atx hk, A.2.1, A.2.2⟩
theorem c_ppA {s d f e : Int} {g : Int → Int} (C : CB X n M T K P D) (A : AI T K P D) (ht : 0 ≤ t ∧ t < T.1) (S : Tx M s d) (hg : ∀ i, 0 ≤ i → i < M 2901 s 0 → M 2 (M 1000 s 0) i = g i) (hr : ∀ i, f ≤ i → i < e → 0 ≤ g i ∧ g i ≤ 65535) (h0 : 0 ≤ f) (h1 : f ≤ e) (h2 : e ≤ M 2901 s 0) (h3 : T.2.1 t + (e - f) ≤ 240) (h : ∀ M', Cof X t M M' → CB X n M' (atx T t (T.2.1 t + (e - f)) (fun i => if i < T.2.1 t then T.2.2 t i else g (f + (i - T.2.1 t)))) K P D → AI (atx T t (T.2.1 t + (e - f)) (fun i => if i < T.2.1 t then T.2.2 t i else g (f + (i - T.2.1 t)))) K P D → Q 0 M') : Runs G 90 0 0 [(1, X + (4 + 2 * t)), (1, s), (0, f), (0, e)] M Q := by
  obtain ⟨TT, e1, e2, e3, e4, e5, e6, e7, e8⟩ := c_txt C A ht
  obtain ⟨S1, S2, S3, S4, S5, S6⟩ := id S
  obtain ⟨u1, u2, u3⟩ := A.1.2.2 t ht.1 ht.2
  refine c_putPart TT S (by omega) (fun _ _ _ _ => ?_) (fun q => absurd ⟨h0, h1, h2, by omega⟩ q)
  have co : Cof X t M (mpart M (X + (4 + 2 * t)) s f e) := fun q a j q1 q2 => by
    unfold mpart
    rw [e2]
    rw [show jset (jcpy M (M 1000 s 0) f (X + (5 + 2 * t)) (M 2901 (X + (4 + 2 * t)) 0) (e - f)) 2901 (X + (4 + 2 * t)) 0 (M 2901 (X + (4 + 2 * t)) 0 + (e - f)) q a j = _ from if_neg (by omega)]
    exact if_neg (by omega)
  obtain ⟨c1, c2⟩ := c_becA C A ht co (k := T.2.1 t + (e - f)) (f := fun i => if i < T.2.1 t then T.2.2 t i else g (f + (i - T.2.1 t))) ⟨by omega, h3, fun i i0 i1 => by
    dsimp only
    by_cases hi : i < T.2.1 t
    · rw [if_pos hi]; exact u3 i i0 hi
    · rw [if_neg hi]; exact hr _ (by omega) (by omega)⟩ (by unfold mpart; rw [jset_s, e1]) (fun i i0 i1 => by
    unfold mpart
    rw [e2, e1, jset_k (by decide)]
    by_cases hi : i < T.2.1 t
    · rw [if_pos hi, jcpy_out (by omega)]; exact e3 i i0 hi
    · rw [if_neg hi, jcpy_in (by omega) (by omega)]; exact hg _ (by omega) (by omega))
  exact h _ co c1 c2
theorem c_paA {i u : Int} (C : CB X n M T K P D) (A : AI T K P D) (ht : 0 ≤ t ∧ t < T.1) (h0 : 0 ≤ i) (h1 : i ≤ T.2.1 t) (h2 : T.2.1 t < 240) (hu : 0 ≤ u ∧ u ≤ 65535) (h : ∀ M', Cof X t M M' → CB X n M' (atx T t (T.2.1 t + 1) (fun j => if j < i then T.2.2 t j else if j = i then u else T.2.2 t (j - 1))) K P D → AI (atx T t (T.2.1 t + 1) (fun j => if j < i then T.2.2 t j else if j = i then u else T.2.2 t (j - 1))) K P D → Q 0 M') : Runs G 91 0 0 [(1, X + (4 + 2 * t)), (0, i), (0, u)] M Q := by
  obtain ⟨TT, e1, e2, e3, e4, e5, e6, e7, e8⟩ := c_txt C A ht
  obtain ⟨u1, u2, u3⟩ := A.1.2.2 t ht.1 ht.2
  refine c_putAhead TT h0 (by omega) (by omega) ?_
  rw [e2, e1]
  have co : Cof X t M (jset (jset (jcpy M (X + (5 + 2 * t)) i (X + (5 + 2 * t)) (i + 1) (T.2.1 t - i)) 2 (X + (5 + 2 * t)) i u) 2901 (X + (4 + 2 * t)) 0 (T.2.1 t + 1)) := fun q a j q1 q2 => by
    rw [show jset (jset (jcpy M (X + (5 + 2 * t)) i (X + (5 + 2 * t)) (i + 1) (T.2.1 t - i)) 2 (X + (5 + 2 * t)) i u) 2901 (X + (4 + 2 * t)) 0 (T.2.1 t + 1) q a j = _ from if_neg (by omega), show jset (jcpy M (X + (5 + 2 * t)) i (X + (5 + 2 * t)) (i + 1) (T.2.1 t - i)) 2 (X + (5 + 2 * t)) i u q a j = _ from if_neg (by omega)]
    exact if_neg (by omega)
  obtain ⟨c1, c2⟩ := c_becA C A ht co (k := T.2.1 t + 1) (f := fun j => if j < i then T.2.2 t j else if j = i then u else T.2.2 t (j - 1)) ⟨by omega, by omega, fun j j0 j1 => by
    dsimp only
    by_cases hj : j < i
    · rw [if_pos hj]; exact u3 j j0 (by omega)
    · rw [if_neg hj]
      by_cases hj2 : j = i
      · rw [if_pos hj2]; exact hu
      · rw [if_neg hj2]; exact u3 _ (by omega) (by omega)⟩ jset_s (fun j j0 j1 => by
    rw [jset_k (by decide)]
    by_cases hj : j < i
    · rw [if_pos hj, jset_j (by omega), jcpy_out (by omega)]; exact e3 j j0 (by omega)
    · rw [if_neg hj]
      by_cases hj2 : j = i
      · rw [if_pos hj2, hj2, jset_s]
      · rw [if_neg hj2, jset_j hj2, jcpy_in (by omega) (by omega), show i + (j - (i + 1)) = j - 1 by omega]
        exact e3 _ (by omega) (by omega))
  exact h _ co c1 c2
theorem c_drA {i m : Int} (C : CB X n M T K P D) (A : AI T K P D) (ht : 0 ≤ t ∧ t < T.1) (h0 : 0 ≤ i) (h1 : 0 ≤ m) (h2 : i + m ≤ T.2.1 t) (h : ∀ M', Cof X t M M' → CB X n M' (atx T t (T.2.1 t - m) (fun j => if j < i then T.2.2 t j else T.2.2 t (j + m))) K P D → AI (atx T t (T.2.1 t - m) (fun j => if j < i then T.2.2 t j else T.2.2 t (j + m))) K P D → Q 0 M') : Runs G 92 0 0 [(1, X + (4 + 2 * t)), (0, i), (0, m)] M Q := by
  obtain ⟨TT, e1, e2, e3, e4, e5, e6, e7, e8⟩ := c_txt C A ht
  obtain ⟨u1, u2, u3⟩ := A.1.2.2 t ht.1 ht.2
  refine c_drop TT h0 h1 (by omega) ?_
  rw [e2, e1]
  have co : Cof X t M (jset (jcpy M (X + (5 + 2 * t)) (i + m) (X + (5 + 2 * t)) i (T.2.1 t - i - m)) 2901 (X + (4 + 2 * t)) 0 (T.2.1 t - m)) := fun q a j q1 q2 => by
    rw [show jset (jcpy M (X + (5 + 2 * t)) (i + m) (X + (5 + 2 * t)) i (T.2.1 t - i - m)) 2901 (X + (4 + 2 * t)) 0 (T.2.1 t - m) q a j = _ from if_neg (by omega)]
    exact if_neg (by omega)
  obtain ⟨c1, c2⟩ := c_becA C A ht co (k := T.2.1 t - m) (f := fun j => if j < i then T.2.2 t j else T.2.2 t (j + m)) ⟨by omega, by omega, fun j j0 j1 => by
    dsimp only
    by_cases hj : j < i
    · rw [if_pos hj]; exact u3 j j0 (by omega)
    · rw [if_neg hj]; exact u3 _ (by omega) (by omega)⟩ jset_s (fun j j0 j1 => by
    rw [jset_k (by decide)]
    by_cases hj : j < i
    · rw [if_pos hj, jcpy_out (by omega)]; exact e3 j j0 (by omega)
    · rw [if_neg hj, jcpy_in (by omega) (by omega), show i + m + (j - i) = j + m by omega]
      exact e3 _ (by omega) (by omega))
  exact h _ co c1 c2
/-- makePart: a new text out of a part of another Text -/
theorem c_mkp {s d f e : Int} {g : Int → Int} (C : CB X n M T K P D) (H : CH X M T) (A : AI T K P D) (hX : 0 < X) (hn : n + 1 ≤ 1000000) (hm : T.1 < 40) (S : Tx M s d) (hs1 : s < X + 84 ∨ X + 144 ≤ s) (hs2 : s ≠ X + (4 + 2 * T.1)) (hs4 : s ≠ X + 1) (hs3 : M 1000 s 0 < X + 84 ∨ X + 144 ≤ M 1000 s 0) (hg : ∀ i, 0 ≤ i → i < M 2901 s 0 → M 2 (M 1000 s 0) i = g i) (hr : ∀ i, f ≤ i → i < e → 0 ≤ g i ∧ g i ≤ 65535) (h0 : 0 ≤ f) (h1 : f ≤ e) (h2 : e ≤ M 2901 s 0) (h3 : e - f ≤ 240) (h : ∀ M', FrC X M M' → CB X (n + 1) M' (atx (aopen T) T.1 (e - f) (fun i => g (f + i))) (kpush K T.1 1 0 (T.2.2 T.1)) P D → AI (atx (aopen T) T.1 (e - f) (fun i => g (f + i))) (kpush K T.1 1 0 (T.2.2 T.1)) P D → Stale X M' → M' 1212 X 0 = M 1212 X 0 → M' 1213 X 0 = M 1213 X 0 → Q T.1 M') : Runs G 166 0 0 [(1, X), (1, s), (0, f), (0, e)] M Q := by
  have W := C.1
  have a1 := A.1.1
  refine rn_X11_makePart _ _ _ _ M (sg_X11_makePart_0 _ _ _ _ M ?_)
  rw [wa_1200 W]
  refine ⟨wa_t W, w_shelf_t W, c_openA C H A hX hn hm (fun M1 o f1 c1 A1 st1 p1 p2 _ => ⟨fun q => absurd q (by omega), fun _ => ?_⟩)⟩
  have ht : 0 ≤ T.1 ∧ T.1 < (aopen T).1 := ⟨a1, by show T.1 < T.1 + 1; omega⟩
  have z : (aopen T).2.1 T.1 = 0 := if_pos rfl
  have r1 : M1 1000 s 0 = M 1000 s 0 := o _ _ _ (by omega) (by omega) (by omega)
  have r2 : M1 2901 s 0 = M 2901 s 0 := o _ _ _ (by omega) (by omega) (by omega)
  have S1 : Tx M1 s d := by
    obtain ⟨q1, q2, q3, q4, q5, q6⟩ := S
    refine ⟨by rw [o _ _ _ (by omega) (by omega) (by omega)]; exact q1, ?_, ?_, by rw [r2]; exact q4, by rw [r2]; exact q5, q6⟩
    · rw [r1, o _ _ _ (by omega) (by omega) (by omega)]; exact q2
    · rw [r1, o _ _ _ (by omega) (by omega) (by omega)]; exact q3
  obtain ⟨-, -, -, -, w1, -⟩ := c_txt c1 A1 ht
  refine ⟨w1, c_ppA (g := g) c1 A1 ht S1 (fun i i0 i1 => by rw [r1, o _ _ _ (by omega) (by omega) (by omega)]; exact hg i i0 (by omega)) hr h0 h1 (by omega) (by rw [z]; omega) (fun M2 co c2 A2 _ => ?_)⟩
  have sm : Same (atx (aopen T) T.1 ((aopen T).2.1 T.1 + (e - f)) (fun i => if i < (aopen T).2.1 T.1 then (aopen T).2.2 T.1 i else g (f + (i - (aopen T).2.1 T.1)))) (atx (aopen T) T.1 (e - f) (fun i => g (f + i))) := by
    rw [z, Int.zero_add]
    exact same_atx2 (fun i i0 i1 => by rw [if_neg (by omega), Int.sub_zero])
  have c3 := sm.CB c2
  have A3 := sm.AI A2
  have W2 := c3.1
  have em := c3.2.1.1
  rw [wa_1200 W2]
  have b2 := A3.1.2.1
  refine ⟨wa_t W2, w_shelf_t W2, c_newest W2 (by rw [em]; exact ⟨by show 0 ≤ T.1 + 1; omega, b2⟩) (fun _ => ?_)⟩
  rw [em, show (atx (aopen T) T.1 (e - f) (fun i => g (f + i))).1 - 1 = T.1 by show T.1 + 1 - 1 = T.1; omega]
  exact h M2 (f1.trans (co.FrC a1 hm)) c3 A3 (co.stale c1.2.2.2.2.2.2 a1 hm st1) ((co _ _ _ (by omega) (by omega)).trans p1) ((co _ _ _ (by omega) (by omega)).trans p2)
end CHG1
theorem st_copy (t f e : Int) : JSt (IV X) 3072 G X 111 181 [(0, t), (0, f), (0, e)] := mk_stp fun n M T K P D C H A hX hn0 hn => by
  by_cases hv : 0 ≤ t ∧ t < T.1 ∧ 0 ≤ f ∧ f ≤ e ∧ e ≤ T.2.1 t
  · have ht : 0 ≤ t ∧ t < T.1 := ⟨hv.1, hv.2.1⟩
    obtain ⟨u1, u2, u3⟩ := A.1.2.2 t ht.1 ht.2
    by_cases hm : T.1 < 40
    · refine mk_yes (r := T.1) (T' := atx (aopen T) T.1 (e - f) (fun i => T.2.2 t (f + i))) (K' := kpush K T.1 1 0 (T.2.2 T.1)) ⟨hn0, hn⟩ (fun Q hQ => ?_) (fun M1 Q R hQ => ?_)
      · have W := C.1
        obtain ⟨TT, e1, e2, e3, e4, e5, e6, e7, e8⟩ := c_txt C A ht
        refine rn_X11_copy _ _ _ _ M (sg_X11_copy_0 _ _ _ _ M ?_)
        rw [wa_1200 W]
        exact ⟨wa_t W, w_shelf_t W, c_lkT C A hX ht (fun _ => ⟨fun q => absurd q (by omega), fun _ => ⟨e4, c_hasPart TT (fun _ _ _ _ => ⟨fun _ => ⟨wa_t W, c_mkp (g := T.2.2 t) C H A hX (by omega) hm TT (by omega) (by omega) (by omega) (by rw [e2]; omega) (fun i i0 i1 => by rw [e2]; exact e3 i i0 (by omega)) (fun i i0 i1 => u3 i (by omega) (by omega)) hv.2.2.1 hv.2.2.2.1 (by omega) (by omega) (fun M2 f2 c2 A2 s2 p1 p2 _ => hQ M2 A2 f2 c2 s2 p1 p2)⟩, fun q => absurd (by decide) q⟩) (fun q => absurd ⟨hv.2.2.1, hv.2.2.2.1, by omega⟩ q)⟩⟩)⟩
      · have W := R.1
        have wt := w_model_t W
        have A1 := A.1.1
        refine lp_X12_copy (fun v0 v1 v3 v4 v5 N => X + 218 = v0 ∧ t = v1 ∧ e = v3 ∧ T.1 = v4 ∧ f ≤ v5 ∧ v5 ≤ e ∧ FrR X M1 N ∧ RI X N (atx (aopen T) T.1 (v5 - f) (fun i => T.2.2 t (f + i))) (kpush K T.1 1 0 (T.2.2 T.1)) P D ∧ AI (atx (aopen T) T.1 (v5 - f) (fun i => T.2.2 t (f + i))) (kpush K T.1 1 0 (T.2.2 T.1)) P D) (fun _ _ _ _ v5 => (1000 - v5).toNat) ?_ _ _ _ _ M1 ?_
        · rintro v0 v1 v3 v4 v5 N ⟨rfl, rfl, rfl, rfl, i1, i2, i3, i4, i5⟩
          refine ⟨fun q => ?_, fun q => ⟨w_model_t i4.1, ?_⟩⟩
          · have : v5 = e := by omega
            subst this
            exact hQ N i3 i4
          · have hne : t ≠ T.1 := by omega
            refine r_un i4 i5 (t := t) ⟨ht.1, by show t < T.1 + 1; omega⟩ (by omega) (by rw [atx_on hne]; show v5 < if t = T.1 then 0 else T.2.1 t; rw [if_neg hne]; omega) (fun _ => ⟨w_model_t i4.1, ?_⟩)
            rw [atx_of hne]
            refine r_putF i4 i5 ⟨A1, by show T.1 < T.1 + 1; omega⟩ (by omega) (by show T.2.2 t v5 = T.2.2 t (f + (v5 - f)); rw [show f + (v5 - f) = v5 by omega]) (u3 _ (by omega) (by omega)) (fun M2 x2 r2 a2 _ => ⟨by unfold jR; omega, ⟨rfl, rfl, rfl, rfl, by omega, by omega, i3.trans x2.FrR, ?_, ?_⟩, by omega⟩)
            · rw [show v5 + 1 - f = v5 - f + 1 by omega]; exact r2
            · rw [show v5 + 1 - f = v5 - f + 1 by omega]; exact a2
        · have em := R.2.1.1
          refine ⟨wt, r_isPart R.1 R.2.1 A.1 (fun _ _ _ _ _ _ => ⟨fun _ => ⟨wt, fun _ => ⟨wt, r_newText R A hm (fun M2 f2 r2 a2 _ => ?_)⟩, fun q => absurd (by omega) q⟩, fun q => absurd (by decide) q⟩) (fun q => absurd hv q)⟩
          have sm : Same (aopen T) (atx (aopen T) T.1 (f - f) (fun i => T.2.2 t (f + i))) := same_atx (by show f - f = if T.1 = T.1 then 0 else _; rw [if_pos rfl]; omega) (fun i i0 i1 => by omega)
          exact ⟨rfl, rfl, rfl, rfl, by omega, by omega, f2, sm.RI r2, sm.AI a2⟩
    · have a2 := A.1.2.1
      refine mk_no (r := -3) C H A ⟨hn0, hn⟩ (fun Q hQ => ?_) (fun M1 Q R hQ => ?_)
      · have W := C.1
        obtain ⟨TT, e1, e2, e3, e4, e5, e6, e7, e8⟩ := c_txt C A ht
        refine rn_X11_copy _ _ _ _ M (sg_X11_copy_0 _ _ _ _ M ?_)
        rw [wa_1200 W]
        refine ⟨wa_t W, w_shelf_t W, c_lkT C A hX ht (fun _ => ⟨fun q => absurd q (by omega), fun _ => ⟨e4, c_hasPart TT (fun _ _ _ _ => ⟨fun _ => ⟨wa_t W, ?_⟩, fun q => absurd (by decide) q⟩) (fun q => absurd ⟨hv.2.2.1, hv.2.2.2.1, by omega⟩ q)⟩⟩)⟩
        refine rn_X11_makePart _ _ _ _ M (sg_X11_makePart_0 _ _ _ _ M ?_)
        rw [wa_1200 W]
        exact ⟨wa_t W, w_shelf_t W, c_open W (C.sh A) (fun q => absurd q (by rw [C.2.1.1]; omega)) (fun _ _ => ⟨fun _ _ => hQ, fun q => absurd (by omega) q⟩)⟩
      · have W := R.1
        have wt := w_model_t W
        refine lp_X12_copy (fun _ _ _ _ _ _ => False) (fun _ _ _ _ _ => 0) (fun _ _ _ _ _ _ q => q.elim) _ _ _ _ M1 ?_
        have em := R.2.1.1
        exact ⟨wt, r_isPart R.1 R.2.1 A.1 (fun _ _ _ _ _ _ => ⟨fun _ => ⟨wt, fun q => absurd (by omega) q, fun _ => hQ⟩, fun q => absurd (by decide) q⟩) (fun q => absurd hv q)⟩
  · refine mk_no (r := -2) C H A ⟨hn0, hn⟩ (fun Q hQ => ?_) (fun M1 Q R hQ => ?_)
    · have W := C.1
      refine rn_X11_copy _ _ _ _ M (sg_X11_copy_0 _ _ _ _ M ?_)
      rw [wa_1200 W]
      by_cases ht : 0 ≤ t ∧ t < T.1
      · obtain ⟨TT, e1, e2, e3, e4, e5, e6, e7, e8⟩ := c_txt C A ht
        exact ⟨wa_t W, w_shelf_t W, c_lkT C A hX ht (fun _ => ⟨fun _ => hQ, fun _ => ⟨e4, c_hasPart TT (fun _ _ _ => absurd ⟨ht.1, ht.2, by omega, by omega, by omega⟩ hv) (fun _ _ => ⟨fun q => absurd rfl q, fun _ => hQ⟩)⟩⟩)⟩
      · exact ⟨wa_t W, w_shelf_t W, c_lkF C A hX ht (fun _ => ⟨fun _ => hQ, fun q => absurd (by omega) q⟩)⟩
    · have W := R.1
      have wt := w_model_t W
      refine lp_X12_copy (fun _ _ _ _ _ _ => False) (fun _ _ _ _ _ => 0) (fun _ _ _ _ _ _ q => q.elim) _ _ _ _ M1 ?_
      exact ⟨wt, r_isPart R.1 R.2.1 A.1 (fun q1 q2 q3 q4 q5 => absurd ⟨q1, q2, q3, q4, q5⟩ hv) (fun _ _ => ⟨fun q => absurd rfl q, fun _ => hQ⟩)⟩
end CHG
