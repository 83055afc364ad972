/-! one text becomes another -/
noncomputable def atx (T : ATx) (t n : Int) (f : Int → Int) : ATx := (T.1, fun s => if s = t then n else T.2.1 s, fun s => if s = t then f else T.2.2 s)
theorem atx_1 {T : ATx} {t n : Int} {f : Int → Int} : (atx T t n f).1 = T.1 := rfl
theorem atx_n {T : ATx} {t n : Int} {f : Int → Int} : (atx T t n f).2.1 t = n := if_pos rfl
theorem atx_f {T : ATx} {t n : Int} {f : Int → Int} : (atx T t n f).2.2 t = f := if_pos rfl
theorem atx_on {T : ATx} {t n s : Int} {f : Int → Int} (h : s ≠ t) : (atx T t n f).2.1 s = T.2.1 s := if_neg h
theorem atx_of {T : ATx} {t n s : Int} {f : Int → Int} (h : s ≠ t) : (atx T t n f).2.2 s = T.2.2 s := if_neg h
theorem AT.atx {T : ATx} {t n : Int} {f : Int → Int} (A : AT T) (h : AU n f) : AT (atx T t n f) := by
  refine ⟨A.1, A.2.1, fun s s0 s1 => ?_⟩
  by_cases hs : s = t
  · subst hs; rw [atx_n, atx_f]; exact h
  · rw [atx_on hs, atx_of hs]; exact A.2.2 s s0 s1
/-- the same texts, told otherwise -/
def Same (T T' : ATx) : Prop := T'.1 = T.1 ∧ ∀ t, 0 ≤ t → t < T.1 → T'.2.1 t = T.2.1 t ∧ ∀ i, 0 ≤ i → i < T.2.1 t → T'.2.2 t i = T.2.2 t i
theorem same_atx {T : ATx} {t n : Int} {f : Int → Int} (hn : n = T.2.1 t) (hf : ∀ i, 0 ≤ i → i < n → f i = T.2.2 t i) : Same T (atx T t n f) := ⟨rfl, fun s s0 s1 => by
  by_cases hs : s = t
  · subst hs; rw [atx_n, atx_f]; exact ⟨hn, fun i i0 i1 => hf i i0 (by omega)⟩
  · rw [atx_on hs, atx_of hs]; exact ⟨rfl, fun _ _ _ => rfl⟩⟩
theorem same_atx2 {T : ATx} {t n : Int} {f g : Int → Int} (hf : ∀ i, 0 ≤ i → i < n → g i = f i) : Same (atx T t n f) (atx T t n g) := ⟨rfl, fun s s0 s1 => by
  by_cases hs : s = t
  · subst hs; rw [atx_n, atx_n, atx_f, atx_f]; exact ⟨rfl, fun i i0 i1 => hf i i0 i1⟩
  · rw [atx_on hs, atx_of hs, atx_on hs, atx_of hs]; exact ⟨rfl, fun _ _ _ => rfl⟩⟩
section PUT
variable {G : JG} {Q : Int → JM → Prop} {M M' : JM} {X n t : Int} {T T' : ATx} {K : AKp} {P : ATx} {D : ADt}
theorem Same.AT (h : Same T T') (A : AT T) : AT T' := ⟨by rw [h.1]; exact A.1, by rw [h.1]; exact A.2.1, fun t t0 t1 => by
  rw [h.1] at t1
  obtain ⟨e1, e2⟩ := h.2 t t0 t1
  obtain ⟨u1, u2, u3⟩ := A.2.2 t t0 t1
  refine ⟨by omega, by omega, fun i i0 i1 => ?_⟩
  rw [e2 i i0 (by omega)]; exact u3 i i0 (by omega)⟩
theorem Same.CT (h : Same T T') (C : CT X M T) : CT X M T' := ⟨by rw [h.1]; exact C.1, fun t t0 t1 => by
  rw [h.1] at t1
  obtain ⟨e1, e2⟩ := h.2 t t0 t1
  obtain ⟨u1, u2⟩ := C.2 t t0 t1
  refine ⟨by rw [e1]; exact u1, fun i i0 i1 => ?_⟩
  rw [e2 i i0 (by omega)]; exact u2 i i0 (by omega)⟩
theorem Same.RT (h : Same T T') (C : RT X M T) : RT X M T' := ⟨by rw [h.1]; exact C.1, fun t t0 t1 => by
  rw [h.1] at t1
  obtain ⟨e1, e2⟩ := h.2 t t0 t1
  obtain ⟨u1, u2⟩ := C.2 t t0 t1
  refine ⟨by rw [e1]; exact u1, fun i i0 i1 => ?_⟩
  rw [e2 i i0 (by omega)]; exact u2 i i0 (by omega)⟩
theorem Same.CB (h : Same T T') (C : CB X n M T K P D) : CB X n M T' K P D := ⟨C.1, h.CT C.2.1, C.2.2⟩
theorem Same.RI (h : Same T T') (C : RI X M T K P D) : RI X M T' K P D := ⟨C.1, h.RT C.2.1, C.2.2⟩
theorem Same.AI (h : Same T T') (A : AI T K P D) : AI T' K P D := ⟨h.AT A.1, by rw [h.1]; exact A.2.1, A.2.2⟩
/-- only text t of the component has changed -/
def Cof (X t : Int) (M M' : JM) : Prop := ∀ k a j, ¬ (k = 2901 ∧ a = X + (4 + 2 * t)) → ¬ (k = 2 ∧ a = X + (5 + 2 * t)) → M' k a j = M k a j
theorem Cof.refl (X t : Int) (M : JM) : Cof X t M M := fun _ _ _ _ _ => rfl
theorem Cof.trans {M'' : JM} (h : Cof X t M M') (g : Cof X t M' M'') : Cof X t M M'' := fun k a j h1 h2 => (g k a j h1 h2).trans (h k a j h1 h2)
theorem Cof.FrC (h : Cof X t M M') (h0 : 0 ≤ t) (h1 : t < 40) : FrC X M M' := fun k a j q1 q2 => h k a j (by omega) (by omega)
theorem Cof.stale (h : Cof X t M M') (B : CBig X M) (h0 : 0 ≤ t) (h1 : t < 40) (S : Stale X M) : Stale X M' := S.keep B fun k a j q => h k a j (by unfold fpH at q; omega) (by unfold fpH at q; omega)
theorem Cof.CB {k : Int} {f : Int → Int} (h : Cof X t M M') (C : CB X n M T K P D) (A : AI T K P D) (ht : 0 ≤ t ∧ t < T.1) (hk : 0 ≤ k ∧ k ≤ 240) (e1 : M' 2901 (X + (4 + 2 * t)) 0 = k) (e2 : ∀ i, 0 ≤ i → i < k → M' 2 (X + (5 + 2 * t)) i = f i) : CB X n M' (atx T t k f) K P D := by
  have a2 := A.1.2.1
  refine ⟨C.1.keepC fun k a j q => h k a j (by unfold fpS at q; omega) (by unfold fpS at q; omega), ⟨?_, fun s s0 s1 => ?_⟩, ⟨fun s s0 s1 => ?_, fun s s0 s1 => ?_⟩, C.2.2.2.1.keep fun k a j q => h k a j (by unfold fpK at q; omega) (by unfold fpK at q; omega), C.2.2.2.2.1.keep A.2.2.1 fun k a j q => h k a j (by unfold fpP at q; omega) (by unfold fpP at q; omega), C.2.2.2.2.2.1.keep fun k a j q => h k a j (by unfold fpS fpD at q; omega) (by unfold fpS fpD at q; omega), C.2.2.2.2.2.2.keep fun k a j q => h k a j (by unfold fpS at q; omega) (by unfold fpS at q; omega)⟩
  · rw [h _ _ _ (by omega) (by omega)]; exact C.2.1.1
  · have s1 : s < T.1 := s1
    by_cases hs : s = t
    · subst hs; rw [atx_n, atx_f]; exact ⟨e1, e2⟩
    · rw [atx_on hs, atx_of hs]
      obtain ⟨u1, u2⟩ := C.2.1.2 s s0 s1
      exact ⟨by rw [h _ _ _ (by omega) (by omega)]; exact u1, fun i i0 i1 => by rw [h _ _ _ (by omega) (by omega)]; exact u2 i i0 i1⟩
  · by_cases hs : s = t
    · rw [hs, e1]; exact hk
    · rw [h _ _ _ (by omega) (by omega)]; exact C.2.2.1.1 s s0 s1
  · rw [h _ _ _ (by omega) (by omega)]; exact C.2.2.1.2 s s0 s1
theorem atx_atx {k l : Int} {f g : Int → Int} : atx (atx T t k f) t l g = atx T t l g := by
  refine Prod.ext rfl (Prod.ext (funext fun s => ?_) (funext fun s => ?_))
  · by_cases hs : s = t
    · subst hs; rw [atx_n, atx_n]
    · rw [atx_on hs, atx_on hs, atx_on hs]
  · by_cases hs : s = t
    · subst hs; rw [atx_f, atx_f]
    · rw [atx_of hs, atx_of hs, atx_of hs]
/-- put, where text t is on its way to f -/
theorem c_putF {k u : Int} {f : Int → Int} (C : CB X n M (atx T t k f) K P D) (A : AI (atx T t k f) K P D) (ht : 0 ≤ t ∧ t < T.1) (hk : 0 ≤ k ∧ k < 240) (hu : u = f k) (hr : 0 ≤ f k ∧ f k ≤ 65535) (h : ∀ M', Cof X t M M' → CB X n M' (atx T t (k + 1) f) K P D → AI (atx T t (k + 1) f) K P D → Q 0 M') : Runs G 88 0 0 [(1, X + (4 + 2 * t)), (0, u)] M Q := by
  obtain ⟨TT, e1, e2, e3, e4, e5, e6, e7, e8⟩ := c_txt C A (t := t) ht
  rw [atx_n] at e1 e3 e7 e8
  rw [atx_f] at e3
  have co : Cof X t M (mput M (X + (4 + 2 * t)) u) := fun q a j h1 h2 => by
    unfold mput
    rw [e2]
    rw [show jset (jset M 2 (X + (5 + 2 * t)) (M 2901 (X + (4 + 2 * t)) 0) u) 2901 (X + (4 + 2 * t)) 0 (M 2901 (X + (4 + 2 * t)) 0 + 1) q a j = _ from if_neg (by omega)]
    exact if_neg (by omega)
  refine c_put TT (fun g => h _ co ?_ ⟨?_, A.2.1, A.2.2⟩) (fun g => absurd g (by omega))
  · have := co.CB C A ht (k := k + 1) (f := f) (by omega) (by unfold mput; rw [jset_s, e1]) (fun i i0 i1 => by
      unfold mput
      rw [e2, e1, jset_k (by decide)]
      by_cases hi : i = k
      · subst hi; rw [jset_s]; exact hu
      · rw [jset_j hi]; exact e3 i i0 (by omega))
    rw [atx_atx] at this
    exact this
  · have A2 := A.1.2.2 t ht.1 ht.2
    rw [atx_n, atx_f] at A2
    have := A.1.atx (t := t) (n := k + 1) (f := f) ⟨by omega, by omega, fun i i0 i1 => by
      by_cases hi : i = k
      · subst hi; exact hr
      · exact A2.2.2 i i0 (by omega)⟩
    rw [atx_atx] at this
    exact this
/-- only text t of the reference has changed -/
theorem RT.atx {k : Int} {f : Int → Int} (R : RT X M T) (A : AT T) (ht : 0 ≤ t ∧ t < T.1) (h : Rtx X M M') (e1 : M' 2 (X + 219) t = k) (e2 : ∀ s, s ≠ t → M' 2 (X + 219) s = M 2 (X + 219) s) (e3 : ∀ i, 0 ≤ i → i < k → M' 2 (X + 220) (240 * t + i) = f i) (e4 : ∀ j, ¬ (240 * t ≤ j ∧ j < 240 * t + 240) → M' 2 (X + 220) j = M 2 (X + 220) j) : RT X M' (atx T t k f) := by
  refine ⟨by rw [h _ _ _ (by omega)]; exact R.1, fun s s0 s1 => ?_⟩
  have s1 : s < T.1 := s1
  by_cases hs : s = t
  · subst hs; rw [atx_n, atx_f]; exact ⟨e1, e3⟩
  · rw [atx_on hs, atx_of hs]
    obtain ⟨u1, u2⟩ := R.2 s s0 s1
    obtain ⟨v1, v2, -⟩ := A.2.2 s s0 s1
    exact ⟨by rw [e2 s hs]; exact u1, fun i i0 i1 => by rw [e4 _ (by omega)]; exact u2 i i0 i1⟩
theorem Rtx.RI {T'' : ATx} (h : Rtx X M M') (R : RI X M T K P D) (R2 : RT X M' T'') : RI X M' T'' K P D := by
  refine ⟨h.W R.1, R2, ?_, ?_, ?_⟩
  · exact ⟨by rw [h _ _ _ (by omega)]; exact R.2.2.1.1, fun t h0 h1 => ⟨by rw [h _ _ _ (by omega)]; exact (R.2.2.1.2 t h0 h1).1, by rw [h _ _ _ (by omega)]; exact (R.2.2.1.2 t h0 h1).2.1, fun hb => ⟨by rw [h _ _ _ (by omega)]; exact ((R.2.2.1.2 t h0 h1).2.2 hb).1, fun i i0 i1 => by rw [h _ _ _ (by omega)]; exact ((R.2.2.1.2 t h0 h1).2.2 hb).2 i i0 i1⟩⟩⟩
  · exact ⟨by rw [h _ _ _ (by omega)]; exact R.2.2.2.1.1, fun t h0 h1 => ⟨by rw [h _ _ _ (by omega)]; exact (R.2.2.2.1.2 t h0 h1).1, fun i i0 i1 => by rw [h _ _ _ (by omega)]; exact (R.2.2.2.1.2 t h0 h1).2 i i0 i1⟩⟩
  · exact R.2.2.2.2.keepD fun k a j q => h k a j (by unfold fpRD at q; omega)
theorem Rtx.FrR (h : Rtx X M M') : FrR X M M' := fun k a j g => h k a j (by omega)
theorem Kof.FrR (h : Kof X M M') : FrR X M M' := fun k a j g => h k a j (by omega) (by omega)
theorem r_putF {k u : Int} {f : Int → Int} (R : RI X M (atx T t k f) K P D) (A : AI (atx T t k f) K P D) (ht : 0 ≤ t ∧ t < T.1) (hk : 0 ≤ k ∧ k < 240) (hu : u = f k) (hr : 0 ≤ f k ∧ f k ≤ 65535) (h : ∀ M', Rtx X M M' → RI X M' (atx T t (k + 1) f) K P D → AI (atx T t (k + 1) f) K P D → Q 0 M') : Runs G 177 0 0 [(1, X + 218), (0, t), (0, u)] M Q := by
  refine r_put R.1 R.2.1 A.1 ht.1 ht.2 (by rw [atx_n]; omega) (fun M1 q1 q2 => ?_)
  have e : Same (aput (atx T t k f) t u) (atx T t (k + 1) f) := ⟨rfl, fun s s0 s1 => by
    show (atx T t (k + 1) f).2.1 s = (if s = t then (atx T t k f).2.1 t + 1 else (atx T t k f).2.1 s) ∧ ∀ i, 0 ≤ i → i < (if s = t then (atx T t k f).2.1 t + 1 else (atx T t k f).2.1 s) → (atx T t (k + 1) f).2.2 s i = (if s = t ∧ i = (atx T t k f).2.1 t then u else (atx T t k f).2.2 s i)
    by_cases hs : s = t
    · subst hs
      rw [if_pos rfl, atx_n, atx_n, atx_f, atx_f]
      refine ⟨rfl, fun i i0 i1 => ?_⟩
      by_cases hi : i = k
      · subst hi; rw [if_pos ⟨rfl, rfl⟩]; exact hu.symm
      · rw [if_neg (fun q => hi q.2)]
    · rw [if_neg hs, atx_on hs, atx_on hs, atx_of hs, atx_of hs]
      exact ⟨rfl, fun i _ _ => by rw [if_neg (fun q => hs q.1)]⟩⟩
  have A2 := A.1.2.2 t ht.1 ht.2
  rw [atx_n, atx_f] at A2
  have A3 := A.1.atx (t := t) (n := k + 1) (f := f) ⟨by omega, by omega, fun i i0 i1 => by
    by_cases hi : i = k
    · subst hi; exact hr
    · exact A2.2.2 i i0 (by omega)⟩
  rw [atx_atx] at A3
  exact h M1 q1 (q1.RI R (e.RT q2)) ⟨A3, A.2.1, A.2.2⟩
theorem r_keepA {t b l : Int} (R : RI X M T K P D) (A : AI T K P D) (h0 : 0 ≤ t) (ht : t < 40) (hb : (b = 1 ∧ l = 0) ∨ (b = 0 ∧ t < T.1 ∧ l = T.2.1 t)) (h : ∀ M', Kof X M M' → RI X M' T (kpush K t b l (T.2.2 t)) P D → Q 0 M') : Runs G 175 0 0 [(1, X + 218), (0, t), (0, b)] M Q :=
  r_keep R.1 R.2.1 A.1 R.2.2.1 A.2.1 h0 ht hb fun M1 k1 r1 => h M1 k1 ⟨k1.W R.1, ⟨by rw [k1 _ _ _ (by omega) (by omega)]; exact R.2.1.1, fun s s0 s1 => ⟨by rw [k1 _ _ _ (by omega) (by omega)]; exact (R.2.1.2 s s0 s1).1, fun i i0 i1 => by rw [k1 _ _ _ (by omega) (by omega)]; exact (R.2.1.2 s s0 s1).2 i i0 i1⟩⟩, r1, ⟨by rw [k1 _ _ _ (by omega) (by omega)]; exact R.2.2.2.1.1, fun s s0 s1 => ⟨by rw [k1 _ _ _ (by omega) (by omega)]; exact (R.2.2.2.1.2 s s0 s1).1, fun i i0 i1 => by rw [k1 _ _ _ (by omega) (by omega)]; exact (R.2.2.2.1.2 s s0 s1).2 i i0 i1⟩⟩, R.2.2.2.2.keepD fun k a j q => k1 k a j (by unfold fpRD at q; omega) (by unfold fpRD at q; omega)⟩
theorem r_newText (R : RI X M T K P D) (A : AI T K P D) (hm : T.1 < 40) (h : ∀ M', FrR X M M' → RI X M' (aopen T) (kpush K T.1 1 0 (T.2.2 T.1)) P D → AI (aopen T) (kpush K T.1 1 0 (T.2.2 T.1)) P D → Q T.1 M') : Runs G 176 0 0 [(1, X + 218)] M Q := by
  have wt := w_model_t R.1
  have a1 := A.1.1
  refine rn_X12_newText _ M (sg_X12_newText_0 _ M ⟨wt, wt, ?_⟩)
  rw [R.2.1.1]
  refine r_keepA R A a1 hm (Or.inl ⟨rfl, rfl⟩) (fun M1 k1 r1 _ => ?_)
  have W1 := r1.1
  rw [w_model_1301 W1, w_m1301_t W1, w_m1301_n W1, r1.2.1.1, jset_s]
  have fr : ∀ k a j, ¬ (k = 2 ∧ a = X + 219) → ¬ (k = 3200 ∧ a = X + 218) → jset (jset M1 2 (X + 219) T.1 0) 3200 (X + 218) 0 (T.1 + 1) k a j = M1 k a j := fun k a j h1 h2 => by
    rw [show jset (jset M1 2 (X + 219) T.1 0) 3200 (X + 218) 0 (T.1 + 1) k a j = _ from if_neg (by omega)]
    exact if_neg (by omega)
  refine ⟨w_model_t W1, w_model_t W1, ⟨rfl, a1, by omega⟩, w_model_t W1, by unfold jR; omega, w_model_t W1, w_model_t W1, by unfold jR; omega, ?_⟩
  rw [show T.1 + 1 - 1 = T.1 by omega]
  refine h _ (k1.FrR.trans fun k a j q => fr k a j (by omega) (by omega)) ⟨W1.keep fun k a j _ _ hk => fr k a j (by omega) (by omega), ⟨jset_s, fun s s0 s1 => ?_⟩, ⟨by rw [fr _ _ _ (by omega) (by omega)]; exact r1.2.2.1.1, fun s s0 s1 => ⟨by rw [fr _ _ _ (by omega) (by omega)]; exact (r1.2.2.1.2 s s0 s1).1, by rw [fr _ _ _ (by omega) (by omega)]; exact (r1.2.2.1.2 s s0 s1).2.1, fun hb => ⟨by rw [fr _ _ _ (by omega) (by omega)]; exact ((r1.2.2.1.2 s s0 s1).2.2 hb).1, fun i i0 i1 => by rw [fr _ _ _ (by omega) (by omega)]; exact ((r1.2.2.1.2 s s0 s1).2.2 hb).2 i i0 i1⟩⟩⟩, ⟨by rw [fr _ _ _ (by omega) (by omega)]; exact r1.2.2.2.1.1, fun s s0 s1 => ⟨by rw [fr _ _ _ (by omega) (by omega)]; exact (r1.2.2.2.1.2 s s0 s1).1, fun i i0 i1 => by rw [fr _ _ _ (by omega) (by omega)]; exact (r1.2.2.2.1.2 s s0 s1).2 i i0 i1⟩⟩, r1.2.2.2.2.keepD fun k a j q => fr k a j (by unfold fpRD at q; omega) (by unfold fpRD at q; omega)⟩ ⟨A.1.opn hm, A.2.1.push ⟨a1, Or.inl ⟨rfl, rfl, rfl⟩⟩, A.2.2⟩
  have s1 : s < T.1 + 1 := s1
  show _ = (if s = T.1 then 0 else T.2.1 s) ∧ ∀ i, 0 ≤ i → i < (if s = T.1 then 0 else T.2.1 s) → _ = T.2.2 s i
  rw [jset_k (by decide)]
  by_cases hs : s = T.1
  · rw [if_pos hs, hs]; exact ⟨jset_s, fun i i0 i1 => by omega⟩
  · rw [if_neg hs, jset_j hs]
    obtain ⟨d1, d2⟩ := r1.2.1.2 s s0 (by omega)
    exact ⟨d1, fun i i0 i1 => by rw [fr _ _ _ (by omega) (by omega)]; exact d2 i i0 i1⟩
end PUT
