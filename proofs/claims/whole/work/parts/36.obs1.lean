/-! steps: what both sides do at a call -/
theorem wa_t {M : JM} {X : Int} (W : WSt X M) : M 0 X 0 = 21 := by have := w_atlas_t W; rw [Int.add_zero] at this; exact this
theorem wa_1200 {M : JM} {X : Int} (W : WSt X M) : M 1200 X 0 = X + 1 := by have := w_atlas_1200 W; rw [Int.add_zero] at this; exact this
theorem wa_1201 {M : JM} {X : Int} (W : WSt X M) : M 1201 X 0 = X + 144 := by have := w_atlas_1201 W; rw [Int.add_zero] at this; exact this
theorem wa_1202 {M : JM} {X : Int} (W : WSt X M) : M 1202 X 0 = X + 155 := by have := w_atlas_1202 W; rw [Int.add_zero] at this; exact this
theorem wa_1203 {M : JM} {X : Int} (W : WSt X M) : M 1203 X 0 = X + 161 := by have := w_atlas_1203 W; rw [Int.add_zero] at this; exact this
theorem wa_1204 {M : JM} {X : Int} (W : WSt X M) : M 1204 X 0 = X + 164 := by have := w_atlas_1204 W; rw [Int.add_zero] at this; exact this
theorem wa_1205 {M : JM} {X : Int} (W : WSt X M) : M 1205 X 0 = X + 199 := by have := w_atlas_1205 W; rw [Int.add_zero] at this; exact this
theorem wa_1206 {M : JM} {X : Int} (W : WSt X M) : M 1206 X 0 = X + 204 := by have := w_atlas_1206 W; rw [Int.add_zero] at this; exact this
theorem wa_1207 {M : JM} {X : Int} (W : WSt X M) : M 1207 X 0 = X + 208 := by have := w_atlas_1207 W; rw [Int.add_zero] at this; exact this
theorem wa_1208 {M : JM} {X : Int} (W : WSt X M) : M 1208 X 0 = X + 210 := by have := w_atlas_1208 W; rw [Int.add_zero] at this; exact this
theorem wa_1209 {M : JM} {X : Int} (W : WSt X M) : M 1209 X 0 = X + 212 := by have := w_atlas_1209 W; rw [Int.add_zero] at this; exact this
theorem wa_1210 {M : JM} {X : Int} (W : WSt X M) : M 1210 X 0 = X + 214 := by have := w_atlas_1210 W; rw [Int.add_zero] at this; exact this
theorem wa_1211 {M : JM} {X : Int} (W : WSt X M) : M 1211 X 0 = X + 216 := by have := w_atlas_1211 W; rw [Int.add_zero] at this; exact this
def IV (X n a b : Int) (M : JM) : Prop := ∃ T K P D, CB X n M T K P D ∧ CH X M T ∧ RI X M T K P D ∧ AI T K P D ∧ 0 < X ∧ M 1212 X 0 = a ∧ M 1213 X 0 = b
section STEPS
variable {G : JG} {X : Int}
theorem CB.mono {n n' : Int} {M : JM} {T : ATx} {K : AKp} {P : ATx} {D : ADt} (h : CB X n M T K P D) (h1 : n ≤ n') (h2 : n' ≤ 1000000) : CB X n' M T K P D := by
  obtain ⟨c1, c2, c3, ⟨k1, k2, k3, k4⟩, c5⟩ := h
  exact ⟨c1, c2, c3, ⟨k1, k2, ⟨k3.1, by omega, h2⟩, k4⟩, c5⟩
theorem mk_stp {y y' : Nat} {as : List JV} (h : ∀ n M T K P D, CB X n M T K P D → CH X M T → AI T K P D → 0 < X → 0 ≤ n → n + 6 ≤ 3072 → ∃ Rel : Int → ATx → AKp → ATx → ADt → Prop, (∀ Q : Int → JM → Prop, (∀ r M1 T' K' P' D', Rel r T' K' P' D' → AI T' K' P' D' → FrC X M M1 → CB X (n + 6) M1 T' K' P' D' → CH X M1 T' → M1 1212 X 0 = M 1212 X 0 → M1 1213 X 0 = M 1213 X 0 → Q r M1) → Runs G y 0 0 ((1, X) :: as) M Q) ∧ ∀ (M1 : JM) (Q : Int → JM → Prop) (r : Int) T' K' P' D', Rel r T' K' P' D' → RI X M1 T K P D → (∀ M2, FrR X M1 M2 → RI X M2 T' K' P' D' → Q r M2) → Runs G y' 0 0 ((1, X + 218) :: as) M1 Q) : JSt (IV X) 3072 G X y y' as := by
  intro n a b M I hn0 hn Q hQ
  obtain ⟨T, K, P, D, C, H, R, A, hX, ea, eb⟩ := I
  obtain ⟨Rel, hc, hr⟩ := h n M T K P D C H A hX hn0 hn
  refine hc Q (fun r M1 T' K' P' D' rl A' f1 c1 h1 e1 e2 => hQ r M1 (w_model_t c1.1) (fun Q2 k2 => hr M1 Q2 r T' K' P' D' rl (f1.RI c1.1 R) (fun M2 f2 r2 => k2 M2 ⟨T', K', P', D', f2.CB A' c1, f2.CH c1.2.2.2.2.2.2 h1, r2, A', hX, ?_, ?_⟩)))
  · rw [f2 1212 X 0 (by omega), e1]; exact ea
  · rw [f2 1213 X 0 (by omega), e2]; exact eb
/-- a call that changes nothing -/
theorem mk_obs {y y' : Nat} {as : List JV} (h : ∀ n M T K P D, CB X n M T K P D → CH X M T → AI T K P D → 0 < X → ∃ r : Int, (∀ Q : Int → JM → Prop, Q r M → Runs G y 0 0 ((1, X) :: as) M Q) ∧ ∀ (M1 : JM) (Q : Int → JM → Prop), RI X M1 T K P D → Q r M1 → Runs G y' 0 0 ((1, X + 218) :: as) M1 Q) : JSt (IV X) 3072 G X y y' as :=
  mk_stp fun n M T K P D C H A hX hn0 hn => by
    obtain ⟨r, hc, hr⟩ := h n M T K P D C H A hX
    refine ⟨fun r' T' K' P' D' => r' = r ∧ T' = T ∧ K' = K ∧ P' = P ∧ D' = D, fun Q hQ => hc Q (hQ r M T K P D ⟨rfl, rfl, rfl, rfl, rfl⟩ A (FrC.refl X M) (C.mono (by omega) (by omega)) H rfl rfl), ?_⟩
    rintro M1 Q r' T' K' P' D' ⟨rfl, rfl, rfl, rfl, rfl⟩ R hQ
    exact hr M1 Q R (hQ M1 (FrR.refl X M1) R)
section LK
variable {Q : Int → JM → Prop} {M : JM} {n t : Int} {T : ATx} {K : AKp} {P : ATx} {D : ADt}
theorem c_lkT (C : CB X n M T K P D) (A : AI T K P D) (hX : 0 < X) (ht : 0 ≤ t ∧ t < T.1) (h : Q (X + (4 + 2 * t)) M) : Runs G 27 0 0 [(1, X + 1), (0, t)] M Q := by
  have e := C.2.1.1
  exact c_look C.1 hX (by rw [e]; exact A.1.2.1) (fun _ _ => h) (fun g => absurd ⟨ht.1, by rw [e]; exact ht.2⟩ g)
theorem c_lkF (C : CB X n M T K P D) (A : AI T K P D) (hX : 0 < X) (ht : ¬ (0 ≤ t ∧ t < T.1)) (h : Q 0 M) : Runs G 27 0 0 [(1, X + 1), (0, t)] M Q := by
  have e := C.2.1.1
  exact c_look C.1 hX (by rw [e]; exact A.1.2.1) (fun g1 g2 => absurd ⟨g1, by rw [e] at g2; exact g2⟩ ht) (fun _ => h)
theorem r_isT (R : RI X M T K P D) (A : AI T K P D) (ht : 0 ≤ t ∧ t < T.1) (h : Q 1 M) : Runs G 171 0 0 [(1, X + 218), (0, t)] M Q := r_isText R.1 R.2.1 A.1 (fun _ _ => h) (fun g => absurd ht g)
theorem r_isF (R : RI X M T K P D) (A : AI T K P D) (ht : ¬ (0 ≤ t ∧ t < T.1)) (h : Q 0 M) : Runs G 171 0 0 [(1, X + 218), (0, t)] M Q := r_isText R.1 R.2.1 A.1 (fun g1 g2 => absurd ⟨g1, g2⟩ ht) (fun _ => h)
/-- all about text t on the component's side -/
theorem c_txt (C : CB X n M T K P D) (A : AI T K P D) (ht : 0 ≤ t ∧ t < T.1) : Tx M (X + (4 + 2 * t)) 240 ∧ M 2901 (X + (4 + 2 * t)) 0 = T.2.1 t ∧ M 1000 (X + (4 + 2 * t)) 0 = X + (5 + 2 * t) ∧ (∀ i, 0 ≤ i → i < T.2.1 t → M 2 (X + (5 + 2 * t)) i = T.2.2 t i) ∧ M 0 (X + (4 + 2 * t)) 0 = 19 ∧ M 0 (X + (5 + 2 * t)) 0 = 1 ∧ M 1 (X + (5 + 2 * t)) 0 = 240 ∧ 0 ≤ T.2.1 t ∧ T.2.1 t ≤ 240 := by
  have a2 := A.1.2.1
  obtain ⟨w1, w2, w3, w4, w5⟩ := w_text C.1 ht.1 (show t < 40 by omega)
  obtain ⟨d1, d2⟩ := C.2.1.2 t ht.1 ht.2
  obtain ⟨u1, u2, -⟩ := A.1.2.2 t ht.1 ht.2
  exact ⟨tx_text C.1 C.2.2.1 ht.1 (by omega), d1, w3, d2, w2, w4, w5, u1, u2⟩
/-- all about text t on the reference's side -/
theorem r_txt (R : RI X M T K P D) (A : AI T K P D) (ht : 0 ≤ t ∧ t < T.1) : M 2 (X + 219) t = T.2.1 t ∧ (∀ i, 0 ≤ i → i < T.2.1 t → M 2 (X + 220) (240 * t + i) = T.2.2 t i) ∧ t < 40 ∧ 0 ≤ T.2.1 t ∧ T.2.1 t ≤ 240 := by
  have a2 := A.1.2.1
  obtain ⟨d1, d2⟩ := R.2.1.2 t ht.1 ht.2
  obtain ⟨u1, u2, -⟩ := A.1.2.2 t ht.1 ht.2
  exact ⟨d1, d2, by omega, u1, u2⟩
theorem r_un {i : Int} (R : RI X M T K P D) (A : AI T K P D) (ht : 0 ≤ t ∧ t < T.1) (h2 : 0 ≤ i) (h3 : i < T.2.1 t) (h : Q (T.2.2 t i) M) : Runs G 174 0 0 [(1, X + 218), (0, t), (0, i)] M Q := r_unit R.1 R.2.1 A.1 ht.1 ht.2 h2 h3 h
theorem r_isPr {i : Int} (R : RI X M T K P D) (A : AI T K P D) (ht : 0 ≤ t ∧ t < T.1) (h2 : 0 ≤ i) (h3 : i ≤ 1000) (h1 : isP (T.2.1 t) (T.2.2 t) i → Q 1 M) (h0 : ¬ isP (T.2.1 t) (T.2.2 t) i → Q 0 M) : Runs G 189 0 0 [(1, X + 218), (0, t), (0, i)] M Q := by
  have W := R.1
  have wt := w_model_t W
  obtain ⟨e1, e2, e3, e4, e5⟩ := r_txt R A ht
  unfold isP at h1 h0
  refine rn_X12_isPair _ _ _ M (sg_X12_isPair_0 _ _ _ M ?_)
  rw [w_model_1301 W, w_m1301_t W, w_m1301_n W, e1]
  repeat' first | rw [wa_1200 W] | (refine r_un R A ht ?_ ?_ ?_) | (refine r_in ?_ ?_) | (apply h0; omega) | (apply h1; omega) | apply And.intro | intro _ | exact wt | exact wa_t W | exact w_shelf_t W | assumption | exact Or.inl rfl | exact Or.inr rfl | rfl | omega | (unfold jR; omega)
theorem r_ptF {i : Int} (R : RI X M T K P D) (A : AI T K P D) (ht : 0 ≤ t ∧ t < T.1) (h2 : 0 ≤ i) (h3 : i < T.2.1 t) (h : Q (ptAt (T.2.1 t) (T.2.2 t) i) M) : Runs G 190 0 0 [(1, X + 218), (0, t), (0, i)] M Q := by
  have W := R.1
  have wt := w_model_t W
  obtain ⟨e1, e2, e3, e4, e5⟩ := r_txt R A ht
  refine rn_X12_pointFrom _ _ _ M (sg_X12_pointFrom_0 _ _ _ M ⟨wt, r_isPr R A ht h2 (by omega) (fun g _ => ⟨fun g0 => absurd g0 (by decide), fun _ => ⟨wt, r_un R A ht h2 h3 (fun _ => ?_)⟩⟩) (fun g _ => ⟨fun _ => ⟨wt, r_un R A ht h2 h3 (fun _ => ?_)⟩, fun g0 => absurd rfl g0⟩)⟩)
  · rw [ptAt_pair g] at h
    obtain ⟨g1, g2, g3, g4, g5, g6⟩ := g
    rw [jshl_10 (by omega) (by omega)]
    refine ⟨by unfold jR; omega, by unfold jR; omega, by unfold jR; omega, wt, r_un R A ht (by omega) g2 (fun _ => ⟨by unfold jR; omega, by unfold jR; omega, ?_⟩)⟩
    rw [show 65536 + (T.2.2 t i - 55296) * 1024 + T.2.2 t (i + 1) - 56320 = 65536 + (T.2.2 t i - 55296) * 1024 + (T.2.2 t (i + 1) - 56320) by omega]
    exact h
  · rw [ptAt_one g] at h
    exact h
end LK
theorem st_at (t i : Int) : JSt (IV X) 3072 G X 117 187 [(0, t), (0, i)] := mk_obs fun n M T K P D C H A hX => by
  by_cases ht : 0 ≤ t ∧ t < T.1
  · by_cases hi : 0 ≤ i ∧ i < T.2.1 t
    · refine ⟨T.2.2 t i, fun Q hQ => ?_, fun M1 Q R hQ => ?_⟩
      · have W := C.1
        obtain ⟨TT, e1, e2, e3, e4, e5, e6, e7, e8⟩ := c_txt C A ht
        refine rn_X11_at _ _ _ M (sg_X11_at_0 _ _ _ M ?_)
        repeat' first | rw [wa_1200 W] | (refine c_lkT C A hX ht ?_) | (refine c_hasPlace TT ?_ ?_) | (rw [e2]) | (rw [e3 i hi.1 hi.2]) | apply And.intro | intro _ | exact wt | exact wa_t W | exact w_shelf_t W | assumption | exact Or.inl rfl | exact Or.inr rfl | rfl | omega | (unfold jR; omega)
      · have W := R.1
        have wt := w_model_t W
        refine rn_X12_at _ _ _ M1 (sg_X12_at_0 _ _ _ M1 ?_)
        repeat' first | rw [wa_1200 W] | (refine r_isPlace R.1 R.2.1 A.1 ?_ ?_) | (refine r_un R A ht ?_ ?_ ?_) | apply And.intro | intro _ | exact wt | exact wa_t W | exact w_shelf_t W | assumption | exact Or.inl rfl | exact Or.inr rfl | rfl | omega | (unfold jR; omega)
    · refine ⟨-2, fun Q hQ => ?_, fun M1 Q R hQ => ?_⟩
      · have W := C.1
        obtain ⟨TT, e1, e2, e3, e4, e5, e6, e7, e8⟩ := c_txt C A ht
        refine rn_X11_at _ _ _ M (sg_X11_at_0 _ _ _ M ?_)
        repeat' first | rw [wa_1200 W] | (refine c_lkT C A hX ht ?_) | (refine c_hasPlace TT ?_ ?_) | apply And.intro | intro _ | exact wt | exact wa_t W | exact w_shelf_t W | assumption | exact Or.inl rfl | exact Or.inr rfl | rfl | omega | (unfold jR; omega)
      · have W := R.1
        have wt := w_model_t W
        refine rn_X12_at _ _ _ M1 (sg_X12_at_0 _ _ _ M1 ?_)
        repeat' first | rw [wa_1200 W] | (refine r_isPlace R.1 R.2.1 A.1 ?_ ?_) | (refine r_un R A ht ?_ ?_ ?_) | apply And.intro | intro _ | exact wt | exact wa_t W | exact w_shelf_t W | assumption | exact Or.inl rfl | exact Or.inr rfl | rfl | omega | (unfold jR; omega)
  · refine ⟨-2, fun Q hQ => ?_, fun M1 Q R hQ => ?_⟩
    · have W := C.1
      refine rn_X11_at _ _ _ M (sg_X11_at_0 _ _ _ M ?_)
      repeat' first | rw [wa_1200 W] | (refine c_lkF C A hX ht ?_) | apply And.intro | intro _ | exact wt | exact wa_t W | exact w_shelf_t W | assumption | exact Or.inl rfl | exact Or.inr rfl | rfl | omega | (unfold jR; omega)
    · have W := R.1
      have wt := w_model_t W
      refine rn_X12_at _ _ _ M1 (sg_X12_at_0 _ _ _ M1 ?_)
      repeat' first | rw [wa_1200 W] | (refine r_isPlace R.1 R.2.1 A.1 ?_ ?_) | apply And.intro | intro _ | exact wt | exact wa_t W | exact w_shelf_t W | assumption | exact Or.inl rfl | exact Or.inr rfl | rfl | omega | (unfold jR; omega)
theorem st_length (t : Int) : JSt (IV X) 3072 G X 118 188 [(0, t)] := mk_obs fun n M T K P D C H A hX => by
  by_cases ht : 0 ≤ t ∧ t < T.1
  · refine ⟨T.2.1 t, fun Q hQ => ?_, fun M1 Q R hQ => ?_⟩
    · have W := C.1
      obtain ⟨TT, e1, e2, e3, e4, e5, e6, e7, e8⟩ := c_txt C A ht
      refine rn_X11_length _ _ M (sg_X11_length_0 _ _ M ?_)
      repeat' first | rw [wa_1200 W] | (refine c_lkT C A hX ht ?_) | (rw [e1]) | apply And.intro | intro _ | exact wt | exact wa_t W | exact w_shelf_t W | assumption | exact Or.inl rfl | exact Or.inr rfl | rfl | omega | (unfold jR; omega)
    · have W := R.1
      have wt := w_model_t W
      obtain ⟨e1, e2, e3, e4, e5⟩ := r_txt R A ht
      refine rn_X12_length _ _ M1 (sg_X12_length_0 _ _ M1 ?_)
      repeat' first | rw [wa_1200 W] | (refine r_isT R A ht ?_) | (rw [w_model_1301 W]) | (rw [w_m1301_n W]) | exact w_m1301_t W | (rw [e1]) | apply And.intro | intro _ | exact wt | exact wa_t W | exact w_shelf_t W | assumption | exact Or.inl rfl | exact Or.inr rfl | rfl | omega | (unfold jR; omega)
  · refine ⟨-2, fun Q hQ => ?_, fun M1 Q R hQ => ?_⟩
    · have W := C.1
      refine rn_X11_length _ _ M (sg_X11_length_0 _ _ M ?_)
      repeat' first | rw [wa_1200 W] | (refine c_lkF C A hX ht ?_) | apply And.intro | intro _ | exact wt | exact wa_t W | exact w_shelf_t W | assumption | exact Or.inl rfl | exact Or.inr rfl | rfl | omega | (unfold jR; omega)
    · have W := R.1
      have wt := w_model_t W
      refine rn_X12_length _ _ M1 (sg_X12_length_0 _ _ M1 ?_)
      repeat' first | rw [wa_1200 W] | (refine r_isF R A ht ?_) | apply And.intro | intro _ | exact wt | exact wa_t W | exact w_shelf_t W | assumption | exact Or.inl rfl | exact Or.inr rfl | rfl | omega | (unfold jR; omega)
end STEPS
