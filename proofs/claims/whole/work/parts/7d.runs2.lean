/-! step: runs -/
section RUNS2
variable {G : JG} {X : Int}
/-- bounds of periods while stretches of period p are told up to place b -/
noncomputable def bet (p b : Int) : Int → Int := fun x => if x < b then p + 1 else p
theorem bet_lt {p b x : Int} (h : x < b) : bet p b x = p + 1 := if_pos h
theorem bet_ge {p b x : Int} (h : ¬ x < b) : bet p b x = p := if_neg h
/-- places without a run of period p do not matter -/
theorem bet_c {n p b c : Int} {f : Int → Int} (p0 : 0 ≤ p) (hbc : b ≤ c) (h : ∀ x, b ≤ x → x < c → ¬ isRun n f x p) (m : Nat) : cl n f (bet p b) 0 m = cl n f (bet p c) 0 m := cl_c m fun x x0 x1 => by
  by_cases c1 : x < b
  · rw [bet_lt c1, bet_lt (show x < c by omega)]
  · rw [bet_ge c1]
    by_cases c2 : x < c
    · rw [bet_lt c2, rrow_s p0, pif_f (h x (by omega) c2), List.append_nil]
    · rw [bet_ge c2]
theorem RunAt_tov {n i j p : Int} {f : Int → Int} (h : RunAt n f i j p) : tov n f i p = j := by
  obtain ⟨⟨i0, j1, p1, len⟩, per, beg, fin, least⟩ := h
  exact tov_eq (by omega) (by omega) j1 per (fin.imp id (fun z y => z y.symm))
theorem c_tif {Q : Int → JM → Prop} {M : JM} {n a e p : Int} {f : Int → Int} (hn : 0 ≤ n ∧ n ≤ 240) (hf : ∀ k, 0 ≤ k → k < n → 0 ≤ f k) (td : TdL M (X + 212) (X + 213) 3 240 (cl n f (bet p a) 0 n.toNat)) (a0 : 0 ≤ a) (e1 : e ≤ n) (p1 : 1 ≤ p) (ae : a + p ≤ e) (per : ∀ x, a ≤ x → x + p < e → f x = f (x + p)) (beg : a = 0 ∨ f (a - 1) ≠ f (a - 1 + p)) (fin : e = n ∨ f (e - p) ≠ f e) (h : ∀ M', Tof (X + 212) (X + 213) M M' → TdL M' (X + 212) (X + 213) 3 240 (cl n f (bet p (a + 1)) 0 n.toNat) → Q 0 M') : Runs G 4 0 0 [(0, a), (0, e), (0, p), (1, X + 212)] M Q := by
  have te : tov n f a p = e := tov_eq (by omega) ae e1 per fin
  have no : ¬ isRun n f a p → Q 0 M := fun z => h M (Tof.refl _ _ M) (by
    rw [← bet_c (b := a) (c := a + 1) (by omega) (by omega) (fun x x0 x1 => by
      have : x = a := by omega
      rw [this]; exact z)]
    exact td)
  refine rn_X0_tellIfRun _ _ _ _ M (sg_X0_tellIfRun_0 _ _ _ _ M ⟨by unfold jR; omega, by unfold jR; omega, fun q => no (fun z => ?_), fun q => ⟨td.1.1, c_rowOf td (by decide) (fun k k0 k1 r0 r1 _ _ => ⟨fun _ => no (fun z => ?_), fun y => absurd (by omega) y⟩) (fun hno _ => ⟨fun y => absurd rfl y, fun _ => ⟨td.1.1, ?_⟩⟩)⟩⟩)
  · have := z.1
    rw [te] at this
    omega
  · obtain ⟨y, hy, ry⟩ := rowx_mem k0 k1
    rw [ry] at r0 r1
    have r0 : y.1 = a := r0
    have r1 : y.2.1 = e := r1
    obtain ⟨m1, m2, m3⟩ := cl_mem _ hy
    rw [r0, bet_ge (by omega)] at m3
    obtain ⟨g1, g2, g3, g4⟩ := rrow_mem _ m3
    obtain ⟨x, x0, x1, x2⟩ := z.2.2.2.2 y.2.2 g4.1.2.2.1 (by omega)
    rw [te] at x1
    exact x2 (g4.2.1 x x0 (by rw [← g3, r1]; exact x1))
  · -- a run of its own
    have ru : RunAt n f a e p := by
      rcases run_less a0 e1 p1 (by omega) per beg fin with y | ⟨q', q1, q2, q3⟩
      · exact y
      · exfalso
        have tq := RunAt_tov q3
        have iq : isRun n f a q' := by unfold isRun; rw [tq]; exact q3
        have mem : (a, tov n f a q', q') ∈ cl n f (bet p a) 0 n.toNat := cl_in a0 (by rw [bet_ge (by omega)]; exact rrow_in iq _ (by omega)) _ (by omega)
        obtain ⟨k, k0, k1, k2⟩ := mem_rowx mem
        exact hno k k0 k1 ⟨by rw [k2]; rfl, by rw [k2]; show tov n f a q' = e; exact tq⟩
    have ir : isRun n f a p := by unfold isRun; rw [te]; exact ru
    have nn : n.toNat = (a + 1).toNat + (n - a - 1).toNat := by omega
    have sp : ∀ β, cl n f β 0 n.toNat = (cl n f β 0 a.toNat ++ rrow n f a (β a).toNat) ++ cl n f β (a + 1) (n - a - 1).toNat := fun β => by
      rw [nn, cl_split, show (0 : Int) + ((a + 1).toNat : Int) = a + 1 by omega, show (a + 1).toNat = a.toNat + 1 by omega]
      show (cl n f β 0 a.toNat ++ rrow n f (0 + (a.toNat : Int)) (β (0 + (a.toNat : Int))).toNat) ++ _ = _
      rw [show (0 : Int) + (a.toNat : Int) = a by omega]
    have s1 := sp (bet p a)
    have s2 := sp (bet p (a + 1))
    rw [bet_ge (show ¬ a < a by omega)] at s1
    rw [bet_lt (show a < a + 1 by omega), rrow_s (by omega), pif_t ir, te, ← cl_c (β := bet p a) (γ := bet p (a + 1)) a.toNat (fun x x0 x1 => by rw [bet_lt (show x < a by omega), bet_lt (show x < a + 1 by omega)]), ← cl_c (β := bet p a) (γ := bet p (a + 1)) (a := a + 1) (n - a - 1).toNat (fun x x0 x1 => by rw [bet_ge (show ¬ x < a by omega), bet_ge (show ¬ x < a + 1 by omega)])] at s2
    have ll := cl_len (β := bet p (a + 1)) hn.1 hf n.toNat
    rw [s2] at ll h
    rw [s1] at td
    have l1 : (((cl n f (bet p a) 0 a.toNat ++ rrow n f a p.toNat) ++ cl n f (bet p a) (a + 1) (n - a - 1).toNat).length : Int) < 240 := by
      simp only [List.length_append, List.length_cons, List.length_nil] at ll ⊢
      omega
    refine c_addF td (fun x hx => ?_) (fun x hx => ?_) l1 (fun M' o t' _ => h M' o ?_)
    · rcases List.mem_append.mp hx with y | y
      · have := (cl_mem _ y).2.1; omega
      · rw [(rrow_mem _ y).1]; exact Int.le_refl _
    · have := (cl_mem _ hx).1; omega
    · rw [show (cl n f (bet p a) 0 a.toNat ++ (rrow n f a p.toNat ++ [(a, e, p)]) ++ cl n f (bet p a) (a + 1) (n - a - 1).toNat) = (cl n f (bet p a) 0 a.toNat ++ rrow n f a p.toNat) ++ (a, e, p) :: cl n f (bet p a) (a + 1) (n - a - 1).toNat by simp only [List.append_assoc, List.cons_append, List.nil_append]]
      exact t'
/-- the least period of a part, by the reference -/
theorem r_least {M : JM} {Q : Int → JM → Prop} {a e L : Int} {f : Int → Int} (W : WSt X M) (hL : 0 ≤ L ∧ L ≤ 240) (h0 : 0 ≤ a) (h1 : a < e) (h2 : e ≤ L) (tb : Tbl X M L f) (h : ∀ r, 1 ≤ r → r ≤ e - a → (∀ x, a ≤ x → x + r < e → f x = f (x + r)) → (∀ q, 1 ≤ q → q < r → ∃ x, a ≤ x ∧ x + q < e ∧ f x ≠ f (x + q)) → Q r M) : Runs G 224 0 0 [(1, X + 218), (0, a), (0, e)] M Q := by
  refine lp_X12_periodOf (fun v0 v1 v2 v3 N => M = N ∧ X + 218 = v0 ∧ a = v1 ∧ e = v2 ∧ 1 ≤ v3 ∧ v3 ≤ e - a ∧ ∀ q, 1 ≤ q → q < v3 → ∃ x, a ≤ x ∧ x + q < e ∧ f x ≠ f (x + q)) (fun _ _ _ v3 => (1000 - v3).toNat) ?_ _ _ _ M ⟨rfl, rfl, rfl, rfl, by omega, by omega, fun q q0 q1 => by omega⟩
  rintro v0 v1 v2 v3 N ⟨rfl, rfl, rfl, rfl, i1, i2, i3⟩
  refine ⟨by unfold jR; omega, fun q => h v3 i1 i2 (fun x x0 x1 => by omega) i3, fun q => ?_⟩
  have ge := @lcp_ge L L a (a + v3) (e - a - v3) f f (by omega) (by omega) (by omega)
  have tv := tb a (a + v3) h0 (by omega) (by omega) (by omega)
  rw [show 241 * a + (a + v3) = 241 * a + a + v3 by omega] at tv
  rw [w_model_1308 W, w_m1308_t W, w_m1308_n W, tv]
  refine ⟨w_model_t W, by unfold jR; omega, by unfold jR; omega, by unfold jR; omega, ⟨rfl, by omega, by omega⟩, by unfold jR; omega, by unfold jR; omega, fun le => h v3 i1 i2 (fun x x0 x1 => ?_) i3, fun le => ⟨by unfold jR; omega, ⟨rfl, rfl, rfl, rfl, by omega, by omega, fun c c0 c1 => ?_⟩, by omega⟩⟩
  · have := ge.mp le (x - a) (by omega) (by omega)
    rw [show a + (x - a) = x by omega, show a + v3 + (x - a) = x + v3 by omega] at this
    exact this
  · by_cases hc : c = v3
    · rw [hc]
      rcases Classical.em (∃ x, a ≤ x ∧ x + v3 < e ∧ f x ≠ f (x + v3)) with z | z
      · exact z
      · refine absurd (ge.mpr (fun k k0 k1 => ?_)) le
        have : f (a + k) = f (a + k + v3) := Classical.not_not.mp (fun y => z ⟨a + k, by omega, by omega, y⟩)
        rw [this, show a + k + v3 = a + v3 + k by omega]
    · exact i3 c c0 (by omega)
set_option maxHeartbeats 1000000 in
theorem st_runs (t : Int) : JSt (IV X) 3072 G X 140 228 [(0, t)] := mk_stp fun n M T K P D C H A hX hn0 hn => by
  by_cases ht : 0 ≤ t ∧ t < T.1
  · obtain ⟨L, hL⟩ : ∃ L, L = T.2.1 t := ⟨_, rfl⟩
    obtain ⟨f, hf⟩ : ∃ f, f = T.2.2 t := ⟨_, rfl⟩
    obtain ⟨u1, u2, u3⟩ := A.1.2.2 t ht.1 ht.2
    rw [← hL] at u1 u2
    rw [← hL, ← hf] at u3
    have hf0 : ∀ k, 0 ≤ k → k < L → 0 ≤ f k := fun k k0 k1 => (u3 k k0 k1).1
    obtain ⟨l, hl⟩ : ∃ l, l = cl L f (fun _ => 241) 0 L.toNat := ⟨_, rfl⟩
    have ads : ∀ l, AI T K P (dset D 2 l) := fun l => ⟨A.1, A.2.1, A.2.2.1, A.2.2.2.put (by decide) (by decide)⟩
    have tail : ∀ i p, 0 ≤ p → p ≤ 241 → L < i + 2 * p → rrow L f i p.toNat = rrow L f i (241 : Int).toNat := fun i p p0 p1 h => by
      have := rrow_tail (n := L) (f := f) (i := i) (a := p) p0 (fun q q0 z => by have := isRun_b z; omega) ((241 : Int).toNat - p.toNat)
      rw [show p.toNat + ((241 : Int).toNat - p.toNat) = (241 : Int).toNat by omega] at this
      exact this.symm
    refine mk_gen (r := l.length) (T' := T) (K' := K) (P' := P) (D' := dset D 2 l) (fun Q hQ => ?_) (fun M1 Q R hQ => ?_)
    · have W := C.1
      have base : ∀ N l, Tof (X + 212) (X + 213) M N → TdL N (X + 212) (X + 213) 3 240 l → CB X n N T K P (dset D 2 l) ∧ Txf N (X + (4 + 2 * t)) L f := fun N l o td => by
        have c1 := C.tl A (o.tl (by omega) (by omega)) (C.2.2.2.2.2.1.put2 o td)
        have tf := c_tf c1 (ads l) ht
        rw [← hL, ← hf] at tf
        exact ⟨c1, tf⟩
      have main : Runs G 3 0 0 [(1, X + (4 + 2 * t)), (1, X + 212)] M (fun _ M2 => jokM M2 → M2 0 X 0 = 21 ∧ M2 0 (M2 1209 X 0) 0 = 20 ∧ Q (M2 3003 (M2 1209 X 0) 0) M2) := by
        refine lp_X0_tellRuns (fun v0 v1 v2 N => X + (4 + 2 * t) = v0 ∧ X + 212 = v1 ∧ 1 ≤ v2 ∧ v2 ≤ 200 ∧ Tof (X + 212) (X + 213) M N ∧ TdL N (X + 212) (X + 213) 3 240 (cl L f (bet v2 0) 0 L.toNat)) (fun _ _ v2 => ((1000 - v2) * 1000).toNat) (fun v0 v1 v2 v3 v4 N => X + (4 + 2 * t) = v0 ∧ X + 212 = v1 ∧ 1 ≤ v2 ∧ 2 * v2 ≤ L ∧ 0 ≤ v4 ∧ v4 + v2 ≤ L + 1 ∧ 0 ≤ v3 ∧ v3 ≤ v4 ∧ (v4 + v2 = L + 1 → v3 = 0) ∧ (∀ k, v4 - v3 ≤ k → k < v4 → f k = f (k + v2)) ∧ (v3 = v4 ∨ f (v4 - v3 - 1) ≠ f (v4 - v3 - 1 + v2) ∨ v4 + v2 = L + 1) ∧ Tof (X + 212) (X + 213) M N ∧ TdL N (X + 212) (X + 213) 3 240 (cl L f (bet v2 (v4 - v3)) 0 L.toNat)) (fun _ _ v2 _ v4 => ((1000 - v2) * 1000 - 1 - v4).toNat) ?_ ?_ _ _ M ?_
        · rintro v0 v1 v2 N ⟨rfl, rfl, i1, i2, i3, i4⟩
          obtain ⟨c1, tf⟩ := base N _ i3 i4
          rw [tf.2.1]
          refine ⟨by unfold jR; omega, tf.1, fun q _ => ?_, fun q => ⟨⟨rfl, rfl, i1, by omega, by omega, by omega, by omega, by omega, fun _ => rfl, fun k k0 k1 => by omega, Or.inl rfl, i3, ?_⟩, by omega⟩⟩
          · have e : cl L f (bet v2 0) 0 L.toNat = l := by
              rw [hl]
              exact cl_c _ fun x x0 x1 => by rw [bet_ge (by omega)]; exact tail x v2 (by omega) (by omega) (by omega)
            rw [e] at i4 c1
            have W1 := c1.1
            rw [wa_1209 W1, i4.2.2.1.1]
            exact ⟨wa_t W1, w_truns_t W1, hQ N (ads l) (FrC.tl (i3.tl (by omega) (by omega))) (c1.mono (by omega) (by omega)) (H.tl C.2.2.2.2.2.2 (i3.tl (by omega) (by omega))) (i3 _ _ _ (by omega) (by omega)) (i3 _ _ _ (by omega) (by omega))⟩
          · rw [show (0 : Int) - 0 = 0 by omega]; exact i4
        · rintro v0 v1 v2 v3 v4 N ⟨rfl, rfl, i1, i2, i3, i4, i5, i6, i6', i7, i8, i9, i10⟩
          obtain ⟨c1, tf⟩ := base N _ i9 i10
          rw [tf.2.1]
          -- no run of this period begins behind the stretch's first place
          have nor : ∀ x, v4 - v3 + 1 ≤ x → x < v4 + 1 → ¬ isRun L f x v2 := fun x x0 x1 z => by
            have b := z.2.2.1
            have := i7 (x - 1) (by omega) (by omega)
            rcases b with y | y
            · omega
            · exact y this
          refine ⟨by unfold jR; omega, tf.1, fun q => ⟨by unfold jR; omega, ⟨rfl, rfl, by omega, by omega, i9, ?_⟩, by omega⟩, fun q => ?_⟩
          · rw [← cl_c (β := bet v2 (v4 - v3)) (γ := bet (v2 + 1) 0) L.toNat (fun x x0 x1 => ?_)]
            · exact i10
            · rw [bet_ge (show ¬ x < 0 by omega)]
              by_cases c : x < v4 - v3
              · rw [bet_lt c]
              · rw [bet_ge c, rrow_s (by omega), pif_f (fun z => by have := isRun_b z; have := i6' (by omega); omega), List.append_nil]
          · have beg : v4 - v3 = 0 ∨ f (v4 - v3 - 1) ≠ f (v4 - v3 - 1 + v2) := by
              rcases i8 with z | z | z
              · exact Or.inl (by omega)
              · exact Or.inr z
              · omega
            have tell : (v4 + v2 = L ∨ f v4 ≠ f (v4 + v2)) → ∀ Q' : Int → JM → Prop, (∀ M', Tof (X + 212) (X + 213) M M' → TdL M' (X + 212) (X + 213) 3 240 (cl L f (bet v2 (v4 + 1 - 0)) 0 L.toNat) → Q' 0 M') → Runs G 4 0 0 [(0, v4 - v3), (0, v4 + v2), (0, v2), (1, X + 212)] N Q' := fun fi Q' hq => by
              refine c_tif (n := L) (f := f) ⟨u1, u2⟩ hf0 i10 (by omega) (by omega) i1 (by omega) (fun x x0 x1 => i7 x x0 (by omega)) beg (fi.imp id (fun z => by rw [show v4 + v2 - v2 = v4 by omega]; exact z)) (fun M' o t' => hq M' (i9.trans o) ?_)
              rw [← bet_c (b := v4 - v3 + 1) (c := v4 + 1 - 0) (by omega) (by omega) (fun x x0 x1 => nor x x0 (by omega))]
              exact t'
            refine ⟨by unfold jR; omega, tf.1, fun q2 => ⟨by unfold jR; omega, by unfold jR; omega, tell (Or.inl (by omega)) _ (fun M' o t' _ => ⟨by unfold jR; omega, ⟨rfl, rfl, i1, i2, by omega, by omega, by omega, by omega, fun _ => rfl, fun k k0 k1 => by omega, Or.inr (Or.inr (by omega)), o, t'⟩, by omega⟩)⟩, fun q2 => ⟨tf.1, ⟨tf.2.2.2.1, i3, by have := tf.2.2.2.2.1; omega⟩, tf.1, by unfold jR; omega, ⟨tf.2.2.2.1, by omega, by have := tf.2.2.2.2.1; omega⟩, ?_⟩⟩
            rw [tf.2.2.2.2.2 v4 i3 (by omega), tf.2.2.2.2.2 (v4 + v2) (by omega) (by omega)]
            refine ⟨fun ne => ⟨by unfold jR; omega, by unfold jR; omega, tell (Or.inr ne) _ (fun M' o t' _ => ⟨by unfold jR; omega, ⟨rfl, rfl, i1, i2, by omega, by omega, by omega, by omega, fun _ => rfl, fun k k0 k1 => by omega, Or.inr (Or.inl ?_), o, t'⟩, by omega⟩)⟩, fun ne => ⟨by unfold jR; omega, by unfold jR; omega, ⟨rfl, rfl, i1, i2, by omega, by omega, by omega, by omega, fun z => by omega, fun k k0 k1 => ?_, ?_, i9, ?_⟩, by omega⟩⟩
            · rw [show v4 + 1 - 0 - 1 = v4 by omega]; exact ne
            · by_cases c : k = v4
              · rw [c]; exact Classical.not_not.mp ne
              · exact i7 k (by omega) (by omega)
            · rcases i8 with z | z | z
              · exact Or.inl (by omega)
              · rw [show v4 + 1 - (v3 + 1) - 1 = v4 - v3 - 1 by omega]; exact Or.inr (Or.inl z)
              · omega
            · rw [show v4 + 1 - (v3 + 1) = v4 - v3 by omega]; exact i10
        · refine ⟨w_truns_t W, c_clear C.2.2.2.2.2.1.2.2.1 (fun N o td _ => ⟨rfl, rfl, by omega, by omega, o, ?_⟩)⟩
          have e : cl L f (bet 1 0) 0 L.toNat = [] := by
            have z : cl L f (bet 1 0) 0 L.toNat = cl L f (fun _ => 0) 0 L.toNat := cl_c _ fun x x0 x1 => by
              rw [bet_ge (by omega), show (1 : Int) = 0 + 1 from rfl, rrow_s (by omega), pif_f (fun z => by have := isRun_b z; omega), List.append_nil]
            rw [z]
            have em : ∀ m : Nat, cl L f (fun _ => 0) 0 m = [] := fun m => by
              induction m with
              | zero => rfl
              | succ m ih =>
                show cl L f (fun _ => 0) 0 m ++ rrow L f _ (0 : Int).toNat = []
                rw [ih]; rfl
            exact em _
          rw [e]; exact td
      refine rn_X11_runs _ _ M (sg_X11_runs_0 _ _ M ?_)
      rw [wa_1200 W]
      refine ⟨wa_t W, w_shelf_t W, c_lkT C A hX ht (fun _ => ⟨fun q => absurd q (by omega), fun _ => ⟨wa_t W, ?_⟩⟩)⟩
      rw [wa_1209 W]
      exact main
    · have W := R.1
      have wt := w_model_t W
      obtain ⟨z1, -, z3, -, -⟩ := r_txt R A ht
      rw [← hL] at z1
      have base : ∀ N1 N l, Lk X M1 N1 → Rof2 X N1 N → RD3 X N 3227 240 241 242 l → RI X N T K P (dset D 2 l) := fun N1 N l lk o rd => (lk.RI R).tl o.tl ((lk.RI R).2.2.2.2.put2 o rd)
      have len : ∀ i p : Int, 0 ≤ i → ((cl L f (fun _ => 241) 0 i.toNat ++ rrow L f i p.toNat).length : Int) ≤ L := fun i p i0 => by
        have a := cl_len (β := fun x => if x < i then 241 else p) u1 hf0 (i.toNat + 1)
        have e : cl L f (fun x => if x < i then 241 else p) 0 (i.toNat + 1) = cl L f (fun _ => 241) 0 i.toNat ++ rrow L f i p.toNat := by
          show cl L f (fun x => if x < i then 241 else p) 0 i.toNat ++ rrow L f (0 + (i.toNat : Int)) (if 0 + (i.toNat : Int) < i then 241 else p).toNat = _
          rw [show (0 : Int) + (i.toNat : Int) = i by omega, if_neg (by omega)]
          congr 1
          exact cl_c _ fun x x0 x1 => by rw [if_pos (show x < i by omega)]
        rw [e] at a
        exact a
      refine lp_X12_runs (fun v0 v1 v2 N => X + 218 = v0 ∧ t = v1 ∧ 0 ≤ v2 ∧ v2 ≤ L ∧ ∃ N1, Lk X M1 N1 ∧ Tbl X N1 L f ∧ Rof2 X N1 N ∧ RD3 X N 3227 240 241 242 (cl L f (fun _ => 241) 0 v2.toNat)) (fun _ _ v2 => ((1000 - v2) * 1000).toNat) (fun v0 v1 v2 v3 N => X + 218 = v0 ∧ t = v1 ∧ 0 ≤ v2 ∧ v2 < L ∧ 1 ≤ v3 ∧ v3 ≤ 200 ∧ ∃ N1, Lk X M1 N1 ∧ Tbl X N1 L f ∧ Rof2 X N1 N ∧ RD3 X N 3227 240 241 242 (cl L f (fun _ => 241) 0 v2.toNat ++ rrow L f v2 v3.toNat)) (fun _ _ v2 v3 => ((1000 - v2) * 1000 - v3).toNat) ?_ ?_ _ _ M1 ?_
      · rintro v0 v1 v2 N ⟨rfl, rfl, i1, i2, N1, lk, tb, o, rd⟩
        have RN := base N1 N _ lk o rd
        have WN := RN.1
        have wn := w_model_t WN
        obtain ⟨y1, -⟩ := r_txt RN (ads _) ht
        rw [← hL] at y1
        rw [w_model_1301 WN, w_m1301_t WN, w_m1301_n WN, y1]
        refine ⟨wn, ⟨rfl, ht.1, z3⟩, fun q => ⟨wn, ?_⟩, fun q => ⟨⟨rfl, rfl, i1, by omega, by omega, by omega, N1, lk, tb, o, ?_⟩, by omega⟩⟩
        · have e : v2 = L := by omega
          subst e
          rw [← hl] at rd RN
          rw [rd.1]
          exact hQ N (lk.FrR.trans (FrR.tl o.tl)) RN
        · rw [show (1 : Int) = 0 + 1 from rfl, rrow_s (by omega), pif_f (fun z => by have := isRun_b z; omega), List.append_nil, show rrow L f v2 (0 : Int).toNat = [] from rfl, List.append_nil]
          exact rd
      · rintro v0 v1 v2 v3 N ⟨rfl, rfl, i1, i2, i3, i4, N1, lk, tb, o, rd⟩
        have RN := base N1 N _ lk o rd
        have AN := ads (cl L f (fun _ => 241) 0 v2.toNat ++ rrow L f v2 v3.toNat)
        have WN := RN.1
        have wn := w_model_t WN
        obtain ⟨y1, -⟩ := r_txt RN AN ht
        rw [← hL] at y1
        have tbN : Tbl X N L f := fun i j i0 i1 j0 j1 => by rw [o _ _ _ (by omega) (by omega)]; exact tb i j i0 i1 j0 j1
        rw [w_model_1301 WN, w_m1301_t WN, w_m1301_n WN, y1]
        refine ⟨by unfold jR; omega, by unfold jR; omega, wn, ⟨rfl, ht.1, z3⟩, fun q => ⟨by unfold jR; omega, ⟨rfl, rfl, by omega, by omega, N1, lk, tb, o, ?_⟩, by omega⟩, fun q => ?_⟩
        · rw [show (v2 + 1).toNat = v2.toNat + 1 by omega]
          show RD3 X N 3227 240 241 242 (cl L f (fun _ => 241) 0 v2.toNat ++ rrow L f (0 + (v2.toNat : Int)) (241 : Int).toNat)
          rw [show (0 : Int) + (v2.toNat : Int) = v2 by omega, ← tail v2 v3 (by omega) (by omega) q]
          exact rd
        · have lv := tbN v2 (v2 + v3) i1 (by omega) (by omega) (by omega)
          rw [show 241 * v2 + (v2 + v3) = 241 * v2 + v2 + v3 by omega] at lv
          rw [w_model_1308 WN, w_m1308_t WN, w_m1308_n WN, lv]
          obtain ⟨c1, c2, c3, c4⟩ := @lcp2_is L L f f v2 (v2 + v3)
          have lr := @lcp2_r L L v2 (v2 + v3) f f (by omega) (by omega)
          have te : tov L f v2 v3 = v2 + v3 + lcp2 L f L f v2 (v2 + v3) := rfl
          obtain ⟨e, he⟩ : ∃ e, e = tov L f v2 v3 := ⟨_, rfl⟩
          rw [← te, ← he]
          rw [← he] at te
          -- not a run: nothing is told
          have skip : ¬ isRun L f v2 v3 → (X + 218 = X + 218 ∧ t = t ∧ 0 ≤ v2 ∧ v2 < L ∧ 1 ≤ v3 + 1 ∧ v3 + 1 ≤ 200 ∧ ∃ N1, Lk X M1 N1 ∧ Tbl X N1 L f ∧ Rof2 X N1 N ∧ RD3 X N 3227 240 241 242 (cl L f (fun _ => 241) 0 v2.toNat ++ rrow L f v2 (v3 + 1).toNat)) := fun z => ⟨rfl, rfl, i1, i2, by omega, by omega, N1, lk, tb, o, by rw [rrow_s (by omega), pif_f z, List.append_nil]; exact rd⟩
          have ln := len v2 (v3 + 1) i1
          have en := rd.1
          have app : isRun L f v2 v3 → ((cl L f (fun _ => 241) 0 v2.toNat ++ rrow L f v2 v3.toNat).length : Int) < 240 ∧ (X + 218 = X + 218 ∧ t = t ∧ 0 ≤ v2 ∧ v2 < L ∧ 1 ≤ v3 + 1 ∧ v3 + 1 ≤ 200 ∧ ∃ N1, Lk X M1 N1 ∧ Tbl X N1 L f ∧ Rof2 X N1 (jset (jset (jset (jset N 2 (X + 240) (N 3227 (X + 218) 0) v2) 2 (X + 241) (N 3227 (X + 218) 0) e) 2 (X + 242) (N 3227 (X + 218) 0) v3) 3227 (X + 218) 0 (N 3227 (X + 218) 0 + 1)) ∧ RD3 X (jset (jset (jset (jset N 2 (X + 240) (N 3227 (X + 218) 0) v2) 2 (X + 241) (N 3227 (X + 218) 0) e) 2 (X + 242) (N 3227 (X + 218) 0) v3) 3227 (X + 218) 0 (N 3227 (X + 218) 0 + 1)) 3227 240 241 242 (cl L f (fun _ => 241) 0 v2.toNat ++ rrow L f v2 (v3 + 1).toNat)) := fun z => by
            rw [rrow_s (by omega), pif_t z, ← he, ← List.append_assoc] at ln ⊢
            rw [len_app1] at ln
            refine ⟨by omega, rfl, rfl, i1, i2, by omega, by omega, N1, lk, tb, o.trans (fun k x j q1 q2 => ?_), ?_⟩
            · rw [show jset (jset (jset (jset N 2 (X + 240) (N 3227 (X + 218) 0) v2) 2 (X + 241) (N 3227 (X + 218) 0) e) 2 (X + 242) (N 3227 (X + 218) 0) v3) 3227 (X + 218) 0 (N 3227 (X + 218) 0 + 1) k x j = _ from if_neg (by omega), show jset (jset (jset N 2 (X + 240) (N 3227 (X + 218) 0) v2) 2 (X + 241) (N 3227 (X + 218) 0) e) 2 (X + 242) (N 3227 (X + 218) 0) v3 k x j = _ from if_neg (by omega), show jset (jset N 2 (X + 240) (N 3227 (X + 218) 0) v2) 2 (X + 241) (N 3227 (X + 218) 0) e k x j = _ from if_neg (by omega)]
              exact if_neg (by omega)
            · rw [en]
              exact rd.app (by decide) (by decide) (by decide) (by decide)
          -- the stretch
          have per : ∀ x, v2 ≤ x → x + v3 < e → f x = f (x + v3) := fun x x0 x1 => by
            have := c3 (x - v2) (by omega) (by omega)
            rw [show v2 + (x - v2) = x by omega, show v2 + v3 + (x - v2) = x + v3 by omega] at this
            exact this
          have fin : e = L ∨ f e ≠ f (e - v3) := by
            by_cases y : e = L
            · exact Or.inl y
            · right
              intro z
              apply c4
              refine ⟨by omega, by omega, ?_⟩
              rw [show v2 + lcp2 L f L f v2 (v2 + v3) = e - v3 by omega, show v2 + v3 + lcp2 L f L f v2 (v2 + v3) = e by omega]
              exact z.symm
          have short : e - v2 < 2 * v3 → ¬ isRun L f v2 v3 := fun y z => by
            have := z.1
            rw [← he] at this
            omega
          have ask : (v2 = 0 ∨ f (v2 - 1) ≠ f (v2 - 1 + v3)) → ¬ e - v2 < 2 * v3 → ∀ Q' : Int → JM → Prop, (∀ r, ((¬ r = v3 → ¬ isRun L f v2 v3) ∧ (r = v3 → isRun L f v2 v3)) → Q' r N) → Runs G 224 0 0 [(1, X + 218), (0, v2), (0, e)] N Q' := fun beg le Q' hq => by
            refine r_least WN ⟨u1, u2⟩ i1 (by omega) (by omega) tbN (fun r r1 r2 r3 r4 => hq r ⟨fun ne z => ?_, fun e' => ?_⟩)
            · have z4 := z.2.2.2.2
              rw [← he] at z4
              rcases Int.lt_trichotomy r v3 with y | y | y
              · obtain ⟨x, x0, x1, x2⟩ := z4 r r1 y
                exact x2 (r3 x x0 x1)
              · exact ne y
              · obtain ⟨x, x0, x1, x2⟩ := r4 v3 i3 y
                exact x2 (per x x0 x1)
            · subst e'
              unfold isRun
              rw [← he]
              exact ⟨⟨i1, by omega, i3, by omega⟩, per, beg, fin, r4⟩
          refine ⟨by unfold jR; omega, wn, by unfold jR; omega, by unfold jR; omega, by unfold jR; omega, ⟨rfl, by omega, by omega⟩, by unfold jR; omega, fun z0 => ⟨fun y => absurd y (by decide), fun _ => ⟨by unfold jR; omega, by unfold jR; omega, fun sh => ⟨by unfold jR; omega, skip (short sh), by omega⟩, fun sh => ⟨wn, ask (Or.inl z0) sh _ (fun r hr _ => ⟨fun ne => ⟨by unfold jR; omega, skip (hr.1 ne), by omega⟩, fun ne => ?_⟩)⟩⟩⟩, fun z0 => ⟨by unfold jR; omega, wn, r_un RN AN ht (by omega) (by omega) (fun _ => ⟨by unfold jR; omega, by unfold jR; omega, wn, r_un RN AN ht (by omega) (by omega) (fun _ => ⟨fun eq => ⟨fun _ => ⟨by unfold jR; omega, skip (fun z => ?_), by omega⟩, fun y => absurd rfl y⟩, fun ne' => ⟨fun y => absurd y (by decide), fun _ => ⟨by unfold jR; omega, by unfold jR; omega, fun sh => ⟨by unfold jR; omega, skip (short sh), by omega⟩, fun sh => ⟨wn, ask (Or.inr (by rw [hf]; exact ne')) sh _ (fun r hr _ => ⟨fun ne => ⟨by unfold jR; omega, skip (hr.1 ne), by omega⟩, fun ne => ?_⟩)⟩⟩⟩⟩)⟩)⟩⟩
          · obtain ⟨p1, p2⟩ := app (hr.2 (Classical.not_not.mp ne))
            rw [w_model_1328 WN, w_m1328_t WN, w_m1328_n WN, w_model_1329 WN, w_m1329_t WN, w_m1329_n WN, w_model_1330 WN, w_m1330_t WN, w_m1330_n WN]
            exact ⟨wn, wn, ⟨rfl, by omega, by omega⟩, wn, wn, ⟨rfl, by omega, by omega⟩, wn, wn, ⟨rfl, by omega, by omega⟩, wn, by unfold jR; omega, wn, by unfold jR; omega, p2, by omega⟩
          · rcases z.2.2.1 with y | y
            · exact z0 y
            · exact y (by rw [hf]; exact eq)
          · obtain ⟨p1, p2⟩ := app (hr.2 (Classical.not_not.mp ne))
            rw [w_model_1328 WN, w_m1328_t WN, w_m1328_n WN, w_model_1329 WN, w_m1329_t WN, w_m1329_n WN, w_model_1330 WN, w_m1330_t WN, w_m1330_n WN]
            exact ⟨wn, wn, ⟨rfl, by omega, by omega⟩, wn, wn, ⟨rfl, by omega, by omega⟩, wn, wn, ⟨rfl, by omega, by omega⟩, wn, by unfold jR; omega, wn, by unfold jR; omega, p2, by omega⟩
      · refine ⟨wt, r_isT R A ht (fun _ => ⟨fun _ => ⟨wt, r_look R.1 R.2.1 A.1 ht ht (fun N lk lv _ => ⟨w_model_t (lk.W W), rfl, rfl, by omega, by omega, N, lk, by rw [hL, hf]; exact lv, fun k a j q1 q2 => if_neg (fun z => q1 ⟨z.1, z.2.1⟩), jset_s, fun k k0 k1 => by have k1 : k < ((0 : Nat) : Int) := k1; omega⟩)⟩, fun z => absurd (by decide) z⟩)⟩
  · refine mk_no (r := -2) C H A ⟨hn0, hn⟩ (fun Q hQ => ?_) (fun M1 Q R hQ => ?_)
    · have W := C.1
      refine rn_X11_runs _ _ M (sg_X11_runs_0 _ _ M ?_)
      repeat' first | rw [wa_1200 W] | (refine c_lkF C A hX ht ?_) | apply And.intro | intro _ | exact wt | exact wa_t W | exact w_shelf_t W | assumption | exact Or.inl rfl | exact Or.inr rfl | rfl | omega | (unfold jR; omega)
    · have W := R.1
      have wt := w_model_t W
      refine lp_X12_runs (fun _ _ _ _ => False) (fun _ _ _ => 0) (fun _ _ _ _ _ => False) (fun _ _ _ _ => 0) (fun _ _ _ _ z => z.elim) (fun _ _ _ _ _ z => z.elim) _ _ M1 ?_
      repeat' first | rw [wa_1200 W] | (refine r_isF R A ht ?_) | apply And.intro | intro _ | exact wt | exact wa_t W | exact w_shelf_t W | assumption | exact Or.inl rfl | exact Or.inr rfl | rfl | omega | (unfold jR; omega)
end RUNS2
