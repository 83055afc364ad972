/-! steps: suffix, rank, lyndon, unique, leastUnique -/
theorem lcp_btw2 {n a p b : Int} {f : Int → Int} (a0 : 0 ≤ a) (a1 : a < n) (p0 : 0 ≤ p) (p1 : p < n) (b0 : 0 ≤ b) (b1 : b < n) (h1 : sls n f a p) (h2 : sls n f p b) : lcp2 n f n f a b ≤ lcp2 n f n f a p := by
  rcases Int.lt_or_le (lcp2 n f n f a p) (lcp2 n f n f a b) with c | c
  · exfalso
    obtain ⟨x1, x2, x3, x4⟩ := @lcp2_is n n f f a b
    obtain ⟨y1, y2, y3, y4⟩ := @lcp2_is n n f f a p
    obtain ⟨d, hd⟩ : ∃ d, d = lcp2 n f n f a p := ⟨_, rfl⟩
    rw [← hd] at c y1 y2 y3 y4
    have ad := x3 d y1 c
    have e : lcp2 n f n f p b = d := lcp2_eq ⟨y1, Or.inr ⟨by omega, by omega⟩, fun k k0 k1 => (y3 k k0 k1).symm.trans (x3 k k0 (by omega)), fun z => y4 ⟨by omega, z.1, by rw [ad]; exact z.2.2.symm⟩⟩
    unfold sls at h1 h2
    rw [← hd] at h1
    rw [e] at h2
    omega
  · exact c
/-- the most that the suffix at i shares with one of S -/
def Mxs (n : Int) (f : Int → Int) (S : Int → Prop) (i c : Int) : Prop := 0 ≤ c ∧ (∀ j, S j → lcp2 n f n f i j ≤ c) ∧ (c = 0 ∨ ∃ j, S j ∧ lcp2 n f n f i j = c)
theorem Mxs_uniq {n i c d : Int} {f : Int → Int} {S : Int → Prop} (h : Mxs n f S i c) (h' : Mxs n f S i d) : c = d := by
  obtain ⟨a1, a2, a3⟩ := h
  obtain ⟨b1, b2, b3⟩ := h'
  have p : c ≤ d := by
    rcases a3 with z | ⟨j, j0, j1⟩
    · omega
    · have := b2 j j0; omega
  have q : d ≤ c := by
    rcases b3 with z | ⟨j, j0, j1⟩
    · omega
    · have := a2 j j0; omega
  omega
def els (n i j : Int) : Prop := 0 ≤ j ∧ j < n ∧ j ≠ i
def elf (fl n i j : Int) : Prop := (fl = 0 ∧ els n i j) ∨ (¬ fl = 0 ∧ 0 ≤ j ∧ j < i)
def UV (n : Int) (f : Int → Int) (i v : Int) : Prop := (i < n ∧ ∃ c, Mxs n f (els n i) i c ∧ v = if i + (c + 1) ≤ n then c + 1 else -1) ∨ (n ≤ i ∧ v = -1)
theorem UV_uniq {n i v w : Int} {f : Int → Int} (h : UV n f i v) (h' : UV n f i w) : v = w := by
  rcases h with ⟨_, c, c1, c2⟩ | h
  · rcases h' with ⟨_, d, d1, d2⟩ | h'
    · rw [c2, d2, Mxs_uniq c1 d1]
    · omega
  · rcases h' with ⟨_, d, d1, d2⟩ | h'
    · omega
    · rw [h.2, h'.2]
/-- next ones in the order share the most -/
theorem alone_ok {n i : Int} {f od sh : Int → Int} (hf : ∀ k, 0 ≤ k → k < n → 0 ≤ f k) (ho : ∀ j, 0 ≤ j → j < n → od (rk n f j) = j) (hs : ∀ j, 0 ≤ j → j < n → sh (rk n f j) = if rk n f j = 0 then 0 else lcp2 n f n f (od (rk n f j - 1)) j) (i0 : 0 ≤ i) (i1 : i < n) : Mxs n f (els n i) i (max (sh (rk n f i)) (if rk n f i + 1 < n then sh (rk n f i + 1) else 0)) := by
  have ir := rk_r (f := f) i0 i1
  have pp := rk_prm (n := n) (f := f) (by omega) hf
  have pre : rk n f i ≠ 0 → ∃ p, 0 ≤ p ∧ p < n ∧ rk n f p + 1 = rk n f i ∧ sh (rk n f i) = lcp2 n f n f i p := fun z => by
    obtain ⟨p, p0, p1, p2⟩ := pp.2.2 (rk n f i - 1) (by omega) (by omega)
    refine ⟨p, p0, p1, by omega, ?_⟩
    rw [hs i i0 i1, if_neg z, ← p2, ho p p0 p1]; exact lcp_sym
  have suc : rk n f i + 1 < n → ∃ p, 0 ≤ p ∧ p < n ∧ rk n f p = rk n f i + 1 ∧ sh (rk n f i + 1) = lcp2 n f n f i p := fun z => by
    obtain ⟨p, p0, p1, p2⟩ := pp.2.2 (rk n f i + 1) (by omega) (by omega)
    refine ⟨p, p0, p1, p2, ?_⟩
    have := hs p p0 p1
    rw [p2, if_neg (by omega), show rk n f i + 1 - 1 = rk n f i by omega, ho i i0 i1] at this
    exact this
  have a0 : rk n f i = 0 → sh (rk n f i) = 0 := fun z => by rw [hs i i0 i1, if_pos z]
  have s0 : 0 ≤ sh (rk n f i) := by
    by_cases z : rk n f i = 0
    · rw [a0 z]; omega
    · obtain ⟨p, p0, p1, p2, p3⟩ := pre z
      rw [p3]; exact (lcp2_r (by omega) (by omega)).1
  refine ⟨by omega, fun j hj => ?_, ?_⟩
  · obtain ⟨j0, j1, j2⟩ := hj
    rcases sls_tot hf j0 j1 i0 i1 j2 with c | c
    · have k := (rk_iff hf j0 j1 i0 i1).mpr c
      have jr := rk_r (f := f) j0 j1
      obtain ⟨p, p0, p1, p2, p3⟩ := pre (by omega)
      have : lcp2 n f n f i j ≤ sh (rk n f i) := by
        rw [p3, lcp_sym, @lcp_sym n i p f]
        by_cases z : rk n f j = rk n f p
        · rw [rk_inj hf j0 j1 p0 p1 z]; omega
        · exact lcp_btw j0 j1 p0 p1 i0 i1 ((rk_iff hf j0 j1 p0 p1).mp (by omega)) ((rk_iff hf p0 p1 i0 i1).mp (by omega))
      omega
    · have k := (rk_iff hf i0 i1 j0 j1).mpr c
      have jr := rk_r (f := f) j0 j1
      obtain ⟨p, p0, p1, p2, p3⟩ := suc (by omega)
      have : lcp2 n f n f i j ≤ sh (rk n f i + 1) := by
        rw [p3]
        by_cases z : rk n f j = rk n f p
        · rw [rk_inj hf j0 j1 p0 p1 z]; omega
        · exact lcp_btw2 i0 i1 p0 p1 j0 j1 ((rk_iff hf i0 i1 p0 p1).mp (by omega)) ((rk_iff hf p0 p1 j0 j1).mp (by omega))
      rw [if_pos (show rk n f i + 1 < n by omega)]
      omega
  · obtain ⟨m, hm⟩ : ∃ m, m = (if rk n f i + 1 < n then sh (rk n f i + 1) else 0) := ⟨_, rfl⟩
    rw [← hm]
    rcases Int.le_total m (sh (rk n f i)) with c | c
    · rw [show max (sh (rk n f i)) m = sh (rk n f i) by omega]
      by_cases z : rk n f i = 0
      · exact Or.inl (a0 z)
      · obtain ⟨p, p0, p1, p2, p3⟩ := pre z
        exact Or.inr ⟨p, ⟨p0, p1, fun e => by rw [e] at p2; omega⟩, p3.symm⟩
    · rw [show max (sh (rk n f i)) m = m by omega]
      by_cases z : rk n f i + 1 < n
      · obtain ⟨p, p0, p1, p2, p3⟩ := suc z
        rw [if_pos z] at hm
        exact Or.inr ⟨p, ⟨p0, p1, fun e => by rw [e] at p2; omega⟩, by rw [hm]; exact p3.symm⟩
      · rw [if_neg z] at hm
        exact Or.inl hm
/-- less than all ahead of it -/
def isR (n : Int) (f : Int → Int) (j : Int) : Prop := ∀ i, 0 ≤ i → i < j → sls n f j i
def LyR (n : Int) (f : Int → Int) (k r : Int) : Prop := (0 ≤ r ∧ r < n ∧ isR n f r ∧ cntI (isR n f) r = k) ∨ (r = -1 ∧ ∀ i, 0 ≤ i → i < n → isR n f i → cntI (isR n f) i ≠ k)
theorem LyR_uniq {n k r q : Int} {f : Int → Int} (h : LyR n f k r) (h' : LyR n f k q) : r = q := by
  rcases h with ⟨a1, a2, a3, a4⟩ | h
  · rcases h' with ⟨b1, b2, b3, b4⟩ | h'
    · rcases Int.lt_trichotomy r q with c | c | c
      · have := cntI_step a1 c a3; omega
      · exact c
      · have := cntI_step b1 c b3; omega
    · exact absurd a4 (h'.2 r a1 a2 a3)
  · rcases h' with ⟨b1, b2, b3, b4⟩ | h'
    · exact absurd b4 (h.2 q b1 b2 b3)
    · rw [h.1, h'.1]
theorem UV_r {n i v : Int} {f : Int → Int} (h : UV n f i v) : v = -1 ∨ 1 ≤ v := by
  rcases h with ⟨_, c, c1, c2⟩ | h
  · have := c1.1
    by_cases z : i + (c + 1) ≤ n
    · rw [if_pos z] at c2; omega
    · rw [if_neg z] at c2; omega
  · exact Or.inl h.2
def lUp (n : Int) (f : Int → Int) (i : Int) : Prop := ∃ v, UV n f i v ∧ v ≠ -1 ∧ (v ≤ 1 ∨ ∀ w, UV n f (i + 1) w → w = -1 ∨ v ≤ w)
section SUFST
variable {G : JG} {X : Int}
section SUFA
variable {Q : Int → JM → Prop} {M : JM} {n t : Int} {T : ATx} {K : AKp} {P : ATx} {D : ADt}
theorem c_sufOf (C : CB X n M T K P D) (H : CH X M T) (A : AI T K P D) (hX : 0 < X) (ht : 0 ≤ t ∧ t < T.1) (h : ∀ M', FrC X M M' → CB X n M' T K P D → CH X M' T → M' 1212 X 0 = M 1212 X 0 → M' 1213 X 0 = M 1213 X 0 → (∀ (k : Nat) (b j : Int), ¬ (X + 144 ≤ b ∧ b ≤ X + 154) → M' k b j = M k b j) → M' 2810 (X + 144) 0 = T.2.1 t → SOk M' (X + 150) (X + 151) (X + 154) (T.2.1 t) (T.2.2 t) → Q (X + 144) M') : Runs G 167 0 0 [(1, X), (0, t)] M Q := by
  have W := C.1
  refine rn_X11_suffixesOf _ _ M (sg_X11_suffixesOf_0 _ _ M ?_)
  rw [wa_1201 W, wa_1200 W]
  refine ⟨wa_t W, wa_t W, w_suf_t W, c_hold C H A hX ht (fun M' f c h' e1 e2 fr s so _ => ?_)⟩
  rw [wa_1201 c.1]
  exact ⟨wa_t c.1, h M' f c h' e1 e2 fr s so⟩
/-- what the kept suffixes say -/
theorem so_in {L : Int} {f : Int → Int} {N : JM} (so : SOk N (X + 150) (X + 151) (X + 154) L f) : (∀ i, 0 ≤ i → i < L → N 2 (X + 151) i = rk L f i) ∧ (∀ i, 0 ≤ i → i < L → N 2 (X + 150) (rk L f i) = i) ∧ ∀ i, 0 ≤ i → i < L → N 2 (X + 154) (rk L f i) = if rk L f i = 0 then 0 else lcp2 L f L f (N 2 (X + 150) (rk L f i - 1)) i := so
theorem c_alone {L i : Int} {f : Int → Int} (S : Sx M (X + 144) 240) (hs : M 2810 (X + 144) 0 = L) (hL : 0 ≤ L ∧ L ≤ 240) (hf : ∀ k, 0 ≤ k → k < L → 0 ≤ f k) (so : SOk M (X + 150) (X + 151) (X + 154) L f) (i0 : 0 ≤ i) (i1 : i ≤ L) (h : ∀ v, UV L f i v → Q v M) : Runs G 76 0 0 [(1, X + 144), (0, i)] M Q := by
  have e7 : X + 144 + 7 = X + 151 := by omega
  have e10 : X + 144 + 10 = X + 154 := by omega
  refine rn_X8_aloneFrom _ _ M (sg_X8_aloneFrom_0 _ _ M ?_)
  refine ⟨S.tt, c_rkOf S hs (by omega) i0 (fun _ => ?_)⟩
  rw [e7]
  by_cases c : i < L
  · have kr := rk_r (f := f) i0 c
    rw [if_pos c, so.1 i i0 c]
    have sat : ∀ (r : Int) (Q' : Int → JM → Prop), 0 ≤ r → Q' (if r < L then M 2 (X + 154) r else 0) M → Runs G 71 0 0 [(1, X + 144), (0, r)] M Q' := fun r Q' r0 hq => by
      refine rn_X8_sharedAt _ _ M (sg_X8_sharedAt_0 _ _ M ?_)
      rw [hs, S.f9, S.t10, S.n10, e10]
      by_cases d : r < L
      · rw [if_pos d] at hq
        exact ⟨fun z => absurd z (by omega), fun _ => ⟨S.tt, fun z => absurd z (by omega), fun _ => ⟨S.tt, ⟨rfl, r0, by omega⟩, hq⟩⟩⟩
      · rw [if_neg d] at hq
        exact ⟨fun z => absurd z (by omega), fun _ => ⟨S.tt, fun _ => hq, fun z => absurd (by omega) z⟩⟩
    have al := alone_ok (od := M 2 (X + 150)) (sh := M 2 (X + 154)) hf so.2.1 so.2.2 i0 c
    refine ⟨fun _ => ⟨S.tt, sat _ _ kr.1 (fun _ => ⟨by unfold jR; omega, S.tt, sat _ _ (by omega) (fun _ => ?_)⟩)⟩, fun z => absurd (by omega) z⟩
    rw [if_pos kr.2, hs]
    obtain ⟨m, hm⟩ : ∃ m, m = max (M 2 (X + 154) (rk L f i)) (if rk L f i + 1 < L then M 2 (X + 154) (rk L f i + 1) else 0) := ⟨_, rfl⟩
    rw [← hm] at al ⊢
    have mb : m ≤ 240 := by
      rcases al.2.2 with z | ⟨j, j0, j1⟩
      · omega
      · have := @lcp2_r L L i j f f (by omega) (by have := j0.2.1; omega); omega
    have m0 := al.1
    refine ⟨by unfold jR; omega, S.tt, by unfold jR; omega, fun z => h _ (Or.inl ⟨c, m, al, ?_⟩), fun z => h _ (Or.inl ⟨c, m, al, ?_⟩)⟩
    · rw [if_neg (by omega)]
    · rw [if_pos (by omega)]
  · rw [if_neg c]
    exact ⟨fun z => absurd rfl z, fun _ => h _ (Or.inr ⟨by omega, rfl⟩)⟩
end SUFA
section SUFR
variable {Q : Int → JM → Prop} {M : JM} {t : Int} {T : ATx} {K : AKp} {P : ATx} {D : ADt} {L : Int} {f : Int → Int}
/-- the table of what is shared -/
def Tbl (X : Int) (M : JM) (L : Int) (f : Int → Int) : Prop := ∀ i j, 0 ≤ i → i ≤ L → 0 ≤ j → j ≤ L → M 2 (X + 225) (241 * i + j) = lcp2 L f L f i j
theorem r_less {i j : Int} (R : RI X M T K P D) (A : AI T K P D) (ht : 0 ≤ t ∧ t < T.1) (hL : L = T.2.1 t) (hf : f = T.2.2 t) (tb : Tbl X M L f) (i0 : 0 ≤ i) (i1 : i < L) (j0 : 0 ≤ j) (j1 : j < L) (h1 : sls L f i j → Q 1 M) (h0 : ¬ sls L f i j → Q 0 M) : Runs G 197 0 0 [(1, X + 218), (0, t), (0, i), (0, j)] M Q := by
  have W := R.1
  have wt := w_model_t W
  obtain ⟨z1, -, z3, z4, z5⟩ := r_txt R A ht
  rw [← hL] at z1 z4 z5
  refine rn_X12_isLess _ _ _ _ M (sg_X12_isLess_0 _ _ _ _ M ?_)
  rw [w_model_1308 W, w_m1308_t W, w_m1308_n W, w_model_1301 W, w_m1301_t W, w_m1301_n W, z1, tb i j i0 (by omega) j0 (by omega)]
  have r := @lcp2_r L L i j f f (by omega) (by omega)
  unfold sls at h1 h0
  refine ⟨wt, by unfold jR; omega, by unfold jR; omega, ⟨rfl, by omega, by omega⟩, by unfold jR; omega, wt, ⟨rfl, ht.1, z3⟩, fun c => ⟨by unfold jR; omega, wt, ⟨rfl, ht.1, z3⟩, fun d => ⟨Or.inl rfl, h0 (by omega)⟩, fun d => ⟨by unfold jR; omega, wt, r_un R A ht (by omega) (by omega) (fun _ => ⟨by unfold jR; omega, wt, r_un R A ht (by omega) (by omega) (fun _ => ?_)⟩)⟩⟩, fun c => ⟨by unfold jR; omega, wt, ⟨rfl, ht.1, z3⟩, fun d => ⟨Or.inl rfl, h0 (by omega)⟩, fun d => ⟨Or.inr rfl, h1 (by omega)⟩⟩⟩
  rw [← hf]
  exact ⟨fun e => ⟨Or.inl rfl, h0 (by omega)⟩, fun e => ⟨Or.inr rfl, h1 (by omega)⟩⟩
theorem r_rank {i : Int} (R : RI X M T K P D) (A : AI T K P D) (ht : 0 ≤ t ∧ t < T.1) (hL : L = T.2.1 t) (hf : f = T.2.2 t) (tb : Tbl X M L f) (i0 : 0 ≤ i) (i1 : i < L) (h : Q (rk L f i) M) : Runs G 199 0 0 [(1, X + 218), (0, t), (0, i)] M Q := by
  have W := R.1
  have wt := w_model_t W
  obtain ⟨z1, -, z3, z4, z5⟩ := r_txt R A ht
  rw [← hL] at z1 z4 z5
  refine lp_X12_rankOf (fun v0 v1 v2 v3 v4 N => M = N ∧ X + 218 = v0 ∧ t = v1 ∧ i = v2 ∧ v3 = cntI (fun j => sls L f j i) v4 ∧ 0 ≤ v4 ∧ v4 ≤ L) (fun _ _ _ _ v4 => (1000 - v4).toNat) ?_ _ _ _ M ⟨rfl, rfl, rfl, rfl, by rw [cntI_z (by omega)], by omega, by omega⟩
  rintro v0 v1 v2 v3 v4 N ⟨rfl, rfl, rfl, rfl, rfl, k1, k2⟩
  rw [w_model_1301 W, w_m1301_t W, w_m1301_n W, z1]
  have cr := @cntI_r (fun j => sls L f j i) v4 k1
  refine ⟨wt, ⟨rfl, ht.1, z3⟩, fun q => ?_, fun q => ⟨fun e => ⟨by unfold jR; omega, by unfold jR; omega, ⟨rfl, rfl, rfl, rfl, ?_, by omega, by omega⟩, by omega⟩, fun e => ⟨wt, r_less R A ht hL hf tb k1 (by omega) i0 i1 (fun s _ => ⟨fun z => absurd z (by decide), fun _ => ⟨by unfold jR; omega, by unfold jR; omega, ⟨rfl, rfl, rfl, rfl, ?_, by omega, by omega⟩, by omega⟩⟩) (fun s _ => ⟨fun _ => ⟨by unfold jR; omega, by unfold jR; omega, ⟨rfl, rfl, rfl, rfl, ?_, by omega, by omega⟩, by omega⟩, fun z => absurd rfl z⟩)⟩⟩⟩
  · have : v4 = L := by omega
    subst this
    exact h
  · rw [e, cntI_f (p := fun j => sls L f j i) i0 (fun s => sls_asym s s)]; omega
  · rw [cntI_t (p := fun j => sls L f j i) k1 s]
  · rw [cntI_f (p := fun j => sls L f j i) k1 s]; omega
def Ox (X : Int) (M M' : JM) : Prop := ∀ (k : Nat) (a j : Int), ¬ (k = 2 ∧ (a = X + 225 ∨ a = X + 226)) → M' k a j = M k a j
theorem Ox.RI {N : JM} (o : Ox X M N) (R : RI X M T K P D) : RI X N T K P D := R.keep (R.1.keep fun k a j _ _ hk => o k a j (by omega)) fun k a j q => o k a j (by unfold fpR at q; omega)
theorem Ox.FrR {N : JM} (o : Ox X M N) : FrR X M N := fun k a j q => o k a j (by omega)
theorem Lk.Ox {N : JM} (o : Lk X M N) : Ox X M N := fun k a j q => o k a j (by omega)
theorem r_orders (R : RI X M T K P D) (A : AI T K P D) (ht : 0 ≤ t ∧ t < T.1) (hL : L = T.2.1 t) (hf : f = T.2.2 t) (h : ∀ M', Ox X M M' → RI X M' T K P D → Tbl X M' L f → (∀ i, 0 ≤ i → i < L → M' 2 (X + 226) (rk L f i) = i) → Q 0 M') : Runs G 198 0 0 [(1, X + 218), (0, t)] M Q := by
  have W := R.1
  obtain ⟨u1, u2, u3⟩ := A.1.2.2 t ht.1 ht.2
  rw [← hL] at u1 u2
  rw [← hL, ← hf] at u3
  have hf0 : ∀ k, 0 ≤ k → k < L → 0 ≤ f k := fun k k0 k1 => (u3 k k0 k1).1
  refine lp_X12_orders (fun v0 v1 v2 N => X + 218 = v0 ∧ t = v1 ∧ 0 ≤ v2 ∧ v2 ≤ L ∧ Ox X M N ∧ Tbl X N L f ∧ ∀ i, 0 ≤ i → i < v2 → N 2 (X + 226) (rk L f i) = i) (fun _ _ v2 => (1000 - v2).toNat) ?_ _ _ M ?_
  · rintro v0 v1 v2 N ⟨rfl, rfl, i1, i2, i3, i4, i5⟩
    have RN := i3.RI R
    have WN := RN.1
    have wn := w_model_t WN
    obtain ⟨z1, -, z3, -, -⟩ := r_txt RN A ht
    rw [← hL] at z1
    rw [w_model_1301 WN, w_m1301_t WN, w_m1301_n WN, z1, w_model_1309 WN]
    refine ⟨wn, ⟨rfl, ht.1, z3⟩, fun q => h N i3 RN i4 (fun i i0 i1 => i5 i i0 (by omega)), fun q => ⟨wn, wn, r_rank RN A ht hL hf i4 i1 (by omega) (fun _ => ?_)⟩⟩
    rw [w_m1309_t WN, w_m1309_n WN]
    have kr := rk_r (f := f) i1 (show v2 < L by omega)
    refine ⟨⟨rfl, kr.1, by omega⟩, by unfold jR; omega, ⟨rfl, rfl, by omega, by omega, fun k a j q => ?_, fun i j i0 i1 j0 j1 => ?_, fun i i0 i1 => ?_⟩, by omega⟩
    · rw [show jset N 2 (X + 226) (rk L f v2) v2 k a j = _ from if_neg (fun z => q ⟨z.1, Or.inr z.2.1⟩)]; exact i3 k a j q
    · rw [jset_a (by omega)]; exact i4 i j i0 i1 j0 j1
    · by_cases hi : i = v2
      · rw [hi, jset_s]
      · rw [jset_j (fun z => hi (rk_inj hf0 i0 (by omega) (by omega) (by omega) z))]; exact i5 i i0 (by omega)
  · exact ⟨w_model_t W, r_look R.1 R.2.1 A.1 ht ht (fun M2 lk lv _ => ⟨rfl, rfl, by omega, by omega, lk.Ox, by rw [hL, hf]; exact lv, fun i i0 i1 => by omega⟩)⟩
theorem r_else {i fl : Int} (R : RI X M T K P D) (A : AI T K P D) (ht : 0 ≤ t ∧ t < T.1) (hL : L = T.2.1 t) (tb : Tbl X M L f) (i0 : 0 ≤ i) (i1 : i < L) (h : ∀ c, Mxs L f (elf fl L i) i c → c + i ≤ L → Q c M) : Runs G 236 0 0 [(1, X + 218), (0, t), (0, i), (0, fl)] M Q := by
  have W := R.1
  have wt := w_model_t W
  obtain ⟨z1, -, z3, z4, z5⟩ := r_txt R A ht
  rw [← hL] at z1 z4 z5
  refine lp_X12_elsewhere (fun v0 v1 v2 v3 v4 v5 N => M = N ∧ X + 218 = v0 ∧ t = v1 ∧ i = v2 ∧ fl = v3 ∧ 0 ≤ v5 ∧ v5 ≤ L ∧ (¬ fl = 0 → v5 ≤ i) ∧ 0 ≤ v4 ∧ v4 + i ≤ L ∧ (∀ j, 0 ≤ j → j < v5 → j ≠ i → lcp2 L f L f i j ≤ v4) ∧ (v4 = 0 ∨ ∃ j, 0 ≤ j ∧ j < v5 ∧ j ≠ i ∧ lcp2 L f L f i j = v4)) (fun _ _ _ _ _ v5 => (1000 - v5).toNat) ?_ _ _ _ _ M ⟨rfl, rfl, rfl, rfl, rfl, by omega, by omega, fun _ => i0, by omega, by omega, fun j j0 j1 _ => by omega, Or.inl rfl⟩
  rintro v0 v1 v2 v3 v4 v5 N ⟨rfl, rfl, rfl, rfl, rfl, k1, k2, k3, k4, k5, k6, k7⟩
  rw [w_model_1301 W, w_m1301_t W, w_m1301_n W, z1, w_model_1308 W, w_m1308_t W, w_m1308_n W]
  have go : v5 < L → (¬ fl = 0 → v5 < i) → ((v5 = i → jR (v5 + 1) ∧ (M = M ∧ X + 218 = X + 218 ∧ t = t ∧ i = i ∧ fl = fl ∧ 0 ≤ v5 + 1 ∧ v5 + 1 ≤ L ∧ (¬ fl = 0 → v5 + 1 ≤ i) ∧ 0 ≤ v4 ∧ v4 + i ≤ L ∧ (∀ j, 0 ≤ j → j < v5 + 1 → j ≠ i → lcp2 L f L f i j ≤ v4) ∧ (v4 = 0 ∨ ∃ j, 0 ≤ j ∧ j < v5 + 1 ∧ j ≠ i ∧ lcp2 L f L f i j = v4)) ∧ (1000 - (v5 + 1)).toNat < (1000 - v5).toNat) ∧ (¬ v5 = i → M 0 (X + 218) 0 = 22 ∧ jR (241 * i) ∧ jR ((241 * i) + v5) ∧ ((1 : Int) = 1 ∧ (0 : Int) ≤ ((241 * i) + v5) ∧ ((241 * i) + v5) < 58081) ∧ (((M 2 (X + 225) ((241 * i) + v5)) ≤ v4 → jR (v5 + 1) ∧ (M = M ∧ X + 218 = X + 218 ∧ t = t ∧ i = i ∧ fl = fl ∧ 0 ≤ v5 + 1 ∧ v5 + 1 ≤ L ∧ (¬ fl = 0 → v5 + 1 ≤ i) ∧ 0 ≤ v4 ∧ v4 + i ≤ L ∧ (∀ j, 0 ≤ j → j < v5 + 1 → j ≠ i → lcp2 L f L f i j ≤ v4) ∧ (v4 = 0 ∨ ∃ j, 0 ≤ j ∧ j < v5 + 1 ∧ j ≠ i ∧ lcp2 L f L f i j = v4)) ∧ (1000 - (v5 + 1)).toNat < (1000 - v5).toNat) ∧ (¬ (M 2 (X + 225) ((241 * i) + v5)) ≤ v4 → M 0 (X + 218) 0 = 22 ∧ jR (241 * i) ∧ jR ((241 * i) + v5) ∧ ((1 : Int) = 1 ∧ (0 : Int) ≤ ((241 * i) + v5) ∧ ((241 * i) + v5) < 58081) ∧ jR (v5 + 1) ∧ (M = M ∧ X + 218 = X + 218 ∧ t = t ∧ i = i ∧ fl = fl ∧ 0 ≤ v5 + 1 ∧ v5 + 1 ≤ L ∧ (¬ fl = 0 → v5 + 1 ≤ i) ∧ 0 ≤ M 2 (X + 225) ((241 * i) + v5) ∧ M 2 (X + 225) ((241 * i) + v5) + i ≤ L ∧ (∀ j, 0 ≤ j → j < v5 + 1 → j ≠ i → lcp2 L f L f i j ≤ M 2 (X + 225) ((241 * i) + v5)) ∧ (M 2 (X + 225) ((241 * i) + v5) = 0 ∨ ∃ j, 0 ≤ j ∧ j < v5 + 1 ∧ j ≠ i ∧ lcp2 L f L f i j = M 2 (X + 225) ((241 * i) + v5))) ∧ (1000 - (v5 + 1)).toNat < (1000 - v5).toNat)))) := fun c1 c2 => by
    have r := @lcp2_r L L i v5 f f (by omega) (by omega)
    rw [tb i v5 i0 (by omega) k1 (by omega)]
    refine ⟨fun e => ⟨by unfold jR; omega, ⟨rfl, rfl, rfl, rfl, rfl, by omega, by omega, fun z => by have := c2 z; omega, k4, k5, fun j j0 j1 j2 => k6 j j0 (by omega) j2, k7.imp id fun ⟨j, a, b, c⟩ => ⟨j, a, by omega, c⟩⟩, by omega⟩, fun e => ⟨wt, by unfold jR; omega, by unfold jR; omega, ⟨rfl, by omega, by omega⟩, fun le => ⟨by unfold jR; omega, ⟨rfl, rfl, rfl, rfl, rfl, by omega, by omega, fun z => by have := c2 z; omega, k4, k5, fun j j0 j1 j2 => ?_, k7.imp id fun ⟨j, a, b, c⟩ => ⟨j, a, by omega, c⟩⟩, by omega⟩, fun le => ⟨wt, by unfold jR; omega, by unfold jR; omega, ⟨rfl, by omega, by omega⟩, by unfold jR; omega, ⟨rfl, rfl, rfl, rfl, rfl, by omega, by omega, fun z => by have := c2 z; omega, r.1, by omega, fun j j0 j1 j2 => ?_, Or.inr ⟨v5, k1, by omega, e, rfl⟩⟩, by omega⟩⟩⟩
    · by_cases hj : j = v5
      · rw [hj]; exact le
      · exact k6 j j0 (by omega) j2
    · by_cases hj : j = v5
      · rw [hj]; exact Int.le_refl _
      · have := k6 j j0 (by omega) j2; omega
  refine ⟨fun q => ⟨wt, ⟨rfl, ht.1, z3⟩, fun q2 => h v4 ⟨k4, fun j hj => ?_, ?_⟩ k5, fun q2 => go (by omega) (fun z => absurd q z)⟩, fun q => ⟨fun q2 => h v4 ⟨k4, fun j hj => ?_, ?_⟩ k5, fun q2 => go (by omega) (fun _ => by omega)⟩⟩
  · rcases hj with ⟨_, hj⟩ | hj
    · exact k6 j hj.1 (by have := hj.2.1; omega) hj.2.2
    · exact absurd q hj.1
  · exact k7.imp id fun ⟨j, a, b, c, d⟩ => ⟨j, Or.inl ⟨q, a, by omega, c⟩, d⟩
  · rcases hj with hj | ⟨_, hj⟩
    · exact absurd hj.1 q
    · exact k6 j hj.1 (by omega) (by omega)
  · exact k7.imp id fun ⟨j, a, b, c, d⟩ => ⟨j, Or.inr ⟨q, a, by have := k3 q; omega⟩, d⟩
theorem r_uniq {i : Int} (R : RI X M T K P D) (A : AI T K P D) (ht : 0 ≤ t ∧ t < T.1) (hL : L = T.2.1 t) (tb : Tbl X M L f) (i0 : 0 ≤ i) (i1 : i < L) (h : ∀ v, UV L f i v → Q v M) : Runs G 239 0 0 [(1, X + 218), (0, t), (0, i)] M Q := by
  have W := R.1
  have wt := w_model_t W
  obtain ⟨z1, -, z3, z4, z5⟩ := r_txt R A ht
  rw [← hL] at z1 z4 z5
  refine rn_X12_uniqueFrom _ _ _ M (sg_X12_uniqueFrom_0 _ _ _ M ?_)
  refine ⟨wt, r_else (f := f) R A ht hL tb i0 i1 (fun c hc cl _ => ?_)⟩
  rw [w_model_1301 W, w_m1301_t W, w_m1301_n W, z1]
  have m : Mxs L f (els L i) i c := ⟨hc.1, fun j hj => hc.2.1 j (Or.inl ⟨rfl, hj⟩), hc.2.2.imp id fun ⟨j, a, b⟩ => ⟨j, (a.resolve_right (fun z => z.1 rfl)).2, b⟩⟩
  have c0 := hc.1
  exact ⟨by unfold jR; omega, by unfold jR; omega, wt, ⟨rfl, ht.1, z3⟩, fun z => h _ (Or.inl ⟨i1, c, m, by rw [if_pos z]⟩), fun z => h _ (Or.inl ⟨i1, c, m, by rw [if_neg z]⟩)⟩
end SUFR
theorem st_suffix (t k : Int) : JSt (IV X) 3072 G X 124 200 [(0, t), (0, k)] := mk_rl fun n M T K P D C H A hX => by
  by_cases ht : 0 ≤ t ∧ t < T.1
  · obtain ⟨u1, u2, u3⟩ := A.1.2.2 t ht.1 ht.2
    obtain ⟨L, hL⟩ : ∃ L, L = T.2.1 t := ⟨_, rfl⟩
    obtain ⟨f, hf⟩ : ∃ f, f = T.2.2 t := ⟨_, rfl⟩
    rw [← hL] at u1 u2
    rw [← hL, ← hf] at u3
    have hf0 : ∀ k, 0 ≤ k → k < L → 0 ≤ f k := fun k k0 k1 => (u3 k k0 k1).1
    refine ⟨fun r => if 0 ≤ k ∧ k < L then 0 ≤ r ∧ r < L ∧ rk L f r = k else r = -1, fun Q hQ => ?_, ?_⟩
    · have W := C.1
      refine rn_X11_suffix _ _ _ M (sg_X11_suffix_0 _ _ _ M ?_)
      rw [wa_1200 W]
      refine ⟨wa_t W, w_shelf_t W, c_lkT C A hX ht (fun _ => ⟨fun q => absurd q (by omega), fun _ => ⟨wa_t W, c_sufOf C H A hX ht (fun N fr c h' e1 e2 _ s so _ => ?_)⟩⟩)⟩
      have S := sx_one c.1
      rw [← hL] at s
      rw [← hL, ← hf] at so
      refine ⟨S.tt, rn_X8_placeOf _ _ N (sg_X8_placeOf_0 _ _ N ?_)⟩
      rw [s, S.f5, S.t6, S.n6, show X + 144 + 6 = X + 150 by omega]
      refine ⟨fun z _ => hQ _ N (by dsimp only; rw [if_neg (by omega)]) fr c h' e1 e2, fun z => ⟨S.tt, fun z2 _ => hQ _ N (by dsimp only; rw [if_neg (by omega)]) fr c h' e1 e2, fun z2 => ⟨S.tt, ⟨rfl, by omega, by omega⟩, fun _ => hQ _ N ?_ fr c h' e1 e2⟩⟩⟩
      obtain ⟨i, i0, i1, i2⟩ := (rk_prm u1 hf0).2.2 k (by omega) (by omega)
      rw [if_pos (by omega), ← i2, so.2.1 i i0 i1]
      exact ⟨i0, i1, rfl⟩
    · rintro M1 Q r hr R hQ
      have W := R.1
      have wt := w_model_t W
      obtain ⟨z1, -, z3, -, -⟩ := r_txt R A ht
      rw [← hL] at z1
      refine rn_X12_suffix _ _ _ M1 (sg_X12_suffix_0 _ _ _ M1 ?_)
      refine ⟨wt, r_isT R A ht (fun _ => ⟨fun _ => ?_, fun z => absurd (by decide) z⟩)⟩
      rw [w_model_1301 W, w_m1301_t W, w_m1301_n W, z1]
      refine ⟨wt, ⟨rfl, ht.1, z3⟩, by unfold jR; omega, r_in (fun k1 k2 _ => ⟨fun _ => ⟨wt, r_orders R A ht hL hf (fun N o RN tb od _ => ?_)⟩, fun z => absurd (by decide) z⟩) (fun z _ => ⟨fun y => absurd rfl y, fun _ => ?_⟩)⟩
      · rw [if_pos ⟨k1, by omega⟩] at hr
        have WN := RN.1
        rw [w_model_1309 WN, w_m1309_t WN, w_m1309_n WN]
        have e := od r hr.1 hr.2.1
        rw [hr.2.2] at e
        rw [e]
        exact ⟨w_model_t WN, ⟨rfl, k1, by omega⟩, hQ N o.FrR RN⟩
      · rw [if_neg (by omega)] at hr
        subst hr
        exact hQ M1 (FrR.refl X M1) R
  · refine ⟨fun r => r = -2, fun Q hQ => ?_, ?_⟩
    · have hQ := hQ (-2) M rfl (FrC.refl X M) C H rfl rfl
      have W := C.1
      refine rn_X11_suffix _ _ _ M (sg_X11_suffix_0 _ _ _ M ?_)
      repeat' first | rw [wa_1200 W] | (refine c_lkF C A hX ht ?_) | apply And.intro | intro _ | exact wt | exact wa_t W | exact w_shelf_t W | assumption | exact Or.inl rfl | exact Or.inr rfl | rfl | omega | (unfold jR; omega)
    · rintro M1 Q r rfl R hQ
      have hQ := hQ M1 (FrR.refl X M1) R
      have W := R.1
      have wt := w_model_t W
      refine rn_X12_suffix _ _ _ M1 (sg_X12_suffix_0 _ _ _ M1 ?_)
      repeat' first | rw [wa_1200 W] | (refine r_isF R A ht ?_) | apply And.intro | intro _ | exact wt | exact wa_t W | exact w_shelf_t W | assumption | exact Or.inl rfl | exact Or.inr rfl | rfl | omega | (unfold jR; omega)
theorem st_rank (t i : Int) : JSt (IV X) 3072 G X 125 201 [(0, t), (0, i)] := mk_rl fun n M T K P D C H A hX => by
  by_cases hv : 0 ≤ t ∧ t < T.1 ∧ 0 ≤ i ∧ i < T.2.1 t
  · have ht : 0 ≤ t ∧ t < T.1 := ⟨hv.1, hv.2.1⟩
    obtain ⟨u1, u2, u3⟩ := A.1.2.2 t ht.1 ht.2
    refine ⟨fun r => r = rk (T.2.1 t) (T.2.2 t) i, fun Q hQ => ?_, ?_⟩
    · have W := C.1
      obtain ⟨TT, e1, e2, e3, e4, -⟩ := c_txt C A ht
      refine rn_X11_rank _ _ _ M (sg_X11_rank_0 _ _ _ M ?_)
      rw [wa_1200 W]
      refine ⟨wa_t W, w_shelf_t W, c_lkT C A hX ht (fun _ => ⟨fun q => absurd q (by omega), fun _ => ⟨e4, c_hasPlace TT (fun _ _ _ => ⟨fun _ => ⟨wa_t W, c_sufOf C H A hX ht (fun N fr c h' q1 q2 _ s so _ => ?_)⟩, fun z => absurd (by decide) z⟩) (fun z => absurd ⟨hv.2.2.1, by rw [e1]; exact hv.2.2.2⟩ z)⟩⟩)⟩
      have S := sx_one c.1
      refine ⟨S.tt, c_rkOf S s (by omega) hv.2.2.1 (fun _ => hQ _ N ?_ fr c h' q1 q2)⟩
      rw [if_pos hv.2.2.2, show X + 144 + 7 = X + 151 by omega]
      exact so.1 i hv.2.2.1 hv.2.2.2
    · rintro M1 Q r rfl R hQ
      have W := R.1
      have wt := w_model_t W
      refine rn_X12_rank _ _ _ M1 (sg_X12_rank_0 _ _ _ M1 ?_)
      refine ⟨wt, r_isPlace R.1 R.2.1 A.1 (fun _ _ _ _ _ => ⟨fun _ => ⟨wt, r_look R.1 R.2.1 A.1 ht ht (fun N lk lv _ => ⟨w_model_t (lk.W W), r_rank (lk.RI R) A ht rfl rfl lv hv.2.2.1 hv.2.2.2 (fun _ => hQ N lk.FrR (lk.RI R))⟩)⟩, fun z => absurd (by decide) z⟩) (fun z => absurd hv z)⟩
  · refine ⟨fun r => r = -2, fun Q hQ => ?_, ?_⟩
    · have hQ := hQ (-2) M rfl (FrC.refl X M) C H rfl rfl
      have W := C.1
      refine rn_X11_rank _ _ _ M (sg_X11_rank_0 _ _ _ M ?_)
      rw [wa_1200 W]
      by_cases ht : 0 ≤ t ∧ t < T.1
      · obtain ⟨TT, e1, e2, e3, e4, -⟩ := c_txt C A ht
        exact ⟨wa_t W, w_shelf_t W, c_lkT C A hX ht (fun _ => ⟨fun _ => hQ, fun _ => ⟨e4, c_hasPlace TT (fun q1 q2 => absurd ⟨ht.1, ht.2, q1, by rw [e1] at q2; exact q2⟩ hv) (fun _ _ => ⟨fun z => absurd rfl z, fun _ => hQ⟩)⟩⟩)⟩
      · exact ⟨wa_t W, w_shelf_t W, c_lkF C A hX ht (fun _ => ⟨fun _ => hQ, fun z => absurd rfl z⟩)⟩
    · rintro M1 Q r rfl R hQ
      have hQ := hQ M1 (FrR.refl X M1) R
      have wt := w_model_t R.1
      refine rn_X12_rank _ _ _ M1 (sg_X12_rank_0 _ _ _ M1 ?_)
      exact ⟨wt, r_isPlace R.1 R.2.1 A.1 (fun q1 q2 q3 q4 => absurd ⟨q1, q2, q3, q4⟩ hv) (fun _ _ => ⟨fun z => absurd rfl z, fun _ => hQ⟩)⟩
theorem st_unique (t i : Int) : JSt (IV X) 3072 G X 148 240 [(0, t), (0, i)] := mk_rl fun n M T K P D C H A hX => by
  by_cases hv : 0 ≤ t ∧ t < T.1 ∧ 0 ≤ i ∧ i < T.2.1 t
  · have ht : 0 ≤ t ∧ t < T.1 := ⟨hv.1, hv.2.1⟩
    obtain ⟨u1, u2, u3⟩ := A.1.2.2 t ht.1 ht.2
    refine ⟨fun r => UV (T.2.1 t) (T.2.2 t) i r, fun Q hQ => ?_, ?_⟩
    · have W := C.1
      obtain ⟨TT, e1, e2, e3, e4, -⟩ := c_txt C A ht
      refine rn_X11_unique _ _ _ M (sg_X11_unique_0 _ _ _ M ?_)
      rw [wa_1200 W]
      exact ⟨wa_t W, w_shelf_t W, c_lkT C A hX ht (fun _ => ⟨fun q => absurd q (by omega), fun _ => ⟨e4, c_hasPlace TT (fun _ _ _ => ⟨fun _ => ⟨wa_t W, c_sufOf C H A hX ht (fun N fr c h' q1 q2 _ s so _ => ⟨(sx_one c.1).tt, c_alone (sx_one c.1) s ⟨u1, u2⟩ (fun k k0 k1 => (u3 k k0 k1).1) so hv.2.2.1 (by omega) (fun v hv' _ => hQ v N hv' fr c h' q1 q2)⟩)⟩, fun z => absurd (by decide) z⟩) (fun z => absurd ⟨hv.2.2.1, by rw [e1]; exact hv.2.2.2⟩ z)⟩⟩)⟩
    · rintro M1 Q r hr R hQ
      have W := R.1
      have wt := w_model_t W
      refine rn_X12_unique _ _ _ M1 (sg_X12_unique_0 _ _ _ M1 ?_)
      refine ⟨wt, r_isPlace R.1 R.2.1 A.1 (fun _ _ _ _ _ => ⟨fun _ => ⟨wt, r_look R.1 R.2.1 A.1 ht ht (fun N lk lv _ => ⟨w_model_t (lk.W W), r_uniq (lk.RI R) A ht rfl lv hv.2.2.1 hv.2.2.2 (fun v hv' _ => ?_)⟩)⟩, fun z => absurd (by decide) z⟩) (fun z => absurd hv z)⟩
      rw [UV_uniq hv' hr]
      exact hQ N lk.FrR (lk.RI R)
  · refine ⟨fun r => r = -2, fun Q hQ => ?_, ?_⟩
    · have hQ := hQ (-2) M rfl (FrC.refl X M) C H rfl rfl
      have W := C.1
      refine rn_X11_unique _ _ _ M (sg_X11_unique_0 _ _ _ M ?_)
      rw [wa_1200 W]
      by_cases ht : 0 ≤ t ∧ t < T.1
      · obtain ⟨TT, e1, e2, e3, e4, -⟩ := c_txt C A ht
        exact ⟨wa_t W, w_shelf_t W, c_lkT C A hX ht (fun _ => ⟨fun _ => hQ, fun _ => ⟨e4, c_hasPlace TT (fun q1 q2 => absurd ⟨ht.1, ht.2, q1, by rw [e1] at q2; exact q2⟩ hv) (fun _ _ => ⟨fun z => absurd rfl z, fun _ => hQ⟩)⟩⟩)⟩
      · exact ⟨wa_t W, w_shelf_t W, c_lkF C A hX ht (fun _ => ⟨fun _ => hQ, fun z => absurd rfl z⟩)⟩
    · rintro M1 Q r rfl R hQ
      have hQ := hQ M1 (FrR.refl X M1) R
      have wt := w_model_t R.1
      refine rn_X12_unique _ _ _ M1 (sg_X12_unique_0 _ _ _ M1 ?_)
      exact ⟨wt, r_isPlace R.1 R.2.1 A.1 (fun q1 q2 q3 q4 => absurd ⟨q1, q2, q3, q4⟩ hv) (fun _ _ => ⟨fun z => absurd rfl z, fun _ => hQ⟩)⟩
theorem st_leastUnique (t : Int) : JSt (IV X) 3072 G X 149 241 [(0, t)] := mk_rl fun n M T K P D C H A hX => by
  by_cases ht : 0 ≤ t ∧ t < T.1
  · obtain ⟨u1, u2, u3⟩ := A.1.2.2 t ht.1 ht.2
    obtain ⟨L, hL⟩ : ∃ L, L = T.2.1 t := ⟨_, rfl⟩
    obtain ⟨f, hf⟩ : ∃ f, f = T.2.2 t := ⟨_, rfl⟩
    rw [← hL] at u1 u2
    rw [← hL, ← hf] at u3
    have hf0 : ∀ k, 0 ≤ k → k < L → 0 ≤ f k := fun k k0 k1 => (u3 k k0 k1).1
    have tk : ∀ i v w, UV L f i v → UV L f (i + 1) w → (lUp L f i ↔ v ≠ -1 ∧ (w = -1 ∨ v ≤ w)) := fun i v w h1 h2 => by
      constructor
      · rintro ⟨v', a, b, c⟩
        rw [UV_uniq h1 a]
        refine ⟨b, ?_⟩
        rcases c with c | c
        · have := UV_r h2; omega
        · exact c w h2
      · exact fun c => ⟨v, h1, c.1, Or.inr fun w' h' => by rw [UV_uniq h' h2]; exact c.2⟩
    have tk1 : ∀ i v, UV L f i v → v ≤ 1 → (lUp L f i ↔ v ≠ -1) := fun i v h1 le => ⟨fun ⟨v', a, b, c⟩ => by rw [UV_uniq h1 a]; exact b, fun c => ⟨v, h1, c, Or.inl le⟩⟩
    refine ⟨fun r => r = cntI (lUp L f) L, fun Q hQ => ?_, ?_⟩
    · have W := C.1
      refine rn_X11_leastUnique _ _ M (sg_X11_leastUnique_0 _ _ M ?_)
      rw [wa_1200 W]
      refine ⟨wa_t W, w_shelf_t W, c_lkT C A hX ht (fun _ => ⟨fun q => absurd q (by omega), fun _ => ⟨wa_t W, c_sufOf C H A hX ht (fun N fr c h' e1 e2 _ s so _ => ?_)⟩⟩)⟩
      have S := sx_one c.1
      rw [← hL] at s
      rw [← hL, ← hf] at so
      refine ⟨S.tt, lp_X8_leastAlone (fun v0 v1 v2 N' => N = N' ∧ X + 144 = v0 ∧ v1 = cntI (lUp L f) v2 ∧ 0 ≤ v2 ∧ v2 ≤ L) (fun _ _ v2 => (1000 - v2).toNat) ?_ _ N ⟨rfl, rfl, by rw [cntI_z (by omega)], by omega, by omega⟩⟩
      rintro v0 v1 v2 N' ⟨rfl, rfl, rfl, i1, i2⟩
      rw [s]
      have cr := @cntI_r (lUp L f) v2 i1
      refine ⟨S.tt, fun q _ => ?_, fun q => ⟨S.tt, c_alone S s ⟨u1, u2⟩ hf0 so i1 (by omega) (fun v hv _ => ⟨by unfold jR; omega, S.tt, c_alone S s ⟨u1, u2⟩ hf0 so (by omega) (by omega) (fun w hw _ => ?_)⟩)⟩⟩
      · have : v2 = L := by omega
        subst this
        exact hQ _ N rfl fr c h' e1 e2
      · have k := tk v2 v w hv hw
        refine ⟨fun z => ⟨by unfold jR; omega, ⟨rfl, rfl, ?_, by omega, by omega⟩, by omega⟩, fun z => ⟨fun y => ⟨by unfold jR; omega, by unfold jR; omega, ⟨rfl, rfl, ?_, by omega, by omega⟩, by omega⟩, fun y => ⟨fun x => ⟨by unfold jR; omega, ⟨rfl, rfl, ?_, by omega, by omega⟩, by omega⟩, fun x => ⟨by unfold jR; omega, by unfold jR; omega, ⟨rfl, rfl, ?_, by omega, by omega⟩, by omega⟩⟩⟩⟩
        · rw [cntI_f i1 (fun y => (k.mp y).1 z)]
        · rw [cntI_t i1 (k.mpr ⟨z, Or.inl y⟩)]
        · rw [cntI_f i1 (fun u => by have := (k.mp u).2; omega)]
        · rw [cntI_t i1 (k.mpr ⟨z, Or.inr (by omega)⟩)]
    · rintro M1 Q r rfl R hQ
      have W := R.1
      have wt := w_model_t W
      refine lp_X12_leastUnique (fun v0 v1 v2 v3 N => X + 218 = v0 ∧ t = v1 ∧ v2 = cntI (lUp L f) v3 ∧ 0 ≤ v3 ∧ v3 ≤ L ∧ Lk X M1 N ∧ Tbl X N L f) (fun _ _ _ v3 => (1000 - v3).toNat) ?_ _ _ M1 ⟨wt, r_isT R A ht (fun _ => ⟨fun _ => ⟨wt, r_look R.1 R.2.1 A.1 ht ht (fun N lk lv _ => ⟨rfl, rfl, by rw [cntI_z (by omega)], by omega, by omega, lk, by rw [hL, hf]; exact lv⟩)⟩, fun z => absurd (by decide) z⟩)⟩
      rintro v0 v1 v2 v3 N ⟨rfl, rfl, rfl, i1, i2, i3, i4⟩
      have RN := i3.RI R
      have WN := RN.1
      have wn := w_model_t WN
      obtain ⟨z1, -, z3, -, -⟩ := r_txt RN A ht
      rw [← hL] at z1
      rw [w_model_1301 WN, w_m1301_t WN, w_m1301_n WN, z1]
      have cr := @cntI_r (lUp L f) v3 i1
      refine ⟨wn, ⟨rfl, ht.1, z3⟩, fun q => ?_, fun q => ⟨wn, r_uniq RN A ht hL i4 i1 (by omega) (fun v hv _ => ⟨fun le => ?_, fun le => ?_⟩)⟩⟩
      · have : v3 = L := by omega
        subst this
        exact hQ N i3.FrR RN
      · have k := tk1 v3 v hv le
        refine ⟨fun z => ⟨by unfold jR; omega, by unfold jR; omega, ⟨rfl, rfl, ?_, by omega, by omega, i3, i4⟩, by omega⟩, fun z => ⟨fun _ => ⟨by unfold jR; omega, by unfold jR; omega, ⟨rfl, rfl, ?_, by omega, by omega, i3, i4⟩, by omega⟩, fun y => absurd rfl y⟩⟩
        · rw [cntI_f i1 (fun u => k.mp u z)]; omega
        · rw [cntI_t i1 (k.mpr z)]
      · have vb : v3 + v ≤ L := by
          rcases hv with ⟨_, c, c1, c2⟩ | h'
          · by_cases z : v3 + (c + 1) ≤ L
            · rw [if_pos z] at c2; omega
            · rw [if_neg z] at c2; omega
          · omega
        refine ⟨by unfold jR; omega, wn, r_uniq RN A ht hL i4 (by omega) (by omega) (fun w hw _ => ?_)⟩
        have k := tk v3 v w hv hw
        refine ⟨fun z => absurd z (by omega), fun z => ⟨fun y => ⟨by unfold jR; omega, by unfold jR; omega, ⟨rfl, rfl, ?_, by omega, by omega, i3, i4⟩, by omega⟩, fun y => ⟨by unfold jR; omega, fun x => ⟨by unfold jR; omega, by unfold jR; omega, ⟨rfl, rfl, ?_, by omega, by omega, i3, i4⟩, by omega⟩, fun x => ⟨by unfold jR; omega, by unfold jR; omega, ⟨rfl, rfl, ?_, by omega, by omega, i3, i4⟩, by omega⟩⟩⟩⟩
        · rw [cntI_t i1 (k.mpr ⟨z, Or.inl y⟩)]
        · rw [cntI_f i1 (fun u => by have := (k.mp u).2; omega)]; omega
        · rw [cntI_t i1 (k.mpr ⟨z, Or.inr (by omega)⟩)]
  · refine ⟨fun r => r = -2, fun Q hQ => ?_, ?_⟩
    · have hQ := hQ (-2) M rfl (FrC.refl X M) C H rfl rfl
      have W := C.1
      refine rn_X11_leastUnique _ _ M (sg_X11_leastUnique_0 _ _ M ?_)
      repeat' first | rw [wa_1200 W] | (refine c_lkF C A hX ht ?_) | apply And.intro | intro _ | exact wt | exact wa_t W | exact w_shelf_t W | assumption | exact Or.inl rfl | exact Or.inr rfl | rfl | omega | (unfold jR; omega)
    · rintro M1 Q r rfl R hQ
      have hQ := hQ M1 (FrR.refl X M1) R
      have W := R.1
      have wt := w_model_t W
      refine lp_X12_leastUnique (fun _ _ _ _ _ => False) (fun _ _ _ _ => 0) (fun _ _ _ _ _ g => g.elim) _ _ M1 ?_
      repeat' first | rw [wa_1200 W] | (refine r_isF R A ht ?_) | apply And.intro | intro _ | exact wt | exact wa_t W | exact w_shelf_t W | assumption | exact Or.inl rfl | exact Or.inr rfl | rfl | omega | (unfold jR; omega)
end SUFST
