/-! texts that are not there, by counting -/
section ABS1
variable {n : Int} {f : Int → Int}
/-- the first place of what N units begin there -/
def FO (n : Int) (f : Int → Int) (N x : Int) : Prop := x + N ≤ n ∧ ∀ j, 0 ≤ j → j < x → ¬ ∀ d, 0 ≤ d → d < N → f (j + d) = f (x + d)
/-- how many different texts of N units are there that begin with the first m of w -/
noncomputable def Dn (n : Int) (f : Int → Int) (N : Int) (w : Int → Int) (m : Int) : Int := cntI (fun x => FO n f N x ∧ ∀ d, 0 ≤ d → d < m → f (x + d) = w d) (n + 1)
def wud (w : Int → Int) (m v : Int) : Int → Int := fun d => if d = m then v else w d
theorem wud_s {w : Int → Int} {m v : Int} : wud w m v m = v := if_pos rfl
theorem wud_o {w : Int → Int} {m v d : Int} (h : d ≠ m) : wud w m v d = w d := if_neg h
theorem fo_of {N x : Int} : ∀ k : Nat, x ≤ k → 0 ≤ x → x + N ≤ n → ∃ y, 0 ≤ y ∧ y ≤ x ∧ FO n f N y ∧ ∀ d, 0 ≤ d → d < N → f (y + d) = f (x + d) := by
  intro k
  induction k generalizing x with
  | zero =>
    intro h1 h2 h3
    exact ⟨x, h2, Int.le_refl _, ⟨h3, fun j j0 j1 => by omega⟩, fun _ _ _ => rfl⟩
  | succ k ih =>
    intro h1 h2 h3
    rcases Classical.em (∃ j, 0 ≤ j ∧ j < x ∧ ∀ d, 0 ≤ d → d < N → f (j + d) = f (x + d)) with c | c
    · obtain ⟨j, j0, j1, j2⟩ := c
      obtain ⟨y, y0, y1, y2, y3⟩ := ih (x := j) (by omega) j0 (by omega)
      exact ⟨y, y0, by omega, y2, fun d d0 d1 => (y3 d d0 d1).trans (j2 d d0 d1)⟩
    · exact ⟨x, h2, Int.le_refl _, ⟨h3, fun j j0 j1 z => c ⟨j, j0, j1, z⟩⟩, fun _ _ _ => rfl⟩
def kpw (k : Int) : Nat → Int
  | 0 => 1
  | e + 1 => kpw k e * k
theorem kpw_pos {k : Int} (h : 1 ≤ k) : ∀ e, 1 ≤ kpw k e
  | 0 => Int.le_refl 1
  | e + 1 => by
    have := kpw_pos h e
    show 1 ≤ kpw k e * k
    have := Int.mul_le_mul this h (by omega) (by omega)
    omega
theorem smI_full {g : Int → Int} {c : Int} : ∀ k : Nat, (∀ i : Int, 0 ≤ i → i < k → g i ≤ c) → (smI g (k : Int) = c * k ↔ ∀ i : Int, 0 ≤ i → i < k → g i = c)
  | 0, _ => ⟨fun _ i i0 i1 => by omega, fun _ => by rw [smI_z (by omega)]; show (0 : Int) = c * ((0 : Nat) : Int); rw [show ((0 : Nat) : Int) = 0 from rfl, Int.mul_zero]⟩
  | k + 1, h => by
    have ih := smI_full (g := g) (c := c) k (fun i i0 i1 => h i i0 (by omega))
    have ub : smI g (k : Int) ≤ c * k := smI_ub (by omega) (fun i i0 i1 => h i i0 (by omega))
    have hk := h k (by omega) (by omega)
    have e : smI g ((k + 1 : Nat) : Int) = smI g k + g k := by rw [show ((k + 1 : Nat) : Int) = (k : Int) + 1 by omega, smI_s (by omega)]
    have e2 : c * ((k + 1 : Nat) : Int) = c * k + c := by rw [show ((k + 1 : Nat) : Int) = (k : Int) + 1 by omega, Int.mul_add, Int.mul_one]
    rw [e, e2]
    constructor
    · intro z i i0 i1
      have z1 : smI g (k : Int) = c * k := by omega
      by_cases q : i = k
      · rw [q]; omega
      · exact ih.mp z1 i i0 (by omega)
    · intro z
      have := ih.mpr (fun i i0 i1 => z i i0 (by omega))
      have := z k (by omega) (by omega)
      omega
theorem Dn_split {N k m : Int} {g w : Int → Int} (L : LT n f k g) (hn : 0 ≤ n) (m0 : 0 ≤ m) (hm : m < N) : Dn n f N w m = smI (fun a => Dn n f N (wud w m (g a)) (m + 1)) k := by
  unfold Dn cntI
  rw [← sm_swapI (g := fun x a => b01 (FO n f N x ∧ ∀ d, 0 ≤ d → d < m + 1 → f (x + d) = wud w m (g a) d)) (by omega)]
  refine smI_c fun x x0 x1 => ?_
  rcases Classical.em (FO n f N x ∧ ∀ d, 0 ≤ d → d < m → f (x + d) = w d) with c | c
  · obtain ⟨a, a0, a1, a2⟩ := L.2.2.2 (x + m) (by omega) (by have := c.1.1; omega)
    rw [b01_t c]
    have e : smI (fun b => b01 (FO n f N x ∧ ∀ d, 0 ≤ d → d < m + 1 → f (x + d) = wud w m (g b) d)) k = smI (fun b => if a = b then 1 else 0) k := smI_c fun b b0 b1 => by
      by_cases q : a = b
      · rw [if_pos q, b01_t]
        refine ⟨c.1, fun d d0 d1 => ?_⟩
        by_cases r : d = m
        · rw [r, wud_s, ← q, a2]
        · rw [wud_o r]; exact c.2 d d0 (by omega)
      · rw [if_neg q, b01_f]
        intro z
        have := z.2 m m0 (by omega)
        rw [wud_s, ← a2] at this
        exact q ((L.inj a0 a1 b0 b1).2 this)
    rw [e]
    exact (sm_oneI (g := fun _ => 1) a0 a1).symm
  · rw [b01_f c]
    have e : smI (fun b => b01 (FO n f N x ∧ ∀ d, 0 ≤ d → d < m + 1 → f (x + d) = wud w m (g b) d)) k = smI (fun _ => 0) k := smI_c fun b b0 b1 => b01_f fun z => c ⟨z.1, fun d d0 d1 => by
      have := z.2 d d0 (by omega)
      rw [wud_o (by omega)] at this
      exact this⟩
    rw [e, smI_0I]
/-- all texts that begin with the first m of w are there -/
def Oext (n : Int) (f : Int → Int) (N : Int) (w : Int → Int) (m : Int) : Prop := ∀ v, Ov n f v N → (∀ d, 0 ≤ d → d < m → v d = w d) → Oc n f v N
theorem Dn_full {N k : Int} {g : Int → Int} (L : LT n f k g) (hn : 0 ≤ n) : ∀ (e : Nat) (m : Int) (w : Int → Int), 0 ≤ m → m + e = N → Ov n f w m → Dn n f N w m ≤ kpw k e ∧ (Dn n f N w m = kpw k e ↔ Oext n f N w m) := by
  intro e
  induction e with
  | zero =>
    intro m w m0 hm hw
    have em : m = N := by omega
    subst em
    rcases Classical.em (Oc n f w m) with c | c
    · obtain ⟨x, x0, x1, x2⟩ := c
      obtain ⟨y, y0, y1, y2, y3⟩ := fo_of (f := f) x.toNat (by omega) x0 x1
      have one : Dn n f m w m = 1 := by
        have c1 := cnt_is (r := y) y0 (show y < n + 1 by have := y2.1; omega)
        refine Eq.trans ?_ c1
        refine cntI_c fun z z0 z1 => ⟨fun q => ?_, fun q => ?_⟩
        · rcases Int.lt_trichotomy z y with r | r | r
          · exact absurd (fun d d0 d1 => by rw [q.2 d d0 d1, y3 d d0 d1, x2 d d0 d1]) (y2.2 z z0 r)
          · exact r
          · exact absurd (fun d d0 d1 => by rw [q.2 d d0 d1, y3 d d0 d1, x2 d d0 d1]) (q.1.2 y y0 r)
        · rw [q]; exact ⟨y2, fun d d0 d1 => (y3 d d0 d1).trans (x2 d d0 d1)⟩
      rw [one]
      exact ⟨Int.le_refl 1, fun _ v _ hv => ⟨x, x0, x1, fun d d0 d1 => by rw [x2 d d0 d1, hv d d0 d1]⟩, fun _ => rfl⟩
    · have z : Dn n f m w m ≤ 0 := (cntI_none (by omega)).mpr fun x x0 x1 q => c ⟨x, x0, q.1.1, q.2⟩
      have z2 : 0 ≤ Dn n f m w m := (cntI_r (by omega)).1
      refine ⟨by show _ ≤ (1 : Int); omega, fun q => ?_, fun q => absurd (q w hw (fun _ _ _ => rfl)) c⟩
      have q : Dn n f m w m = 1 := q
      omega
  | succ e ih =>
    intro m w m0 hm hw
    rw [Dn_split L hn m0 (by omega)]
    have ov : ∀ a, 0 ≤ a → a < k → Ov n f (wud w m (g a)) (m + 1) := fun a a0 a1 d d0 d1 => by
      by_cases c : d = m
      · rw [c, wud_s]; exact L.2.2.1 a a0 a1
      · rw [wud_o c]; exact hw d d0 (by omega)
    have t : ∀ a, 0 ≤ a → a < k → Dn n f N (wud w m (g a)) (m + 1) ≤ kpw k e ∧ (Dn n f N (wud w m (g a)) (m + 1) = kpw k e ↔ Oext n f N (wud w m (g a)) (m + 1)) := fun a a0 a1 => ih (m + 1) _ (by omega) (by omega) (ov a a0 a1)
    have k0 := L.1.1
    refine ⟨smI_ub k0 (fun a a0 a1 => (t a a0 a1).1), ?_⟩
    have fu := smI_full (g := fun a => Dn n f N (wud w m (g a)) (m + 1)) (c := kpw k e) k.toNat (fun a a0 a1 => (t a a0 (by omega)).1)
    rw [show (k.toNat : Int) = k by omega] at fu
    show smI (fun a => Dn n f N (wud w m (g a)) (m + 1)) k = kpw k e * k ↔ _
    rw [fu]
    constructor
    · intro z v hv hp
      obtain ⟨x, x0, x1, x2⟩ := hv m m0 (by omega)
      obtain ⟨a, a0, a1, a2⟩ := L.2.2.2 x x0 x1
      refine ((t a a0 a1).2.mp (z a a0 a1)) v hv (fun d d0 d1 => ?_)
      by_cases c : d = m
      · rw [c, wud_s, a2, x2]
      · rw [wud_o c]; exact hp d d0 (by omega)
    · intro z a a0 a1
      refine (t a a0 a1).2.mpr (fun v hv hp => z v hv (fun d d0 d1 => ?_))
      rw [hp d d0 (by omega), wud_o (by omega)]
/-- what the reference compares -/
theorem Dn_less {N k m : Int} {g w : Int → Int} (L : LT n f k g) (hn : 0 ≤ n ∧ n ≤ 240) (m0 : 0 ≤ m) (hm : m ≤ N) (hw : Ov n f w m) : (Dn n f N w m < min (kpw k (N - m).toNat) 1000 ↔ ¬ Oext n f N w m) ∧ 0 ≤ Dn n f N w m ∧ Dn n f N w m ≤ n + 1 := by
  obtain ⟨h1, h2⟩ := Dn_full (N := N) L hn.1 (N - m).toNat m w m0 (by omega) hw
  have r := cntI_r (p := fun x => FO n f N x ∧ ∀ d, 0 ≤ d → d < m → f (x + d) = w d) (n := n + 1) (by omega)
  have r : 0 ≤ Dn n f N w m ∧ Dn n f N w m ≤ n + 1 := r
  refine ⟨⟨fun z y => ?_, fun z => ?_⟩, r⟩
  · have := h2.mpr y
    omega
  · have : Dn n f N w m ≠ kpw k (N - m).toNat := fun y => z (h2.mp y)
    omega
theorem Dn_c {N m : Int} {w v : Int → Int} (h : ∀ d, 0 ≤ d → d < m → w d = v d) : Dn n f N w m = Dn n f N v m := cntI_c fun x _ _ => ⟨fun z => ⟨z.1, fun d d0 d1 => (z.2 d d0 d1).trans (h d d0 d1)⟩, fun z => ⟨z.1, fun d d0 d1 => (z.2 d d0 d1).trans (h d d0 d1).symm⟩⟩
theorem Oext_c {N m : Int} {w v : Int → Int} (h : ∀ d, 0 ≤ d → d < m → w d = v d) (z : Oext n f N w m) : Oext n f N v m := fun u hu hp => z u hu (fun d d0 d1 => (hp d d0 d1).trans (h d d0 d1).symm)
end ABS1
