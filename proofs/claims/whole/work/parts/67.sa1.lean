/-! the suffixes: how they are put in order -/
def Sx (M : JM) (a cap : Int) : Prop := (M 0 a 0 = 18 ∧ M 902 a 0 = a + 1 ∧ M 903 a 0 = a + 2 ∧ M 904 a 0 = a + 3 ∧ M 900 a 0 = a + 4 ∧ M 901 a 0 = a + 5 ∧ M 905 a 0 = a + 6 ∧ M 906 a 0 = a + 7 ∧ M 907 a 0 = a + 8 ∧ M 908 a 0 = a + 9 ∧ M 909 a 0 = a + 10) ∧ (M 0 (a + 1) 0 = 1 ∧ M 0 (a + 2) 0 = 1 ∧ M 0 (a + 3) 0 = 1 ∧ M 0 (a + 4) 0 = 1 ∧ M 0 (a + 5) 0 = 1 ∧ M 0 (a + 6) 0 = 1 ∧ M 0 (a + 7) 0 = 1 ∧ M 0 (a + 8) 0 = 1 ∧ M 0 (a + 9) 0 = 1 ∧ M 0 (a + 10) 0 = 1) ∧ (M 1 (a + 1) 0 = 40 ∧ M 1 (a + 2) 0 = 40 ∧ M 1 (a + 3) 0 = 40 ∧ M 1 (a + 4) 0 = cap ∧ M 1 (a + 5) 0 = cap ∧ M 1 (a + 6) 0 = cap ∧ M 1 (a + 7) 0 = cap ∧ M 1 (a + 8) 0 = cap ∧ M 1 (a + 9) 0 = max cap 512 ∧ M 1 (a + 10) 0 = cap) ∧ 1 ≤ cap ∧ cap ≤ 10000
section SXP
variable {M M' : JM} {a cap : Int}
theorem Sx.tt (S : Sx M a cap) : M 0 a 0 = 18 := S.1.1
theorem Sx.f2 (S : Sx M a cap) : M 902 a 0 = a + 1 := S.1.2.1
theorem Sx.f3 (S : Sx M a cap) : M 903 a 0 = a + 2 := S.1.2.2.1
theorem Sx.f4 (S : Sx M a cap) : M 904 a 0 = a + 3 := S.1.2.2.2.1
theorem Sx.f0 (S : Sx M a cap) : M 900 a 0 = a + 4 := S.1.2.2.2.2.1
theorem Sx.f1 (S : Sx M a cap) : M 901 a 0 = a + 5 := S.1.2.2.2.2.2.1
theorem Sx.f5 (S : Sx M a cap) : M 905 a 0 = a + 6 := S.1.2.2.2.2.2.2.1
theorem Sx.f6 (S : Sx M a cap) : M 906 a 0 = a + 7 := S.1.2.2.2.2.2.2.2.1
theorem Sx.f7 (S : Sx M a cap) : M 907 a 0 = a + 8 := S.1.2.2.2.2.2.2.2.2.1
theorem Sx.f8 (S : Sx M a cap) : M 908 a 0 = a + 9 := S.1.2.2.2.2.2.2.2.2.2.1
theorem Sx.f9 (S : Sx M a cap) : M 909 a 0 = a + 10 := S.1.2.2.2.2.2.2.2.2.2.2
theorem Sx.t1 (S : Sx M a cap) : M 0 (a + 1) 0 = 1 := S.2.1.1
theorem Sx.t2 (S : Sx M a cap) : M 0 (a + 2) 0 = 1 := S.2.1.2.1
theorem Sx.t3 (S : Sx M a cap) : M 0 (a + 3) 0 = 1 := S.2.1.2.2.1
theorem Sx.t4 (S : Sx M a cap) : M 0 (a + 4) 0 = 1 := S.2.1.2.2.2.1
theorem Sx.t5 (S : Sx M a cap) : M 0 (a + 5) 0 = 1 := S.2.1.2.2.2.2.1
theorem Sx.t6 (S : Sx M a cap) : M 0 (a + 6) 0 = 1 := S.2.1.2.2.2.2.2.1
theorem Sx.t7 (S : Sx M a cap) : M 0 (a + 7) 0 = 1 := S.2.1.2.2.2.2.2.2.1
theorem Sx.t8 (S : Sx M a cap) : M 0 (a + 8) 0 = 1 := S.2.1.2.2.2.2.2.2.2.1
theorem Sx.t9 (S : Sx M a cap) : M 0 (a + 9) 0 = 1 := S.2.1.2.2.2.2.2.2.2.2.1
theorem Sx.t10 (S : Sx M a cap) : M 0 (a + 10) 0 = 1 := S.2.1.2.2.2.2.2.2.2.2.2
theorem Sx.n1 (S : Sx M a cap) : M 1 (a + 1) 0 = 40 := S.2.2.1.1
theorem Sx.n2 (S : Sx M a cap) : M 1 (a + 2) 0 = 40 := S.2.2.1.2.1
theorem Sx.n3 (S : Sx M a cap) : M 1 (a + 3) 0 = 40 := S.2.2.1.2.2.1
theorem Sx.n4 (S : Sx M a cap) : M 1 (a + 4) 0 = cap := S.2.2.1.2.2.2.1
theorem Sx.n5 (S : Sx M a cap) : M 1 (a + 5) 0 = cap := S.2.2.1.2.2.2.2.1
theorem Sx.n6 (S : Sx M a cap) : M 1 (a + 6) 0 = cap := S.2.2.1.2.2.2.2.2.1
theorem Sx.n7 (S : Sx M a cap) : M 1 (a + 7) 0 = cap := S.2.2.1.2.2.2.2.2.2.1
theorem Sx.n8 (S : Sx M a cap) : M 1 (a + 8) 0 = cap := S.2.2.1.2.2.2.2.2.2.2.1
theorem Sx.n9 (S : Sx M a cap) : M 1 (a + 9) 0 = max cap 512 := S.2.2.1.2.2.2.2.2.2.2.2.1
theorem Sx.n10 (S : Sx M a cap) : M 1 (a + 10) 0 = cap := S.2.2.1.2.2.2.2.2.2.2.2.2
theorem Sx.cp (S : Sx M a cap) : 1 ≤ cap ∧ cap ≤ 10000 := S.2.2.2
theorem Sx.keep (S : Sx M a cap) (g : ∀ (k : Nat) (b j : Int), (k = 0 ∨ k = 1 ∨ (900 ≤ k ∧ k < 910)) → M' k b j = M k b j) : Sx M' a cap := by
  unfold Sx at S ⊢
  rw [g 0 a 0 (by omega), g 902 a 0 (by omega), g 903 a 0 (by omega), g 904 a 0 (by omega), g 900 a 0 (by omega), g 901 a 0 (by omega), g 905 a 0 (by omega), g 906 a 0 (by omega), g 907 a 0 (by omega), g 908 a 0 (by omega), g 909 a 0 (by omega), g 0 (a + 1) 0 (by omega), g 0 (a + 2) 0 (by omega), g 0 (a + 3) 0 (by omega), g 0 (a + 4) 0 (by omega), g 0 (a + 5) 0 (by omega), g 0 (a + 6) 0 (by omega), g 0 (a + 7) 0 (by omega), g 0 (a + 8) 0 (by omega), g 0 (a + 9) 0 (by omega), g 0 (a + 10) 0 (by omega), g 1 (a + 1) 0 (by omega), g 1 (a + 2) 0 (by omega), g 1 (a + 3) 0 (by omega), g 1 (a + 4) 0 (by omega), g 1 (a + 5) 0 (by omega), g 1 (a + 6) 0 (by omega), g 1 (a + 7) 0 (by omega), g 1 (a + 8) 0 (by omega), g 1 (a + 9) 0 (by omega), g 1 (a + 10) 0 (by omega)]
  exact S
/-- only these of its arrays change -/
def Sof (B : Int → Prop) (M M' : JM) : Prop := ∀ (k : Nat) (b j : Int), ¬ (k = 2 ∧ B b) → M' k b j = M k b j
theorem Sof.refl (B : Int → Prop) (M : JM) : Sof B M M := fun _ _ _ _ => rfl
theorem Sof.trans {B : Int → Prop} {M'' : JM} (h : Sof B M M') (g : Sof B M' M'') : Sof B M M'' := fun k b j q => (g k b j q).trans (h k b j q)
theorem Sof.mono {B B' : Int → Prop} (h : Sof B M M') (g : ∀ b, B b → B' b) : Sof B' M M' := fun k b j q => h k b j (fun z => q ⟨z.1, g b z.2⟩)
theorem Sof.set {B : Int → Prop} (h : Sof B M M') {b : Int} (hb : B b) (j v : Int) : Sof B M (jset M' 2 b j v) := fun k c i q => by
  rw [show jset M' 2 b j v k c i = M' k c i from if_neg (fun z => q ⟨z.1, by rw [z.2.1]; exact hb⟩)]
  exact h k c i q
theorem Sof.sx {B : Int → Prop} (h : Sof B M M') (S : Sx M a cap) : Sx M' a cap := S.keep fun k b j q => h k b j (by omega)
end SXP
section SA1
variable {G : JG} {Q : Int → JM → Prop} {M : JM} {a cap n : Int}
set_option maxHeartbeats 2000000 in
theorem c_os {kd sh mk ks : Int} {κ : Int → Int} (S : Sx M a cap) (hn : M 2810 a 0 = n) (n0 : 0 ≤ n ∧ n ≤ cap) (hkd : kd = a + 4 ∨ kd = a + 7) (hκ : ∀ x, 0 ≤ x → x < n → jand (jshr (M 2 kd x) sh) mk = κ x ∧ 0 ≤ κ x ∧ κ x < ks) (hks : 0 ≤ ks ∧ ks ≤ max cap 512) (hsp : ∀ r, 0 ≤ r → r < n → 0 ≤ M 2 (a + 8) r ∧ M 2 (a + 8) r < n) (h : ∀ M', Sof (fun b => b = a + 6 ∨ b = a + 9) M M' → (∀ r, 0 ≤ r → r < n → M' 2 (a + 6) (psn n (fun q => κ (M 2 (a + 8) q)) r) = M 2 (a + 8) r) → Q 0 M') : Runs G 64 0 0 [(1, a), (1, kd), (0, sh), (0, mk), (0, ks)] M Q := by
  obtain ⟨g, hg⟩ : ∃ g : Int → Int, g = fun q => κ (M 2 (a + 8) q) := ⟨_, rfl⟩
  rw [← hg] at h
  have cp := S.cp
  have gr : ∀ r, 0 ≤ r → r < n → 0 ≤ g r ∧ g r < ks := fun r r0 r1 => by
    rw [hg]
    exact (hκ _ (hsp r r0 r1).1 (hsp r r0 r1).2).2
  have kdt : M 0 kd 0 = 1 ∧ M 1 kd 0 = cap := by
    rcases hkd with z | z
    · rw [z]; exact ⟨S.t4, S.n4⟩
    · rw [z]; exact ⟨S.t7, S.n7⟩
  have kdn : kd ≠ a + 6 ∧ kd ≠ a + 9 ∧ kd ≠ a + 8 := by omega
  have cr : ∀ (p : Int → Prop) (m : Int), 0 ≤ m → m ≤ n → 0 ≤ cntI p m ∧ cntI p m ≤ 10000 := fun p m m0 m1 => by have := @cntI_r p m m0; omega
  have fx : ∀ N, Sof (fun b => b = a + 6 ∨ b = a + 9) M N → ∀ r, 0 ≤ r → r < n → N 2 (a + 8) r = M 2 (a + 8) r ∧ jand (jshr (N 2 kd (M 2 (a + 8) r)) sh) mk = g r ∧ N 0 kd 0 = 1 ∧ N 1 kd 0 = cap ∧ N 2810 a 0 = n := fun N o r r0 r1 => by
    refine ⟨o _ _ _ (by omega), ?_, by rw [o _ _ _ (by omega)]; exact kdt.1, by rw [o _ _ _ (by omega)]; exact kdt.2, by rw [o _ _ _ (by omega)]; exact hn⟩
    rw [o _ _ _ (by omega), hg]
    exact (hκ _ (hsp r r0 r1).1 (hsp r r0 r1).2).1
  have fn : ∀ N, Sof (fun b => b = a + 6 ∨ b = a + 9) M N → N 2810 a 0 = n := fun N o => by rw [o _ _ _ (by omega)]; exact hn
  refine lp_X8_orderSpare (fun v0 v1 v2 v3 v4 v5 N => a = v0 ∧ kd = v1 ∧ sh = v2 ∧ mk = v3 ∧ ks = v4 ∧ 0 ≤ v5 ∧ v5 ≤ ks ∧ Sof (fun b => b = a + 6 ∨ b = a + 9) M N ∧ ∀ b, 0 ≤ b → b < v5 → N 2 (a + 9) b = 0) (fun _ _ _ _ _ v5 => (ks - v5).toNat + 100000) (fun v0 v1 v2 v3 v4 v5 N => a = v0 ∧ kd = v1 ∧ sh = v2 ∧ mk = v3 ∧ ks = v4 ∧ 0 ≤ v5 ∧ v5 ≤ n ∧ Sof (fun b => b = a + 6 ∨ b = a + 9) M N ∧ ∀ b, 0 ≤ b → b < ks → N 2 (a + 9) b = cntI (fun q => g q = b) v5) (fun _ _ _ _ _ v5 => (n - v5).toNat + 70000) (fun v0 v1 v2 v3 v4 v5 v6 N => a = v0 ∧ kd = v1 ∧ sh = v2 ∧ mk = v3 ∧ ks = v4 ∧ v5 = cntI (fun q => g q < v6) n ∧ 0 ≤ v6 ∧ v6 ≤ ks ∧ Sof (fun b => b = a + 6 ∨ b = a + 9) M N ∧ (∀ b, 0 ≤ b → b < v6 → N 2 (a + 9) b = cntI (fun q => g q < b) n) ∧ ∀ b, v6 ≤ b → b < ks → N 2 (a + 9) b = cntI (fun q => g q = b) n) (fun _ _ _ _ _ _ v6 => (ks - v6).toNat + 40000) (fun v0 v1 v2 v3 v6 N => a = v0 ∧ kd = v1 ∧ sh = v2 ∧ mk = v3 ∧ 0 ≤ v6 ∧ v6 ≤ n ∧ Sof (fun b => b = a + 6 ∨ b = a + 9) M N ∧ (∀ b, 0 ≤ b → b < ks → N 2 (a + 9) b = cntI (fun q => g q < b) n + cntI (fun q => g q = b) v6) ∧ ∀ q, 0 ≤ q → q < v6 → N 2 (a + 6) (psn n g q) = M 2 (a + 8) q) (fun _ _ _ _ v6 => (n - v6).toNat) ?_ ?_ ?_ ?_ _ _ _ _ _ M ⟨rfl, rfl, rfl, rfl, rfl, by omega, by omega, Sof.refl _ M, fun b b0 b1 => by omega⟩
  · rintro v0 v1 v2 v3 v4 v5 N ⟨rfl, rfl, rfl, rfl, rfl, i1, i2, i3, i4⟩
    have SN := i3.sx S
    rw [SN.f8, SN.t9, SN.n9]
    refine ⟨fun q => ⟨⟨rfl, rfl, rfl, rfl, rfl, by omega, by omega, i3, fun b b0 b1 => ?_⟩, by omega⟩, fun q => ⟨SN.tt, ⟨rfl, i1, by omega⟩, by unfold jR; omega, ⟨rfl, rfl, rfl, rfl, rfl, by omega, by omega, i3.set (Or.inr rfl) _ _, fun b b0 b1 => ?_⟩, by omega⟩⟩
    · rw [i4 b b0 (by omega), cntI_z (by omega)]
    · by_cases hb : b = v5
      · rw [hb, jset_s]
      · rw [jset_j hb]; exact i4 b b0 (by omega)
  · rintro v0 v1 v2 v3 v4 v5 N ⟨rfl, rfl, rfl, rfl, rfl, i1, i2, i3, i4⟩
    have SN := i3.sx S
    rw [fn N i3, SN.f7, SN.f8, SN.t8, SN.n8, SN.t9, SN.n9]
    refine ⟨SN.tt, fun q => ⟨⟨rfl, rfl, rfl, rfl, rfl, ?_, by omega, by omega, i3, fun b b0 b1 => by omega, fun b b0 b1 => ?_⟩, by omega⟩, fun q => ?_⟩
    · have c := @cntI_none (fun q => g q < 0) n n0.1
      have d := (cr (fun q => g q < 0) n n0.1 (by omega)).1
      have := c.mpr (fun k k0 k1 z => by have := (gr k k0 k1).1; omega)
      omega
    · have : v5 = n := by omega
      rw [← this]; exact i4 b b0 b1
    · obtain ⟨x1, x2, x3, x4, -⟩ := fx N i3 v5 i1 (by omega)
      have sr := hsp v5 i1 (by omega)
      have g1 := gr v5 i1 (by omega)
      rw [x1, x2, x3, x4, i4 (g v5) g1.1 g1.2]
      have c1 := cr (fun q => g q = g v5) v5 i1 i2
      refine ⟨SN.tt, SN.tt, ⟨rfl, i1, by omega⟩, ⟨rfl, sr.1, by omega⟩, ⟨rfl, g1.1, by omega⟩, by unfold jR; omega, ⟨rfl, g1.1, by omega⟩, by unfold jR; omega, ⟨rfl, rfl, rfl, rfl, rfl, by omega, by omega, i3.set (Or.inr rfl) _ _, fun b b0 b1 => ?_⟩, by omega⟩
      by_cases hb : b = g v5
      · rw [hb, jset_s, cntI_t (p := fun q => g q = g v5) i1 rfl]
      · rw [jset_j hb, i4 b b0 b1, cntI_f (p := fun q => g q = b) i1 (fun z => hb z.symm)]
  · rintro v0 v1 v2 v3 v4 v5 v6 N ⟨rfl, rfl, rfl, rfl, rfl, rfl, i1, i2, i3, i4, i5⟩
    have SN := i3.sx S
    rw [SN.f8, SN.t9, SN.n9]
    refine ⟨fun q => ⟨⟨rfl, rfl, rfl, rfl, by omega, by omega, i3, fun b b0 b1 => ?_, fun b b0 b1 => by omega⟩, by omega⟩, fun q => ?_⟩
    · rw [i4 b b0 (by omega), cntI_z (p := fun q => g q = b) (by omega)]; omega
    · rw [i5 v6 (by omega) (by omega)]
      have c1 := cr (fun q => g q < v6) n n0.1 (by omega)
      have c2 := cr (fun q => g q = v6) n n0.1 (by omega)
      refine ⟨SN.tt, ⟨rfl, i1, by omega⟩, SN.tt, ⟨rfl, i1, by omega⟩, by unfold jR; omega, by unfold jR; omega, ⟨rfl, rfl, rfl, rfl, rfl, cntI_lt1.symm, by omega, by omega, i3.set (Or.inr rfl) _ _, fun b b0 b1 => ?_, fun b b0 b1 => ?_⟩, by omega⟩
      · by_cases hb : b = v6
        · rw [hb, jset_s]
        · rw [jset_j hb]; exact i4 b b0 (by omega)
      · rw [jset_j (by omega)]; exact i5 b (by omega) b1
  · rintro v0 v1 v2 v3 v6 N ⟨rfl, rfl, rfl, rfl, i1, i2, i3, i4, i5⟩
    have SN := i3.sx S
    rw [fn N i3, SN.f5, SN.f7, SN.f8, SN.t6, SN.n6, SN.t8, SN.n8, SN.t9, SN.n9]
    refine ⟨SN.tt, fun q => h N i3 (fun r r0 r1 => i5 r r0 (by omega)), fun q => ?_⟩
    obtain ⟨x1, x2, x3, x4, -⟩ := fx N i3 v6 i1 (by omega)
    have sr := hsp v6 i1 (by omega)
    have g1 := gr v6 i1 (by omega)
    have pr := @psn_r n v6 g i1 (by omega)
    rw [x1, x2, x3, x4, jset_a (show a + 9 ≠ a + 6 by omega), i4 (g v6) g1.1 g1.2]
    have pe : cntI (fun q => g q < g v6) n + cntI (fun q => g q = g v6) v6 = psn n g v6 := rfl
    rw [pe]
    refine ⟨SN.tt, ⟨rfl, i1, by omega⟩, ⟨rfl, sr.1, by omega⟩, SN.tt, SN.tt, ⟨rfl, g1.1, by omega⟩, SN.tt, ⟨rfl, i1, by omega⟩, ⟨rfl, pr.1, by omega⟩, SN.tt, ⟨rfl, g1.1, by omega⟩, by unfold jR; omega, ⟨rfl, g1.1, by omega⟩, by unfold jR; omega, ⟨rfl, rfl, rfl, rfl, by omega, by omega, (i3.set (Or.inl rfl) _ _).set (Or.inr rfl) _ _, fun b b0 b1 => ?_, fun q q0 q1 => ?_⟩, by omega⟩
    · by_cases hb : b = g v6
      · rw [hb, jset_s, cntI_t (p := fun q => g q = g v6) i1 rfl]
        have : psn n g v6 = cntI (fun q => g q < g v6) n + cntI (fun q => g q = g v6) v6 := rfl
        omega
      · rw [jset_j hb, jset_a (by omega), i4 b b0 b1, cntI_f (p := fun q => g q = b) i1 (fun z => hb z.symm)]
    · rw [jset_a (by omega)]
      by_cases hq : q = v6
      · rw [hq, jset_s]
      · rw [jset_j (fun z => hq (psn_inj q0 (by omega) i1 (by omega) z))]
        exact i5 q q0 (by omega)
theorem c_rs {F : Int → Int} {od : Int → Int} (S : Sx M a cap) (hn : M 2810 a 0 = n) (n0 : 1 ≤ n ∧ n ≤ cap) (hod : ∀ r, 0 ≤ r → r < n → M 2 (a + 6) r = od r) (hp : Prm n od) (hF : ∀ i j, 0 ≤ i → i < n → 0 ≤ j → j < n → (M 2 (a + 4) i = M 2 (a + 4) j ↔ eqh F 1 i j)) (h : ∀ M', Sof (fun b => b = a + 7) M M' → (∀ r, 0 ≤ r → r < n → M' 2 (a + 7) (od r) = chg F 1 od (r + 1)) → Q (chg F 1 od n + 1) M') : Runs G 65 0 0 [(1, a)] M Q := by
  have cp := S.cp
  have fx : ∀ N, Sof (fun b => b = a + 7) M N → N 2810 a 0 = n ∧ (∀ r, 0 ≤ r → r < n → N 2 (a + 6) r = od r) ∧ ∀ x, N 2 (a + 4) x = M 2 (a + 4) x := fun N o => ⟨by rw [o _ _ _ (by omega)]; exact hn, fun r r0 r1 => by rw [o _ _ _ (by omega)]; exact hod r r0 r1, fun x => o _ _ _ (by omega)⟩
  have c0 : chg F 1 od 1 = 0 := by have := @chg_le F 1 od 0; rw [show ((0 : Nat) : Int) + 1 = 1 by omega] at this; omega
  refine lp_X8_rankBySign (fun v0 v1 v2 N => a = v0 ∧ v1 = chg F 1 od v2 + 1 ∧ 1 ≤ v2 ∧ v2 ≤ n ∧ Sof (fun b => b = a + 7) M N ∧ ∀ r, 0 ≤ r → r < v2 → N 2 (a + 7) (od r) = chg F 1 od (r + 1)) (fun _ _ v2 => (n - v2).toNat) ?_ _ M ?_
  · rintro v0 v1 v2 N ⟨rfl, rfl, i1, i2, i3, i4⟩
    have SN := i3.sx S
    obtain ⟨x1, x2, x3⟩ := fx N i3
    have cl := @chg_le F 1 od (v2 - 1).toNat
    rw [show ((v2 - 1).toNat : Int) + 1 = v2 by omega] at cl
    rw [x1]
    refine ⟨SN.tt, fun q => ?_, fun q => ?_⟩
    · have : v2 = n := by omega
      subst this
      exact h N i3 i4
    · rw [SN.f5, SN.f0, SN.f6, SN.t6, SN.n6, SN.t4, SN.n4, SN.t7, SN.n7, x2 v2 (by omega) (by omega), x2 (v2 - 1) (by omega) (by omega), x3, x3]
      have o1 := hp.1 v2 (by omega) (by omega)
      have o2 := hp.1 (v2 - 1) (by omega) (by omega)
      have st : ∀ w, w = chg F 1 od (v2 + 1) → ∀ r, 0 ≤ r → r < v2 + 1 → (jset N 2 (a + 7) (od v2) w) 2 (a + 7) (od r) = chg F 1 od (r + 1) := fun w hw r r0 r1 => by
        by_cases hr : r = v2
        · rw [hr, jset_s]; exact hw
        · rw [jset_j (fun z => hr (hp.2.1 r v2 r0 (by omega) (by omega) (by omega) z))]
          exact i4 r r0 (by omega)
      refine ⟨SN.tt, SN.tt, ⟨rfl, by omega, by omega⟩, ⟨rfl, o1.1, by omega⟩, SN.tt, SN.tt, by unfold jR; omega, ⟨rfl, by omega, by omega⟩, ⟨rfl, o2.1, by omega⟩, fun e => ?_, fun e => ?_⟩
      · have ce : chg F 1 od (v2 + 1) = chg F 1 od v2 := cntI_f (by omega) (fun z => z.2 ((hF _ _ o1.1 o1.2 o2.1 o2.2).mp e))
        exact ⟨SN.tt, SN.tt, ⟨rfl, by omega, by omega⟩, by unfold jR; omega, ⟨rfl, o1.1, by omega⟩, by unfold jR; omega, ⟨rfl, by rw [ce], by omega, by omega, i3.set rfl _ _, st _ (by omega)⟩, by omega⟩
      · have ce : chg F 1 od (v2 + 1) = chg F 1 od v2 + 1 := cntI_t (by omega) ⟨i1, fun z => e ((hF _ _ o1.1 o1.2 o2.1 o2.2).mpr z)⟩
        exact ⟨by unfold jR; omega, SN.tt, SN.tt, ⟨rfl, by omega, by omega⟩, by unfold jR; omega, ⟨rfl, o1.1, by omega⟩, by unfold jR; omega, ⟨rfl, by rw [ce], by omega, by omega, i3.set rfl _ _, st _ (by omega)⟩, by omega⟩
  · have o1 := hp.1 0 (by omega) (by omega)
    rw [S.f5, S.f6, S.t6, S.n6, S.t7, S.n7, hod 0 (by omega) (by omega)]
    refine ⟨S.tt, S.tt, ⟨rfl, by omega, by omega⟩, ⟨rfl, o1.1, by omega⟩, rfl, by omega, by omega, by omega, (Sof.refl (fun b => b = a + 7) M).set rfl _ _, fun r r0 r1 => ?_⟩
    rw [show r = 0 by omega, jset_s, show (0 : Int) + 1 = 1 by omega, c0]
theorem c_ls {st : Int} {od : Int → Int} (S : Sx M a cap) (hn : M 2810 a 0 = n) (n0 : n ≤ cap) (hs : 1 ≤ st ∧ st < n) (hod : ∀ r, 0 ≤ r → r < n → M 2 (a + 6) r = od r) (hp : Prm n od) (h : ∀ M', Sof (fun b => b = a + 8) M M' → (∀ y, 0 ≤ y → y < st → M' 2 (a + 8) y = n - st + y) → (∀ r, 0 ≤ r → r < n → st ≤ od r → M' 2 (a + 8) (st + cntI (fun q => st ≤ od q) r) = od r - st) → Q 0 M') : Runs G 66 0 0 [(1, a), (0, st)] M Q := by
  have cp := S.cp
  have fx : ∀ N, Sof (fun b => b = a + 8) M N → N 2810 a 0 = n ∧ ∀ r, 0 ≤ r → r < n → N 2 (a + 6) r = od r := fun N o => ⟨by rw [o _ _ _ (by omega)]; exact hn, fun r r0 r1 => by rw [o _ _ _ (by omega)]; exact hod r r0 r1⟩
  have ca : cntI (fun q => st ≤ od q) n = n - st := by
    have b := Prm_cntI hp (m := st) (by omega) (by omega)
    have c : cntI (fun q => od q < st ∨ st ≤ od q) n = cntI (fun q => od q < st) n + cntI (fun q => st ≤ od q) n := cntI_split n (fun i z => by omega)
    have d : ∀ k : Nat, cntI (fun q => od q < st ∨ st ≤ od q) (k : Int) = k := fun k => by
      induction k with
      | zero => exact cntI_z (by omega)
      | succ k ih => rw [show ((k + 1 : Nat) : Int) = (k : Int) + 1 by omega, cntI_t (p := fun q => od q < st ∨ st ≤ od q) (by omega) (by omega), ih]
    have e := d n.toNat
    rw [show (n.toNat : Int) = n by omega] at e
    omega
  refine lp_X8_listBySecond (fun v0 v1 v2 v3 N => a = v0 ∧ st = v1 ∧ v2 = v3 - (n - st) ∧ n - st ≤ v3 ∧ v3 ≤ n ∧ Sof (fun b => b = a + 8) M N ∧ ∀ y, 0 ≤ y → y < v2 → N 2 (a + 8) y = n - st + y) (fun _ _ _ v3 => (n - v3).toNat + 20000) (fun v0 v1 v2 v3 N => a = v0 ∧ st = v1 ∧ v2 = st + cntI (fun q => st ≤ od q) v3 ∧ 0 ≤ v3 ∧ v3 ≤ n ∧ Sof (fun b => b = a + 8) M N ∧ (∀ y, 0 ≤ y → y < st → N 2 (a + 8) y = n - st + y) ∧ ∀ r, 0 ≤ r → r < v3 → st ≤ od r → N 2 (a + 8) (st + cntI (fun q => st ≤ od q) r) = od r - st) (fun _ _ _ v3 => (n - v3).toNat) ?_ ?_ _ _ M ?_
  · rintro v0 v1 v2 v3 N ⟨rfl, rfl, rfl, i1, i2, i3, i4⟩
    have SN := i3.sx S
    obtain ⟨x1, x2⟩ := fx N i3
    rw [x1, SN.f7, SN.t8, SN.n8]
    refine ⟨SN.tt, fun q => ⟨⟨rfl, rfl, by rw [cntI_z (by omega)]; omega, by omega, by omega, i3, fun y y0 y1 => i4 y y0 (by omega), fun r r0 r1 => by omega⟩, by omega⟩, fun q => ⟨SN.tt, ⟨rfl, by omega, by omega⟩, by unfold jR; omega, by unfold jR; omega, ⟨rfl, rfl, by omega, by omega, by omega, i3.set rfl _ _, fun y y0 y1 => ?_⟩, by omega⟩⟩
    by_cases hy : y = v3 - (n - st)
    · rw [hy, jset_s]; omega
    · rw [jset_j hy]; exact i4 y y0 (by omega)
  · rintro v0 v1 v2 v3 N ⟨rfl, rfl, rfl, i1, i2, i3, i4, i5⟩
    have SN := i3.sx S
    obtain ⟨x1, x2⟩ := fx N i3
    rw [x1, SN.f7, SN.f5, SN.t8, SN.n8, SN.t6, SN.n6]
    refine ⟨SN.tt, fun q => h N i3 i4 (fun r r0 r1 c => i5 r r0 (by omega) c), fun q => ?_⟩
    rw [x2 v3 i1 (by omega)]
    have o1 := hp.1 v3 i1 (by omega)
    have c0 := (@cntI_r (fun q => st ≤ od q) v3 i1)
    refine ⟨SN.tt, ⟨rfl, i1, by omega⟩, fun c => ⟨by unfold jR; omega, ⟨rfl, rfl, by rw [cntI_f i1 (by omega)], by omega, by omega, i3, i4, fun r r0 r1 d => ?_⟩, by omega⟩, fun c => ?_⟩
    · by_cases hr : r = v3
      · rw [hr] at d; omega
      · exact i5 r r0 (by omega) d
    · have cs := @cntI_step (fun q => st ≤ od q) v3 n i1 (by omega) (by omega)
      refine ⟨SN.tt, SN.tt, ⟨rfl, i1, by omega⟩, by unfold jR; omega, ⟨rfl, by omega, by omega⟩, by unfold jR; omega, by unfold jR; omega, ⟨rfl, rfl, by rw [cntI_t (p := fun q => st ≤ od q) i1 (by omega)]; omega, by omega, by omega, i3.set rfl _ _, fun y y0 y1 => ?_, fun r r0 r1 d => ?_⟩, by omega⟩
      · rw [jset_j (by omega)]; exact i4 y y0 y1
      · by_cases hr : r = v3
        · rw [hr, jset_s]
        · have cs2 := @cntI_step (fun q => st ≤ od q) r v3 r0 (by omega) d
          rw [jset_j (by omega)]; exact i5 r r0 (by omega) d
  · rw [hn]
    exact ⟨S.tt, by unfold jR; omega, rfl, rfl, by omega, by omega, by omega, Sof.refl _ M, fun y y0 y1 => by omega⟩
theorem c_rkOf {x : Int} {Q' : Int → JM → Prop} (S : Sx M a cap) (hn : M 2810 a 0 = n) (n0 : n ≤ cap) (x0 : 0 ≤ x) (h : Q' (if x < n then M 2 (a + 7) x else -1) M) : Runs G 70 0 0 [(1, a), (0, x)] M Q' := by
  refine rn_X8_rankOf _ _ M (sg_X8_rankOf_0 _ _ M ?_)
  rw [hn, S.f6, S.t7, S.n7]
  by_cases c : x < n
  · rw [if_pos c] at h
    exact ⟨fun z => absurd z (by omega), fun _ => ⟨S.tt, fun z => absurd z (by omega), fun _ => ⟨S.tt, ⟨rfl, x0, by omega⟩, h⟩⟩⟩
  · rw [if_neg c] at h
    exact ⟨fun z => absurd z (by omega), fun _ => ⟨S.tt, fun _ => h, fun z => absurd (by omega) z⟩⟩
theorem c_rt {st : Int} {F : Int → Int} {od R : Int → Int} (S : Sx M a cap) (hn : M 2810 a 0 = n) (n0 : 1 ≤ n ∧ n ≤ cap) (hs : 1 ≤ st ∧ st < n) (hod : ∀ r, 0 ≤ r → r < n → M 2 (a + 6) r = od r) (hR : ∀ r, 0 ≤ r → r < n → M 2 (a + 7) r = R r) (hp : Prm n od) (hF : ∀ i j, 0 ≤ i → i < n → 0 ≤ j → j < n → ((R i = R j ∧ (if i + st < n then R (i + st) else -1) = (if j + st < n then R (j + st) else -1)) ↔ eqh F (st * 2) i j)) (h : ∀ M', Sof (fun b => b = a + 7 ∨ b = a + 8) M M' → (∀ r, 0 ≤ r → r < n → M' 2 (a + 7) (od r) = chg F (st * 2) od (r + 1)) → Q (chg F (st * 2) od n + 1) M') : Runs G 67 0 0 [(1, a), (0, st)] M Q := by
  have cp := S.cp
  have fx : ∀ N, Sof (fun b => b = a + 8) M N → N 2810 a 0 = n ∧ (∀ r, 0 ≤ r → r < n → N 2 (a + 6) r = od r) ∧ ∀ r, 0 ≤ r → r < n → N 2 (a + 7) r = R r := fun N o => ⟨by rw [o _ _ _ (by omega)]; exact hn, fun r r0 r1 => by rw [o _ _ _ (by omega)]; exact hod r r0 r1, fun r r0 r1 => by rw [o _ _ _ (by omega)]; exact hR r r0 r1⟩
  have c0 : chg F (st * 2) od 1 = 0 := by have := @chg_le F (st * 2) od 0; rw [show ((0 : Nat) : Int) + 1 = 1 by omega] at this; omega
  refine lp_X8_rankByTwo (fun v0 v1 v2 v3 N => a = v0 ∧ st = v1 ∧ v2 = chg F (st * 2) od v3 + 1 ∧ 1 ≤ v3 ∧ v3 ≤ n ∧ Sof (fun b => b = a + 8) M N ∧ ∀ r, 0 ≤ r → r < v3 → N 2 (a + 8) (od r) = chg F (st * 2) od (r + 1)) (fun _ _ _ v3 => (n - v3).toNat) ?_ _ _ M ?_
  · rintro v0 v1 v2 v3 N ⟨rfl, rfl, rfl, i1, i2, i3, i4⟩
    have SN := i3.sx S
    obtain ⟨x1, x2, x3⟩ := fx N i3
    have cl := @chg_le F (st * 2) od (v3 - 1).toNat
    rw [show ((v3 - 1).toNat : Int) + 1 = v3 by omega] at cl
    rw [x1, SN.f5, SN.f6, SN.f7, SN.t6, SN.n6, SN.t7, SN.n7, SN.t8, SN.n8]
    refine ⟨SN.tt, fun q => ⟨SN.tt, SN.tt, SN.tt, ⟨rfl, rfl, by omega, by omega, by omega, by omega, by omega⟩, ?_⟩, fun q => ?_⟩
    · have : v3 = n := by omega
      subst this
      refine h _ (fun k b j z => ?_) (fun r r0 r1 => ?_)
      · rw [show jcpy N (a + 8) 0 (a + 7) 0 v3 k b j = _ from if_neg (fun y => z ⟨y.1, Or.inl y.2.1⟩)]
        exact i3 k b j (fun y => z ⟨y.1, Or.inr y.2⟩)
      · have o := hp.1 r r0 r1
        rw [jcpy_in o.1 (by omega), show 0 + (od r - 0) = od r by omega]
        exact i4 r r0 r1
    · have o1 := hp.1 v3 (by omega) (by omega)
      have o2 := hp.1 (v3 - 1) (by omega) (by omega)
      rw [x2 v3 (by omega) (by omega), x2 (v3 - 1) (by omega) (by omega), x3 (od v3) o1.1 o1.2, x3 (od (v3 - 1)) o2.1 o2.2]
      have stp : ∀ w, w = chg F (st * 2) od (v3 + 1) → ∀ r, 0 ≤ r → r < v3 + 1 → (jset N 2 (a + 8) (od v3) w) 2 (a + 8) (od r) = chg F (st * 2) od (r + 1) := fun w hw r r0 r1 => by
        by_cases hr : r = v3
        · rw [hr, jset_s]; exact hw
        · rw [jset_j (fun z => hr (hp.2.1 r v3 r0 (by omega) (by omega) (by omega) z))]
          exact i4 r r0 (by omega)
      have yes : ¬ (R (od v3) = R (od (v3 - 1)) ∧ (if od v3 + st < n then R (od v3 + st) else -1) = (if od (v3 - 1) + st < n then R (od (v3 - 1) + st) else -1)) → chg F (st * 2) od (v3 + 1) = chg F (st * 2) od v3 + 1 := fun z => cntI_t (by omega) ⟨i1, fun y => z ((hF _ _ o1.1 o1.2 o2.1 o2.2).mpr y)⟩
      refine ⟨SN.tt, ⟨rfl, by omega, by omega⟩, SN.tt, by unfold jR; omega, ⟨rfl, by omega, by omega⟩, SN.tt, ⟨rfl, o1.1, by omega⟩, SN.tt, ⟨rfl, o2.1, by omega⟩, fun e => ?_, fun e => ⟨by unfold jR; omega, SN.tt, c_rkOf SN x1 n0.2 (by omega) (fun _ => ⟨by unfold jR; omega, SN.tt, c_rkOf SN x1 n0.2 (by omega) (fun _ => ?_)⟩)⟩⟩
      · have ce := yes (fun z => e z.1)
        exact ⟨by unfold jR; omega, SN.tt, by unfold jR; omega, ⟨rfl, o1.1, by omega⟩, by unfold jR; omega, ⟨rfl, rfl, by rw [ce], by omega, by omega, i3.set rfl _ _, stp _ (by omega)⟩, by omega⟩
      · have e := Classical.not_not.mp e
        have xx : ∀ x, 0 ≤ x → (if x < n then N 2 (a + 7) x else -1) = (if x < n then R x else -1) := fun x x0 => by
          by_cases c : x < n
          · rw [if_pos c, if_pos c]; exact x3 x x0 c
          · rw [if_neg c, if_neg c]
        rw [xx _ (by omega), xx _ (by omega), SN.f7, SN.t8, SN.n8]
        refine ⟨fun e2 => ?_, fun e2 => ?_⟩
        · have ce : chg F (st * 2) od (v3 + 1) = chg F (st * 2) od v3 := cntI_f (by omega) (fun z => z.2 ((hF _ _ o1.1 o1.2 o2.1 o2.2).mp ⟨e, e2⟩))
          exact ⟨SN.tt, by unfold jR; omega, ⟨rfl, o1.1, by omega⟩, by unfold jR; omega, ⟨rfl, rfl, by rw [ce], by omega, by omega, i3.set rfl _ _, stp _ (by omega)⟩, by omega⟩
        · have ce := yes (fun z => e2 z.2)
          exact ⟨by unfold jR; omega, SN.tt, by unfold jR; omega, ⟨rfl, o1.1, by omega⟩, by unfold jR; omega, ⟨rfl, rfl, by rw [ce], by omega, by omega, i3.set rfl _ _, stp _ (by omega)⟩, by omega⟩
  · have o1 := hp.1 0 (by omega) (by omega)
    rw [S.f5, S.f7, S.t6, S.n6, S.t8, S.n8, hod 0 (by omega) (by omega)]
    refine ⟨S.tt, S.tt, ⟨rfl, by omega, by omega⟩, ⟨rfl, o1.1, by omega⟩, rfl, rfl, by omega, by omega, by omega, (Sof.refl (fun b => b = a + 8) M).set rfl _ _, fun r r0 r1 => ?_⟩
    rw [show r = 0 by omega, jset_s, show (0 : Int) + 1 = 1 by omega, c0]
/-- what is shared with the one ahead -/
theorem c_ms {f : Int → Int} {od : Int → Int} (S : Sx M a cap) (hn : M 2810 a 0 = n) (n0 : 1 ≤ n ∧ n ≤ cap) (hf : ∀ k, 0 ≤ k → k < n → 0 ≤ f k) (hsg : ∀ r, 0 ≤ r → r < n → M 2 (a + 4) r = f r) (hod : ∀ r, 0 ≤ r → r < n → M 2 (a + 6) r = od r) (hR : ∀ r, 0 ≤ r → r < n → M 2 (a + 7) r = rk n f r) (hi : ∀ i, 0 ≤ i → i < n → od (rk n f i) = i) (hp : Prm n od) (h : ∀ M', Sof (fun b => b = a + 10) M M' → (∀ i, 0 ≤ i → i < n → M' 2 (a + 10) (rk n f i) = if rk n f i = 0 then 0 else lcp2 n f n f (od (rk n f i - 1)) i) → Q 0 M') : Runs G 68 0 0 [(1, a)] M Q := by
  have cp := S.cp
  have fx : ∀ N, Sof (fun b => b = a + 10) M N → N 2810 a 0 = n ∧ (∀ r, 0 ≤ r → r < n → N 2 (a + 6) r = od r) ∧ (∀ r, 0 ≤ r → r < n → N 2 (a + 7) r = rk n f r) ∧ ∀ r, 0 ≤ r → r < n → N 2 (a + 4) r = f r := fun N o => ⟨by rw [o _ _ _ (by omega)]; exact hn, fun r r0 r1 => by rw [o _ _ _ (by omega)]; exact hod r r0 r1, fun r r0 r1 => by rw [o _ _ _ (by omega)]; exact hR r r0 r1, fun r r0 r1 => by rw [o _ _ _ (by omega)]; exact hsg r r0 r1⟩
  have ro : ∀ r, 0 ≤ r → r < n → rk n f (od r) = r := fun r r0 r1 => by
    have o := hp.1 r r0 r1
    have q := rk_r (f := f) o.1 o.2
    exact hp.2.1 _ _ q.1 q.2 r0 r1 (hi _ o.1 o.2)
  obtain ⟨L, hL⟩ : ∃ L : Int → Int, L = fun i => lcp2 n f n f (od (rk n f i - 1)) i := ⟨_, rfl⟩
  have st : ∀ N v i, (∀ j, 0 ≤ j → j < i → N 2 (a + 10) (rk n f j) = if rk n f j = 0 then 0 else L j) → 0 ≤ i → i < n → v = (if rk n f i = 0 then 0 else L i) → ∀ j, 0 ≤ j → j < i + 1 → (jset N 2 (a + 10) (rk n f i) v) 2 (a + 10) (rk n f j) = if rk n f j = 0 then 0 else L j := fun N v i g i0 i1 hv j j0 j1 => by
    by_cases hj : j = i
    · rw [hj, jset_s]; exact hv
    · rw [jset_j (fun z => hj (rk_inj hf j0 (by omega) i0 i1 z))]
      exact g j j0 (by omega)
  have nx : ∀ i v, 0 ≤ i → v = (if rk n f i = 0 then 0 else L i) → i + 1 < n → rk n f (i + 1) ≠ 0 → max (v - 1) 0 ≤ L (i + 1) := fun i v i0 hv i1 hk => by
    have k1 := rk_r (n := n) (f := f) (i := i + 1) (by omega) i1
    have o1 := hp.1 (rk n f (i + 1) - 1) (by omega) (by omega)
    have p0 : 0 ≤ L (i + 1) := by rw [hL]; exact (lcp2_r (by omega) (by omega)).1
    by_cases z : rk n f i = 0
    · rw [if_pos z] at hv; omega
    · rw [if_neg z] at hv
      have k2 := rk_r (n := n) (f := f) (i := i) i0 (by omega)
      have o2 := hp.1 (rk n f i - 1) (by omega) (by omega)
      have := kasai hf i0 i1 o2.1 o2.2 o1.1 o1.2 (by rw [ro _ (by omega) (by omega)]; omega) (by rw [ro _ (by omega) (by omega)]; omega)
      rw [hL] at hv p0 ⊢
      dsimp only at hv p0 ⊢
      omega
  have hL' : ∀ i, (if rk n f i = 0 then 0 else lcp2 n f n f (od (rk n f i - 1)) i) = (if rk n f i = 0 then 0 else L i) := fun i => by rw [hL]
  refine lp_X8_measureShared (fun v0 v1 v2 N => a = v0 ∧ 0 ≤ v1 ∧ v1 ≤ n ∧ 0 ≤ v2 ∧ v2 ≤ n ∧ (v2 < n → rk n f v2 ≠ 0 → v1 ≤ L v2) ∧ Sof (fun b => b = a + 10) M N ∧ ∀ j, 0 ≤ j → j < v2 → N 2 (a + 10) (rk n f j) = if rk n f j = 0 then 0 else L j) (fun _ _ v2 => ((n - v2) * 20000).toNat) (fun v0 v1 v2 v3 v4 N => a = v0 ∧ 0 ≤ v1 ∧ v1 ≤ L v2 ∧ 0 ≤ v2 ∧ v2 < n ∧ v3 = rk n f v2 ∧ v3 ≠ 0 ∧ v4 = od (v3 - 1) ∧ Sof (fun b => b = a + 10) M N ∧ ∀ j, 0 ≤ j → j < v2 → N 2 (a + 10) (rk n f j) = if rk n f j = 0 then 0 else L j) (fun _ v1 v2 _ _ => ((n - v2) * 20000 - 1 - v1).toNat) ?_ ?_ _ M ⟨rfl, by omega, by omega, by omega, by omega, fun _ hk => ?_, Sof.refl _ M, fun j j0 j1 => by omega⟩
  · rintro v0 v1 v2 N ⟨rfl, i1, i2, i3, i4, i5, i6, i7⟩
    have SN := i6.sx S
    obtain ⟨x1, x2, x3, x4⟩ := fx N i6
    rw [x1]
    refine ⟨SN.tt, fun q => h N i6 (fun i i0 i1 => by rw [hL']; exact i7 i i0 (by omega)), fun q => ?_⟩
    have kr := rk_r (n := n) (f := f) (i := v2) i3 (by omega)
    rw [SN.f6, SN.f5, SN.f9, SN.t7, SN.n7, SN.t6, SN.n6, SN.t10, SN.n10, x3 v2 i3 (by omega)]
    refine ⟨SN.tt, ⟨rfl, i3, by omega⟩, fun z => ?_, fun z => ?_⟩
    · rw [x2 (rk n f v2 - 1) (by omega) (by omega)]
      exact ⟨SN.tt, by unfold jR; omega, ⟨rfl, by omega, by omega⟩, ⟨rfl, i1, i5 (by omega) z, i3, by omega, rfl, z, rfl, i6, i7⟩, by omega⟩
    · have z := Classical.not_not.mp z
      rw [z]
      refine ⟨SN.tt, ⟨rfl, by omega, by omega⟩, by unfold jR; omega, by unfold jR; omega, ⟨rfl, by omega, by omega, by omega, by omega, fun c d => nx v2 0 i3 (by rw [if_pos z]) c d, i6.set rfl _ _, fun j j0 j1 => ?_⟩, by omega⟩
      have := st N 0 v2 i7 i3 (by omega) (by rw [if_pos z]) j j0 j1
      rw [z] at this
      exact this
  · rintro v0 v1 v2 v3 v4 N ⟨rfl, i1, i2, i3, i4, rfl, i5, rfl, i6, i7⟩
    have SN := i6.sx S
    obtain ⟨x1, x2, x3, x4⟩ := fx N i6
    have kr := rk_r (f := f) (i := v2) i3 i4
    have o1 := hp.1 (rk n f v2 - 1) (by omega) (by omega)
    have Lv : L v2 = lcp2 n f n f (od (rk n f v2 - 1)) v2 := by rw [hL]
    have lr := @lcp2_r n n (od (rk n f v2 - 1)) v2 f f (by omega) (by omega)
    rw [← Lv] at lr
    have ls := (@lcp2_is n n f f (od (rk n f v2 - 1)) v2)
    rw [← Lv] at ls
    rw [x1, SN.f0, SN.f9, SN.t4, SN.n4, SN.t10, SN.n10]
    have fin : v1 = L v2 → N 0 a 0 = 18 ∧ ((1 : Int) = 1 ∧ (0 : Int) ≤ rk n f v2 ∧ rk n f v2 < cap) ∧ jR (v1 - 1) ∧ jR (v2 + 1) ∧ (a = a ∧ 0 ≤ max (v1 - 1) 0 ∧ max (v1 - 1) 0 ≤ n ∧ 0 ≤ v2 + 1 ∧ v2 + 1 ≤ n ∧ (v2 + 1 < n → rk n f (v2 + 1) ≠ 0 → max (v1 - 1) 0 ≤ L (v2 + 1)) ∧ Sof (fun b => b = a + 10) M (jset N 2 (a + 10) (rk n f v2) v1) ∧ ∀ j, 0 ≤ j → j < v2 + 1 → (jset N 2 (a + 10) (rk n f v2) v1) 2 (a + 10) (rk n f j) = if rk n f j = 0 then 0 else L j) ∧ ((n - (v2 + 1)) * 20000).toNat < ((n - v2) * 20000 - 1 - v1).toNat := fun e => by
      exact ⟨SN.tt, ⟨rfl, kr.1, by omega⟩, by unfold jR; omega, by unfold jR; omega, ⟨rfl, by omega, by omega, by omega, by omega, fun c d => nx v2 v1 i3 (by rw [if_neg i5]; exact e) c d, i6.set rfl _ _, st N v1 v2 i7 i3 i4 (by rw [if_neg i5]; exact e)⟩, by omega⟩
    refine ⟨by unfold jR; omega, SN.tt, fun q => fin (by omega), fun q => ⟨by unfold jR; omega, SN.tt, fun q2 => fin (by omega), fun q2 => ?_⟩⟩
    rw [x4 (v2 + v1) (by omega) (by omega), x4 (od (rk n f v2 - 1) + v1) (by omega) (by omega)]
    refine ⟨SN.tt, by unfold jR; omega, ⟨rfl, by omega, by omega⟩, SN.tt, by unfold jR; omega, ⟨rfl, by omega, by omega⟩, fun e => fin ?_, fun e => ⟨by unfold jR; omega, ⟨rfl, by omega, ?_, i3, i4, rfl, i5, rfl, i6, i7⟩, by omega⟩⟩
    · rcases Int.lt_or_le v1 (L v2) with c | c
      · exact absurd (ls.2.2.1 v1 i1 c).symm e
      · omega
    · rcases Int.lt_or_le v1 (L v2) with c | c
      · omega
      · have : v1 = L v2 := by omega
        rw [this] at e q q2
        exact absurd ⟨by omega, by omega, (Classical.not_not.mp e).symm⟩ ls.2.2.2
  · rw [hL]
    have kr := rk_r (n := n) (f := f) (i := 0) (by omega) (by omega)
    have o1 := hp.1 (rk n f 0 - 1) (by omega) (by omega)
    exact (lcp2_r (by omega) (by omega)).1
end SA1
