/-! layer 2: the class's methods, one by one -/
def zFeed (a b c d e : Int) (z : Zt) : Int × Zt := if 700 < z.tn + 20 then (-1, z) else (z.tn + 20, z.setTape (pt4 e (z.tn + 16) (pt4 d (z.tn + 12) (pt4 c (z.tn + 8) (pt4 b (z.tn + 4) (pt4 a z.tn z.tp))))) (z.tn + 20))
def zText (n : Int) (z : Zt) : Int × Zt := if n < 0 ∨ z.tn < n then (-2, z) else
  match rdL z.tp n 701 (fun _ _ => 0) 0 0 0 (lxP z.tp n 0) 0 with
  | .error (k, pc, _) => (-1, z.setFlt 0 k pc)
  | .ok (T, _, _, _, ln) => (ln, z.setTxt 0 0 (-1) T (sInit T) none [] 0 (-1))
def zFault (w : Int) (z : Zt) : Int := if w = 0 then z.fk else if w = 1 then z.fp else -1
def zNamed (w l : Int) (z : Zt) : Int := if w = 0 then tFeat z.T l else if w = 1 then tSitr z.T l else -1
def zLog (t w : Int) (z : Zt) : Int := if t < 0 ∨ ¬ t < z.S 0 0 ∨ w < 0 ∨ 2 < w then -1 else z.dg w t
def zOwner (p k : Int) (z : Zt) : Int := if qPie z.T p = false ∨ k < 0 then -1 else sOwb z.S p k
def zUndo (z : Zt) : Int × Zt := match z.past with
  | [] => (-1, z)
  | P :: l => ((l.length : Int), (z.setS P).setPast l)
def zAdd (kd ab : Int) (z : Zt) : Int × Zt := if z.sz < 24 then (z.sz, z.setSee (fun k => if k = z.sz then kd else z.sk k) (fun k => if k = z.sz then ab else z.sa k) (z.sz + 1)) else (-1, z)
def zSee (f i : Int) (z : Zt) : Int × Zt := if qFea z.T f = false then (-1, z) else zAdd (if i = 0 then 0 else 1) f z
def zStrike (k : Int) (z : Zt) : Int × Zt := if k < 0 ∨ ¬ k < z.sz then (-1, z) else zAdd 2 k z
def zKnown (n : Int) (z : Zt) : Int × Zt := if n < -1 ∨ z.sz < n then (0, z) else (1, z.setKb n)
def zKn (z : Zt) : Int := if z.kb = -1 then z.sz else z.kb
section PB
variable {h : Hp} {z : Zt}
theorem c3 (c : CR h z) : okF h (ld h 1 3) 21 = true := bfF0 c.w c.hb
theorem kq_2 (c : CR h z) (a b x y e : Int) (d : Nat) : OPc h z (d + 10) 2 [(2, 1), (0, a), (0, b), (0, x), (0, y), (0, e)] 0 (zFeed a b x y e z).1 (zFeed a b x y e z).2 := by
  have tn := c.tn
  have tb := c.tnb
  unfold zFeed
  by_cases q : 700 < z.tn + 20
  · rw [if_pos q]
    refine OPc_rf c ?_
    rw [ce_2, e2_0, if_pos (F_a1 c.w), tn, show w32 (z.tn + 20) = z.tn + 20 by unfold w32; omega, if_pos q, e2_13]
  · rw [if_neg q]
    obtain ⟨h1, a1, w1, s1, l1, p1, f1⟩ := kq_3 c.w a (by omega) (by omega) (d + 9)
    obtain ⟨h2, a2, w2, s2, l2, p2, f2⟩ := kq_3 w1 b (by omega) (by omega) (d + 9)
    obtain ⟨h3, a3, w3, s3, l3, p3, f3⟩ := kq_3 w2 x (by omega) (by omega) (d + 9)
    obtain ⟨h4, a4, w4, s4, l4, p4, f4⟩ := kq_3 w3 y (by omega) (by omega) (d + 9)
    obtain ⟨h5, a5, w5, s5, l5, p5, f5⟩ := kq_3 w4 e (by omega) (by omega) (d + 9)
    have l5' : ld h5 1 1 = z.tn + 20 := by omega
    have fr : ∀ a j, a ≠ 2 → ¬ (a = 1 ∧ j = 1) → ld h5 a j = ld h a j := fun a j u v => (f5 a j u v).trans ((f4 a j u v).trans ((f3 a j u v).trans ((f2 a j u v).trans (f1 a j u v))))
    refine ⟨h5, ?_, CR_tape c w5 fr ?_ l5' (by omega), s5.trans (s4.trans (s3.trans (s2.trans s1))), fun a j u => fr a j (by omega) (by omega)⟩
    · rw [ce_2, e2_0, if_pos (F_a1 c.w), tn, show w32 (z.tn + 20) = z.tn + 20 by unfold w32; omega, if_neg q, e2_15, if_pos (F_a1 c.w), Cl_eq _ a1, if_pos (F_a1 w1), Cl_eq _ a2, e2_25, if_pos (F_a1 w2), Cl_eq _ a3, if_pos (F_a1 w3), Cl_eq _ a4, e2_36, if_pos (F_a1 w4), Cl_eq _ a5, if_pos (F_a1 w5), l5']
    · rw [p5, p4, p3, p2, p1, c.tp, l4, l3, l2, l1, tn, show z.tn + 4 + 4 + 4 + 4 = z.tn + 16 by omega, show z.tn + 4 + 4 + 4 = z.tn + 12 by omega, show z.tn + 4 + 4 = z.tn + 8 by omega]
theorem kq_5 (c : CR h z) (x : Int) (D : Nat) : C D 5 [(2, 1), (0, x)] h = some ((0, zFault x z), h) := by
  unfold zFault
  rw [ce_5, e5_0]
  by_cases q0 : x = 0
  · rw [if_pos q0, if_pos q0, e5_28, if_pos (F_a1 c.w), P_1_2 c.w, if_pos (F_a3 c.w), c.fk]
  · by_cases q1 : x = 1
    · rw [if_neg q0, if_neg q0, if_pos q1, if_pos q1, e5_36, if_pos (F_a1 c.w), P_1_2 c.w, if_pos (F_a3 c.w), c.fp]
    · rw [if_neg q0, if_neg q0, if_neg q1, if_neg q1, e5_44]
theorem kq_6 (c : CR h z) (x l : Int) (d : Nat) : C (d + 1) 6 [(2, 1), (0, x), (0, l)] h = some ((0, zNamed x l z), h) := by
  have hT : TOK (tC h (ld h 1 3)) := c.ck.2.2.2.2.1
  unfold zNamed
  rw [ce_6, e6_0]
  by_cases q0 : x = 0
  · rw [if_pos q0, if_pos q0, e6_28, if_pos (F_a1 c.w), if_pos (c3 c), Cl_eq _ (kq_70 c.w c.hb hT d l), c.T]
  · by_cases q1 : x = 1
    · rw [if_neg q0, if_neg q0, if_pos q1, if_pos q1, e6_37, if_pos (F_a1 c.w), if_pos (c3 c), Cl_eq _ (kq_71 c.w c.hb hT d l), c.T]
    · rw [if_neg q0, if_neg q0, if_neg q1, if_neg q1, e6_46]
theorem cday (c : CR h z) : ld h 97 1 = z.S 0 0 := congrFun (congrFun c.S 0) 0
theorem kq_11 (c : CR h z) (t x : Int) (D : Nat) : C D 11 [(2, 1), (0, t), (0, x)] h = some ((0, zLog t x z), h) := by
  have hd := c.dok
  unfold DOK at hd
  unfold zLog
  rw [ce_11, e11_0]
  by_cases q0 : t < 0
  · rw [if_pos q0, if_pos (Or.inl q0), e11_30]
  rw [if_neg q0, if_pos (F_a1 c.w), P_1_5 c.w, if_pos (F_a97 c.w), cday c]
  by_cases q1 : t < z.S 0 0
  · rw [if_pos q1, e11_15, if_pos (by omega)]
    by_cases q2 : x < 0
    · rw [if_pos q2, if_pos (by omega), e11_30]
    rw [if_neg q2, e11_25]
    by_cases q3 : 2 < x
    · rw [if_pos q3, if_pos (by omega), e11_30]
    have hx : x = 0 ∨ x = 1 ∨ x = 2 := by omega
    have g := c.dg x t (by omega) (by omega) (by omega) (by omega)
    rw [if_neg q3, if_neg (by omega), e11_32, if_pos (F_a1 c.w), P_1_11 c.w, if_pos (F_a287 c.w), L_a287 c.w, if_pos (by omega)]
    rcases hx with rfl | rfl | rfl
    · rw [P_287_0 c.w, if_pos (F_a288 c.w), L_a288 c.w, if_pos (by omega), ← g]; rfl
    · rw [P_287_1 c.w, if_pos (F_a289 c.w), L_a289 c.w, if_pos (by omega), ← g]; rfl
    · rw [P_287_2 c.w, if_pos (F_a290 c.w), L_a290 c.w, if_pos (by omega), ← g]; rfl
  · rw [if_neg q1, if_pos (by omega), e11_30]
theorem kq_23 (c : CR h z) (p k : Int) (d : Nat) : C (d + 1) 23 [(2, 1), (0, p), (0, k)] h = some ((0, zOwner p k z), h) := by
  have k0 : SOK (sV h 97 (ld h 1 3)) := by rw [c.S]; exact c.ok
  unfold zOwner
  rw [ce_23, e23_0, if_pos (F_a1 c.w), if_pos (c3 c), Cl_eq _ (kq_68 c.w c.hb d p), c.T]
  cases hq : qPie z.T p with
  | false => rw [if_pos bI_f, if_pos (Or.inl rfl), e23_15]
  | true =>
    rw [if_neg (by decide), e23_11]
    by_cases q : k < 0
    · rw [if_pos q, if_pos (Or.inr q), e23_15]
    · rw [if_neg q, if_neg (by rintro (u | u); · cases u
                               · exact q u), e23_17, if_pos (F_a1 c.w), P_1_5 c.w, if_pos (F_a97 c.w), Cl_eq _ (kq_103 c.ck k0 p k d), c.S]
theorem kq_24 (c : CR h z) (d : Nat) : OPc h z (d + 2) 24 [(2, 1)] 0 (zUndo z).1 (zUndo z).2 := by
  unfold zUndo
  have e : ∀ k, C (d + 2) 24 [(2, 1)] h = Cl (d + 2) 134 [(2, 121), (2, 97)] 0 h k → True := fun _ _ => trivial
  cases hp : z.past with
  | nil =>
    have hz : ld h 121 2 = 0 := by rw [c.pz, hp]; rfl
    refine OPc_rf c ?_
    rw [ce_24, e24_0, if_pos (F_a1 c.w), if_pos (F_a1 c.w), P_1_9 c.w, P_1_5 c.w, if_pos (F_a121 c.w), Cl_eq _ (kq_134z (s := 97) c.w hz (d + 1))]
  | cons P l =>
    obtain ⟨h', a, c', f⟩ := CR_pop c hp d
    exact ⟨h', by rw [ce_24, e24_0, if_pos (F_a1 c.w), if_pos (F_a1 c.w), P_1_9 c.w, P_1_5 c.w, if_pos (F_a121 c.w), Cl_eq _ a], c', f⟩
theorem kq_127z (c : CR h z) (kd ab : Int) (d : Nat) : OPc h z d 127 [(2, 308), (0, kd), (0, ab)] 0 (zAdd kd ab z).1 (zAdd kd ab z).2 := by
  have sz := c.sz
  have szb := c.szb
  obtain ⟨a, w'⟩ := kq_127 c.w d kd ab (by omega)
  unfold zAdd
  rw [sz] at a w'
  by_cases q : z.sz < 24
  · rw [if_pos q] at a ⊢
    have fr : ∀ a j, a ≠ 309 → a ≠ 310 → ¬ (a = 308 ∧ (j = 2 ∨ j = 3)) → ld (st (st (st h 309 z.sz kd) 310 z.sz ab) 308 2 (z.sz + 1)) a j = ld h a j := fun a j u v x => by rw [ld_st_ne (by omega), ld_st_ne (Or.inl v), ld_st_ne (Or.inl u)]
    refine ⟨_, a, ?_, rfl, fun a j u => fr a j (by omega) (by omega) (by omega)⟩
    refine CR_see (kb' := z.kb) c (w' q) fr (fun k k0 k1 => ?_) (fun k k0 k1 => ?_) (ld_st_eq _ _ _ _) (by omega) ?_ (by have := c.kbb; omega)
    · rw [ld_st_ne (Or.inl (by decide)), ld_st_ne (Or.inl (by decide)), ld_up, c.sk k k0 k1]; rfl
    · rw [ld_st_ne (Or.inl (by decide)), ld_up, ld_st_ne (Or.inl (by decide)), c.sa k k0 k1]; rfl
    · rw [ld_st_ne (Or.inr (by decide)), ld_st_ne (Or.inl (by decide)), ld_st_ne (Or.inl (by decide))]; exact c.kb
  · rw [if_neg q] at a ⊢
    exact OPc_rf c a
theorem kq_25 (c : CR h z) (f i : Int) (d : Nat) : OPc h z (d + 1) 25 [(2, 1), (0, f), (0, i)] 0 (zSee f i z).1 (zSee f i z).2 := by
  unfold zSee
  have e0 : C (d + 1) 25 [(2, 1), (0, f), (0, i)] h = if bI (qFea z.T f) = 0 then some ((0, -1), h) else V (d + 1) 25 13 [(2, 1), (0, f), (0, i)] [] h := by
    rw [ce_25, e25_0, if_pos (F_a1 c.w), if_pos (c3 c), Cl_eq _ (kq_66 c.w c.hb d f), c.T, e25_11]
  cases hq : qFea z.T f with
  | false => rw [if_pos rfl]; exact OPc_rf c (by rw [e0, hq, if_pos bI_f])
  | true =>
    rw [if_neg (by decide)]
    rw [hq, if_neg (by decide)] at e0
    obtain ⟨h', a, c', fr⟩ := kq_127z c (if i = 0 then 0 else 1) f d
    refine ⟨h', ?_, c', fr⟩
    rw [e0, e25_13, if_pos (F_a1 c.w), P_1_14 c.w]
    by_cases q : i = 0
    · rw [if_pos q] at a ⊢
      rw [e25_25, e25_26, if_pos (F_a308 c.w), Cl_eq _ a, if_pos q]
    · rw [if_neg q] at a ⊢
      rw [e25_26, if_pos (F_a308 c.w), Cl_eq _ a, if_neg q]
theorem kq_26 (c : CR h z) (k : Int) (d : Nat) : OPc h z (d + 1) 26 [(2, 1), (0, k)] 0 (zStrike k z).1 (zStrike k z).2 := by
  unfold zStrike
  by_cases q0 : k < 0
  · rw [if_pos (Or.inl q0)]; exact OPc_rf c (by rw [ce_26, e26_0, if_pos q0, e26_15])
  by_cases q1 : k < z.sz
  · rw [if_neg (by omega)]
    obtain ⟨h', a, c', fr⟩ := kq_127z c 2 k d
    exact ⟨h', by rw [ce_26, e26_0, if_neg q0, if_pos (F_a1 c.w), P_1_14 c.w, if_pos (F_a308 c.w), c.sz, if_pos q1, e26_17, if_pos (F_a1 c.w), P_1_14 c.w, if_pos (F_a308 c.w), Cl_eq _ a], c', fr⟩
  · rw [if_pos (Or.inr q1)]; exact OPc_rf c (by rw [ce_26, e26_0, if_neg q0, if_pos (F_a1 c.w), P_1_14 c.w, if_pos (F_a308 c.w), c.sz, if_neg q1, e26_15])
theorem kq_27 (c : CR h z) (n : Int) (D : Nat) : OPc h z D 27 [(2, 1), (0, n)] 0 (zKnown n z).1 (zKnown n z).2 := by
  unfold zKnown
  by_cases q0 : n < -1
  · rw [if_pos (Or.inl q0)]; exact OPc_rf c (by rw [ce_27, e27_0, if_pos q0, e27_16, if_pos (by decide)])
  by_cases q1 : z.sz < n
  · rw [if_pos (Or.inr q1)]; exact OPc_rf c (by rw [ce_27, e27_0, if_neg q0, if_pos (F_a1 c.w), P_1_14 c.w, if_pos (F_a308 c.w), c.sz, if_pos q1, e27_16, if_pos (by decide)])
  · rw [if_neg (by omega)]
    have fr : ∀ a j, a ≠ 309 → a ≠ 310 → ¬ (a = 308 ∧ (j = 2 ∨ j = 3)) → ld (st h 308 3 n) a j = ld h a j := fun a j u v x => ld_st_ne (by omega)
    refine ⟨st h 308 3 n, ?_, CR_see (sk' := z.sk) (sa' := z.sa) (sz' := z.sz) c (wf_st c.w (n308 3 (by decide))) fr (fun k k0 k1 => (ld_st_ne (Or.inl (by decide))).trans (c.sk k k0 k1)) (fun k k0 k1 => (ld_st_ne (Or.inl (by decide))).trans (c.sa k k0 k1)) ((ld_st_ne (Or.inr (by decide))).trans c.sz) c.szb (ld_st_eq _ _ _ _) (by omega), rfl, fun a j u => ld_st_ne (Or.inl (by omega))⟩
    rw [ce_27, e27_0, if_neg q0, if_pos (F_a1 c.w), P_1_14 c.w, if_pos (F_a308 c.w), c.sz, if_neg q1, e27_18, if_pos (F_a1 c.w), P_1_14 c.w, if_pos (W_a308 c.w), if_pos (by decide)]
theorem kq_29 (c : CR h z) (D : Nat) : C D 29 [(2, 1)] h = some ((0, z.S 4 0), h) := by
  rw [ce_29, e29_0, if_pos (F_a1 c.w), P_1_5 c.w, if_pos (F_a97 c.w), show ld h 97 5 = z.S 4 0 from congrFun (congrFun c.S 4) 0]
end PB
