/-! layer 2: the plain program reads a line, all lines -/
section LN
variable {h h' : Hp} {tp : Int → Int} {n pl : Int} {T : Wd} {tw hl kn ln : Int}
theorem adv_ge (tp : Int → Int) (n pl : Int) : pl ≤ adv tp n pl := by
  by_cases q : pl < n
  · exact Int.le_of_lt (adv_gt q).1
  · unfold adv lTok
    rw [if_pos q]
    exact (lxr_b cws tp (n - pl).toNat pl).1
def LnP (pl : Int) : LnR → Prop
  | .error _ => True
  | .ok (_, _, _, _, p') => pl ≤ p'
theorem LnP_ite {c : Prop} [Decidable c] {A B : LnR} (a : LnP pl A) (b : LnP pl B) : LnP pl (if c then A else B) := by split <;> assumption
theorem LnP_mono {p2 : Int} (e : pl ≤ p2) : ∀ (R : LnR), LnP p2 R → LnP pl R
  | .error _, _ => trivial
  | .ok (_, _, _, _, p'), r => by
    have r : p2 ≤ p' := r
    show pl ≤ p'
    omega
theorem haL_P (n tw kn : Int) : ∀ (m : Nat) (k : Int) (T : Wd) (pl : Int), LnP pl (haL tp n tw kn m k T pl)
  | 0, _, _, pl => Int.le_refl pl
  | m + 1, k, T, pl => by
    unfold haL
    exact LnP_ite (LnP_ite trivial (LnP_mono (adv_ge tp n pl) _ (haL_P n tw kn m _ _ _))) (Int.le_refl pl)
theorem clL_P {k : Nat} : ∀ (m : Nat) (due : Bool) (T : Wd) (W : List Int) (op kn pl : Int), LnP pl (clL tp n k tw hl m due T W op kn pl)
  | 0, _, _, _, _, _, _ => trivial
  | m + 1, due, T, W, op, kn, pl => by
    unfold clL
    refine LnP_ite ?_ (LnP_ite ?_ (LnP_ite (LnP_mono (adv_ge tp n pl) _ (clL_P m _ _ _ _ _ _)) (LnP_ite (Int.le_refl pl) trivial)))
    · generalize clOpd tp n k T W op kn pl = R at *
      cases R with
      | error e => trivial
      | ok v => exact LnP_mono (adv_ge tp n pl) _ (clL_P m _ _ _ _ _ _)
    · generalize clOpr tp n k T W op kn pl = R at *
      cases R with
      | error e => trivial
      | ok v => exact LnP_mono (adv_ge tp n pl) _ (clL_P m _ _ _ _ _ _)
theorem adv2 (tp : Int → Int) (n pl : Int) : pl ≤ adv tp n (adv tp n pl) := Int.le_trans (adv_ge tp n pl) (adv_ge tp n _)
theorem adv3 (tp : Int → Int) (n pl : Int) : pl ≤ adv tp n (adv tp n (adv tp n pl)) := Int.le_trans (adv2 tp n pl) (adv_ge tp n _)
theorem adv4 (tp : Int → Int) (n pl : Int) : pl ≤ adv tp n (adv tp n (adv tp n (adv tp n pl))) := Int.le_trans (adv3 tp n pl) (adv_ge tp n _)
theorem lnX_P : LnP pl (lnX tp n T tw hl kn pl) := by
  have t : ∀ e, LnP pl (.error e) := fun _ => trivial
  unfold lnX
  refine LnP_ite ?_ (LnP_ite ?_ (LnP_ite ?_ (LnP_ite ?_ (LnP_ite ?_ (LnP_ite ?_ (LnP_ite ?_ (LnP_ite ?_ (t _))))))))
  · unfold lnFea; exact LnP_ite (t _) (LnP_ite (t _) (LnP_ite (t _) (LnP_ite (t _) (LnP_ite (t _) (adv4 tp n pl)))))
  · unfold lnSit; exact LnP_ite (t _) (LnP_ite (t _) (LnP_ite (t _) (LnP_ite (t _) (LnP_ite (t _) (adv4 tp n pl)))))
  · unfold lnWan; exact LnP_ite (t _) (LnP_ite (t _) (LnP_ite (t _) (LnP_ite (t _) (LnP_ite (t _) (adv4 tp n pl)))))
  · unfold lnKin; exact LnP_ite (t _) (LnP_ite (t _) (LnP_ite (t _) (LnP_ite (t _) (LnP_ite (t _) (adv4 tp n pl)))))
  · unfold lnTwi; exact LnP_ite (t _) (LnP_ite (t _) (LnP_ite (t _) (LnP_ite (t _) (LnP_ite (t _) (LnP_ite (t _) (adv3 tp n pl))))))
  · unfold lnHei
    exact LnP_ite (t _) (LnP_ite (t _) (LnP_ite (t _) (LnP_ite (t _) (adv3 tp n pl))))
  · unfold lnHai; exact LnP_ite (t _) (LnP_ite (t _) (LnP_mono (adv_ge tp n pl) _ (haL_P n tw kn _ _ _ _)))
  · unfold lnLaw; exact LnP_ite (t _) (LnP_ite (t _) (LnP_mono (adv2 tp n pl) _ (clL_P _ _ _ _ _ _ _)))
theorem PR_24 {op : Int} (p : PR h tp n pl T tw hl kn op ln) (v : Int) : PR (st h 311 24 v) tp n pl T tw hl kn op v := by
  have w' : WF (st h 311 24 v) := wf_st p.1.1 (npt_J (by decide +kernel))
  obtain ⟨⟨-, c2, c3, c4, c5, c6⟩, p2, p3, p4, p5, p6, p7, p8, p9, p10, p11, p12, p13, p14⟩ := p
  have g : ∀ j', j' ≠ 24 → ld (st h 311 24 v) 311 j' = ld h 311 j' := fun j' u => ld_st_ne (Or.inr u)
  have go : ∀ a j', a ≠ 311 → ld (st h 311 24 v) a j' = ld h a j' := fun a j' u => ld_st_ne (Or.inl u)
  exact ⟨⟨w', fun j' j0 j1 => by rw [go 312 j' (by decide)]; exact c2 j' j0 j1, (g 25 (by decide)).trans c3, c4, (g 26 (by decide)).trans c5, c6⟩, (g 27 (by decide)).trans p2, by rw [g 28 (by decide), g 29 (by decide)]; exact p3, (g 30 (by decide)).trans p4, (g 31 (by decide)).trans p5, RT_eq p6 (shf_wf w') (fun x j u v => by rw [shf_in _ ⟨u, v⟩, shf_in _ ⟨u, v⟩, go x _ (by omega)]), (go 313 11 (by decide)).trans p7, by rw [g 23 (by decide)]; exact p8, fun k hk => by rw [g 23 (by decide)]; exact p9 k hk, by rw [g 23 (by decide)]; exact p10, (g 35 (by decide)).trans p11, (g 34 (by decide)).trans p12, ld_st_eq _ _ _ _, KC_eq p14 (go 313 13 (by decide)) (fun j => go 330 j (by decide)) (fun _ _ _ => Or.inr rfl) p14.2.2.2.1 (Or.inl rfl) p14.2.2.2.2.2⟩
/-- a line and its ; -/
def LnE (tp : Int → Int) (n ln : Int) (h' : Hp) : LnR → Prop
  | .error (k, pc) => ¬ k = 0 ∧ ld h' 311 30 = k ∧ ld h' 311 31 = pc
  | .ok (T', tw', hl', kn', p') => (tkn tp n p' = -5 ∧ PR h' tp n (adv tp n p') T' tw' hl' kn' 0 (ln + 1)) ∨ (¬ tkn tp n p' = -5 ∧ ld h' 311 30 = 1 ∧ ld h' 311 31 = p')
theorem rk_end (w : WF h) {R : LnR} (lo : LO tp n 0 ln h R) (hl : 0 ≤ ln ∧ ln ≤ 700) (d : Nat) : ∃ h', V (d + 6) 158 313 [(2, 311), (9, 0), (9, 0), (9, 0)] [] h = some ((9, 0), h') ∧ FrX h h' ∧ LnE tp n ln h' R := by
  cases R with
  | error e =>
    obtain ⟨k, pc⟩ := e
    obtain ⟨k0, e1, e2⟩ := lo
    exact ⟨h, by rw [e158_313, if_pos (F_a311 w), e1, if_neg k0], FrX_rf w, k0, e1, e2⟩
  | ok v =>
    obtain ⟨T', tw', hl', kn', p'⟩ := v
    have p : PR h tp n p' T' tw' hl' kn' 0 ln := lo
    have r := rk_147t p.pp (t := -5) (by decide) (d + 5)
    rw [show svt (-5) = 59 from rfl] at r
    rw [e158_313, if_pos (F_a311 w), p.2.2.2.1, if_pos rfl, e158_321, if_pos (F_a311 w), Cl_eq _ r]
    by_cases q : tkn tp n p' = -5
    · obtain ⟨h1, a1, f1, p1⟩ := PR_adv p d
      have w1 := f1.1
      have p2 := PR_24 p1 (ln + 1)
      refine ⟨st h1 311 24 (ln + 1), ?_, FrX_tr (FrX_L f1) ⟨p2.1.1, rfl, fun a j e1 _ => ld_st_ne (by omega)⟩, Or.inl ⟨q, p2⟩⟩
      rw [decide_eq_true q, if_neg (by decide), e158_338, if_pos (F_a311 w), Cl_eq _ a1, e158_342, if_pos (F_a311 w1), if_pos (W_a311 w1), p1.2.2.2.2.2.2.2.2.2.2.2.2.1, show w32 (ln + 1) = ln + 1 by unfold w32; omega, e158_352]
    · have wf := flt_w w 1 p'
      have w2 : WF (st (flt h 1 p') 311 24 (w32 (ld (flt h 1 p') 311 24 + 1))) := wf_st wf (npt_J (by decide +kernel))
      refine ⟨st (flt h 1 p') 311 24 (w32 (ld (flt h 1 p') 311 24 + 1)), ?_, FrX_tr (flt_F w 1 p') ⟨w2, rfl, fun a j e1 _ => ld_st_ne (by omega)⟩, Or.inr ⟨q, ?_, ?_⟩⟩
      · rw [decide_eq_false q, if_pos bI_f, if_pos (F_a311 w), Cl_eq _ (rk_145p p.pp 1 (d + 5)), e158_335, e158_342, if_pos (F_a311 wf), if_pos (W_a311 wf), e158_352]
      · rw [ld_st_ne (Or.inr (by decide)), flt_30]
      · rw [ld_st_ne (Or.inr (by decide)), flt_31]
theorem and_b0 {x : Int} (hx : 0 ≤ x ∧ x < 16) : and32 x 1 = bt x 0 := by
  have : x = 0 ∨ x = 1 ∨ x = 2 ∨ x = 3 ∨ x = 4 ∨ x = 5 ∨ x = 6 ∨ x = 7 ∨ x = 8 ∨ x = 9 ∨ x = 10 ∨ x = 11 ∨ x = 12 ∨ x = 13 ∨ x = 14 ∨ x = 15 := by omega
  rcases this with rfl | rfl | rfl | rfl | rfl | rfl | rfl | rfl | rfl | rfl | rfl | rfl | rfl | rfl | rfl | rfl <;> decide
theorem rk_158 (p : PR h tp n pl T tw hl kn 0 ln) (iv : INV tw kn) (hln : 0 ≤ ln ∧ ln ≤ 700) (d : Nat) : ∃ h', C (d + 180) 158 [(2, 311)] h = some ((9, 0), h') ∧ FrX h h' ∧ LnE tp n ln h' (lnX tp n T tw hl kn pl) := by
  have w := p.1.1
  have tb := (tkn_c tp n pl).1
  have ls := p.2.2.1
  have hT := p.2.2.2.2.2.1.K
  have hI := p.2.2.2.2.2.1.2.2.2.1
  have kc := p.2.2.2.2.2.2.2.2.2.2.2.2.2
  have t0 := hT.1
  have t1 := hT.2.1
  have t2 := hT.2.2.1
  have t3 := hT.2.2.2.1
  have e16 : V (d + 180) 158 16 [(2, 311), (9, 0), (9, 0), (9, 0)] [] h = some ((9, 0), flt h 1 pl) := by
    rw [e158_16, if_pos (F_a311 w), Cl_eq _ (rk_145p p.pp 1 (d + 179))]
  by_cases q : -28 ≤ tkn tp n pl ∧ tkn tp n pl ≤ -21
  · have hw : ld h 311 28 = 0 ∧ ld h 311 29 = rwi (-1 - tkn tp n pl) := by
      unfold LSx at ls
      rcases ls with u | u | u | u | u | u <;> first | exact u.2 | (exfalso; omega)
    obtain ⟨-, -, -, r4⟩ := lrw_t (t := tkn tp n pl) (by omega)
    have ev : ld h 311 29 = -21 - tkn tp n pl := hw.2.trans (r4 q)
    have hpn := tk_lt (tp := tp) (show ¬ tkn tp n pl = -1 by omega)
    have r157 := rk_157 p (-21 - tkn tp n pl) (d + 178)
    have e22 : C (d + 180) 158 [(2, 311)] h = if bI (pfl T tw (-21 - tkn tp n pl)) = 0 then V (d + 180) 158 43 [(2, 311), (0, -21 - tkn tp n pl), (9, 0), (9, 0)] [] h else V (d + 180) 158 35 [(2, 311), (0, -21 - tkn tp n pl), (9, 0), (9, 0)] [] h := by
      rw [ce_158, e158_0, if_pos (F_a311 w), if_pos hw.1, if_pos (F_a311 w), ev, if_neg (by omega), e158_22, if_pos (F_a311 w), if_pos (F_a311 w), ev, Cl_eq _ r157]
    rw [e22]
    have full : ∀ (R : LnR), R = .error (2, pl) → pfl T tw (-21 - tkn tp n pl) = true → ∃ h', (if bI (pfl T tw (-21 - tkn tp n pl)) = 0 then V (d + 180) 158 43 [(2, 311), (0, -21 - tkn tp n pl), (9, 0), (9, 0)] [] h else V (d + 180) 158 35 [(2, 311), (0, -21 - tkn tp n pl), (9, 0), (9, 0)] [] h) = some ((9, 0), h') ∧ FrX h h' ∧ LnE tp n ln h' R := fun R eR hp => by
      have wf := flt_w w 2 pl
      refine ⟨flt h 2 pl, ?_, flt_F w 2 pl, by rw [eR]; exact ⟨by decide, flt_30 _ _ _, flt_31 _ _ _⟩⟩
      rw [hp, if_neg (by decide), e158_35, if_pos (F_a311 w), Cl_eq _ (rk_145p p.pp 2 (d + 179)), e158_64, if_pos (F_a311 wf), flt_30, if_neg (by decide)]
    obtain ⟨h1, a1, f1, p1⟩ := PR_adv p (d + 174)
    have w1 := f1.1
    have go72 : ¬ -21 - tkn tp n pl = 6 ∨ hl = 0 → pfl T tw (-21 - tkn tp n pl) = false → ∀ B, (∀ x, x = -21 - tkn tp n pl → V (d + 180) 158 72 [(2, 311), (0, x), (9, 0), (9, 0)] [] h = B) → (if bI (pfl T tw (-21 - tkn tp n pl)) = 0 then V (d + 180) 158 43 [(2, 311), (0, -21 - tkn tp n pl), (9, 0), (9, 0)] [] h else V (d + 180) 158 35 [(2, 311), (0, -21 - tkn tp n pl), (9, 0), (9, 0)] [] h) = B := fun h6 hp B hB => by
      have e64 : V (d + 180) 158 64 [(2, 311), (0, -21 - tkn tp n pl), (9, 0), (9, 0)] [] h = B := by
        rw [e158_64, if_pos (F_a311 w), p.2.2.2.1, if_pos rfl]; exact hB _ rfl
      rw [hp, if_pos bI_f, e158_43]
      by_cases y : -21 - tkn tp n pl = 6
      · have hl0 : hl = 0 := h6.resolve_left (fun u => u y)
        have b0 := p.2.2.2.2.2.2.2.1
        rw [if_pos y, if_pos (F_a311 w), and_b0 p.2.2.2.2.2.2.2.2.2.1, b0, hl0, if_neg (by decide), e64]
      · rw [if_neg y, e64]
    have fin : ∀ (R R' : LnR) (h2 : Hp), pfl T tw (-21 - tkn tp n pl) = false → (¬ -21 - tkn tp n pl = 6 ∨ hl = 0) → (∀ x, x = -21 - tkn tp n pl → V (d + 180) 158 72 [(2, 311), (0, x), (9, 0), (9, 0)] [] h = V (d + 180) 158 313 [(2, 311), (9, 0), (9, 0), (9, 0)] [] h2) → FrX h1 h2 → LO tp n 0 ln h2 R' → (R' = R ∨ ∃ T' tw' hl' kn' p', R' = .ok (T', tw', hl', kn', p') ∧ ¬ tkn tp n p' = -5 ∧ R = .error (1, p')) → ∃ h', (if bI (pfl T tw (-21 - tkn tp n pl)) = 0 then V (d + 180) 158 43 [(2, 311), (0, -21 - tkn tp n pl), (9, 0), (9, 0)] [] h else V (d + 180) 158 35 [(2, 311), (0, -21 - tkn tp n pl), (9, 0), (9, 0)] [] h) = some ((9, 0), h') ∧ FrX h h' ∧ LnE tp n ln h' R := fun R R' h2 hp h6 hB f2 lo rr => by
      obtain ⟨h', a', f', l'⟩ := rk_end f2.1 lo hln (d + 174)
      refine ⟨h', (go72 h6 hp _ hB).trans a', FrX_tr (FrX_L f1) (FrX_tr f2 f'), ?_⟩
      rcases rr with e | ⟨T', tw', hl', kn', p', e1, e2, e3⟩
      · rw [← e]; exact l'
      · rw [e1] at l'
        rw [e3]
        rcases l' with ⟨u, -⟩ | ⟨-, u2, u3⟩
        · exact absurd u e2
        · exact ⟨by decide, u2, u3⟩
    have pf : ∀ x : Int, -21 - tkn tp n pl = x → pfl T tw (-21 - tkn tp n pl) = pfl T tw x := fun x e => by rw [e]
    have c0 := PR_c0 p1
    unfold lnX
    by_cases u1 : tkn tp n pl = -21
    · have ex : -21 - tkn tp n pl = 0 := by omega
      rw [if_pos u1]
      by_cases z : T 0 0 < 5
      · obtain ⟨h2, a2, f2, l2⟩ := rk_fea p1 z 0 (d + 173)
        refine fin _ _ h2 (by rw [pf 0 ex]; show decide (T 0 0 = 5) = false; exact decide_eq_false (by omega)) (Or.inl (by omega)) (fun x hx => ?_) f2 l2 (Or.inl ?_)
        · rw [show x = 0 by omega, e158_72, if_pos (F_a311 w), Cl_eq _ a1, if_pos rfl, a2]
        · show _ = (if ¬ T 0 0 < 5 then _ else _)
          rw [if_neg (fun v => v z)]; rfl
      · exact full _ (by show (if ¬ T 0 0 < 5 then _ else _) = _; rw [if_pos z]) (by rw [pf 0 ex]; show decide (T 0 0 = 5) = true; exact decide_eq_true (by omega))
    rw [if_neg u1]
    by_cases u2 : tkn tp n pl = -22
    · have ex : -21 - tkn tp n pl = 1 := by omega
      rw [if_pos u2]
      by_cases z : T 1 0 < 5
      · obtain ⟨h2, a2, f2, l2⟩ := rk_sit p1 z (d + 173)
        refine fin _ _ h2 (by rw [pf 1 ex]; show decide (T 1 0 = 5) = false; exact decide_eq_false (by omega)) (Or.inl (by omega)) (fun x hx => ?_) f2 l2 (Or.inl ?_)
        · rw [show x = 1 by omega, e158_72, if_pos (F_a311 w), Cl_eq _ a1, if_neg (by decide), if_pos rfl, a2]
        · show _ = (if ¬ T 1 0 < 5 then _ else _)
          rw [if_neg (fun v => v z)]; rfl
      · exact full _ (by show (if ¬ T 1 0 < 5 then _ else _) = _; rw [if_pos z]) (by rw [pf 1 ex]; show decide (T 1 0 = 5) = true; exact decide_eq_true (by omega))
    rw [if_neg u2]
    by_cases u3 : tkn tp n pl = -23
    · have ex : -21 - tkn tp n pl = 2 := by omega
      rw [if_pos u3]
      by_cases z : T 2 0 < 10
      · obtain ⟨h2, a2, f2, l2⟩ := rk_159 p1 z (d + 172)
        have r155 := rk_155 w1 (x := 2) (by decide) (d + 179)
        rw [show (7 : Int) + 2 = 9 by decide, c0.2.2.1] at r155
        refine fin _ _ h2 (by rw [pf 2 ex]; show decide (T 2 0 = 10) = false; exact decide_eq_false (by omega)) (Or.inl (by omega)) (fun x hx => ?_) f2 l2 (Or.inl ?_)
        · rw [show x = 2 by omega, e158_72, if_pos (F_a311 w), Cl_eq _ a1, if_neg (by decide), if_neg (by decide), if_pos rfl, e158_259, if_pos (F_a311 w1), Cl_eq _ r155, if_pos (F_a311 w1), show w32 (10 + T 2 0) = 10 + T 2 0 by unfold w32; omega, Cl_eq _ a2, e158_271]
        · show _ = (if ¬ T 2 0 < 10 then _ else _)
          rw [if_neg (fun v => v z)]; rfl
      · exact full _ (by show (if ¬ T 2 0 < 10 then _ else _) = _; rw [if_pos z]) (by rw [pf 2 ex]; show decide (T 2 0 = 10) = true; exact decide_eq_true (by omega))
    rw [if_neg u3]
    by_cases u4 : tkn tp n pl = -24
    · have ex : -21 - tkn tp n pl = 3 := by omega
      rw [if_pos u4]
      by_cases z : T 3 0 < 3
      · obtain ⟨h2, a2, f2, l2⟩ := rk_160 p1 z (d + 172)
        have r155 := rk_155 w1 (x := 3) (by decide) (d + 179)
        rw [show (7 : Int) + 3 = 10 by decide, c0.2.2.2] at r155
        refine fin _ _ h2 (by rw [pf 3 ex]; show decide (T 3 0 = 3) = false; exact decide_eq_false (by omega)) (Or.inl (by omega)) (fun x hx => ?_) f2 l2 (Or.inl ?_)
        · rw [show x = 3 by omega, e158_72, if_pos (F_a311 w), Cl_eq _ a1, if_neg (by decide), if_neg (by decide), if_neg (by decide), if_pos rfl, e158_274, if_pos (F_a311 w1), Cl_eq _ r155, if_pos (F_a311 w1), show w32 (3 + T 3 0) = 3 + T 3 0 by unfold w32; omega, Cl_eq _ a2, e158_285]
        · show _ = (if ¬ T 3 0 < 3 then _ else _)
          rw [if_neg (fun v => v z)]; rfl
      · exact full _ (by show (if ¬ T 3 0 < 3 then _ else _) = _; rw [if_pos z]) (by rw [pf 3 ex]; show decide (T 3 0 = 3) = true; exact decide_eq_true (by omega))
    rw [if_neg u4]
    by_cases u5 : tkn tp n pl = -25
    · have ex : -21 - tkn tp n pl = 4 := by omega
      have tw2 := kc.2.2.2.1
      have tw0 := iv.1
      rw [if_pos u5]
      by_cases z : tw < 2
      · obtain ⟨h2, a2, f2, l2⟩ := rk_161 p1 ⟨tw0, z⟩ (d + 172)
        refine fin _ _ h2 (by rw [pf 4 ex]; show decide (tw = 2) = false; exact decide_eq_false (by omega)) (Or.inl (by omega)) (fun x hx => ?_) f2 l2 (Or.inl ?_)
        · rw [show x = 4 by omega, e158_72, if_pos (F_a311 w), Cl_eq _ a1, if_neg (by decide), if_neg (by decide), if_neg (by decide), if_neg (by decide), if_pos rfl, e158_288, if_pos (F_a311 w1), Cl_eq _ a2]
        · show _ = (if ¬ tw < 2 then _ else _)
          rw [if_neg (fun v => v z)]; rfl
      · exact full _ (by show (if ¬ tw < 2 then _ else _) = _; rw [if_pos z]) (by rw [pf 4 ex]; show decide (tw = 2) = true; exact decide_eq_true (by omega))
    rw [if_neg u5]
    by_cases u6 : tkn tp n pl = -26
    · have ex : -21 - tkn tp n pl = 5 := by omega
      rw [if_pos u6]
      obtain ⟨h2, a2, f2, l2⟩ := rk_162 p1 (fun s t hs ht hst => ⟨TOK_hei hT ht hst, I32_up2 hI (I32_of (by omega))⟩) (d + 172)
      refine fin _ _ h2 (by rw [pf 5 ex]; rfl) (Or.inl (by omega)) (fun x hx => ?_) f2 l2 (Or.inl rfl)
      rw [show x = 5 by omega, e158_72, if_pos (F_a311 w), Cl_eq _ a1, if_neg (by decide), if_neg (by decide), if_neg (by decide), if_neg (by decide), if_neg (by decide), if_pos rfl, e158_295, if_pos (F_a311 w1), Cl_eq _ a2]
    rw [if_neg u6]
    by_cases u7 : tkn tp n pl = -27
    · have ex : -21 - tkn tp n pl = 6 := by omega
      rw [if_pos u7]
      by_cases z : hl = 0
      · subst z
        obtain ⟨h2, a2, f2, l2⟩ := rk_163 p1 (kc.2.2.2.2.1 rfl) (d + 172)
        refine fin _ _ h2 (by rw [pf 6 ex]; rfl) (Or.inr rfl) (fun x hx => ?_) f2 l2 (Or.inl ?_)
        · rw [show x = 6 by omega, e158_72, if_pos (F_a311 w), Cl_eq _ a1, if_neg (by decide), if_neg (by decide), if_neg (by decide), if_neg (by decide), if_neg (by decide), if_neg (by decide), if_pos rfl, e158_302, if_pos (F_a311 w1), Cl_eq _ a2]
        · rfl
      · have b0 := p.2.2.2.2.2.2.2.1
        have b1 := bt_b (ld h 311 23) 0
        have hl1 : hl = 1 := by rw [b0] at b1; omega
        have wf := flt_w w 3 pl
        refine ⟨flt h 3 pl, ?_, flt_F w 3 pl, ?_⟩
        · rw [pf 6 ex, show pfl T tw 6 = false from rfl, if_pos bI_f, e158_43, if_pos ex, if_pos (F_a311 w), and_b0 p.2.2.2.2.2.2.2.2.2.1, b0, hl1, if_pos rfl, e158_59, if_pos (F_a311 w), Cl_eq _ (rk_145p p.pp 3 (d + 179)), e158_64, if_pos (F_a311 wf), flt_30, if_neg (by decide)]
        · show LnE tp n ln (flt h 3 pl) (if ¬ hl = 0 then .error (3, pl) else _)
          rw [if_pos z]
          exact ⟨by decide, flt_30 _ _ _, flt_31 _ _ _⟩
    rw [if_neg u7]
    have u8 : tkn tp n pl = -28 := by omega
    have ex : -21 - tkn tp n pl = 7 := by omega
    rw [if_pos u8]
    obtain ⟨h2, R2, a2, f2, l2, r2⟩ := rk_164 p1 iv.2 (d + 9)
    refine fin _ R2 h2 (by rw [pf 7 ex]; rfl) (Or.inl (by omega)) (fun x hx => ?_) f2 l2 r2
    rw [show x = 7 by omega, e158_72, if_pos (F_a311 w), Cl_eq _ a1, if_neg (by decide), if_neg (by decide), if_neg (by decide), if_neg (by decide), if_neg (by decide), if_neg (by decide), if_neg (by decide), e158_309, if_pos (F_a311 w1), Cl_eq _ a2]
  · have eX : lnX tp n T tw hl kn pl = .error (1, pl) := by
      unfold lnX
      rw [if_neg (by omega), if_neg (by omega), if_neg (by omega), if_neg (by omega), if_neg (by omega), if_neg (by omega), if_neg (by omega), if_neg (by omega)]
    refine ⟨flt h 1 pl, ?_, flt_F w 1 pl, by rw [eX]; exact ⟨by decide, flt_30 _ _ _, flt_31 _ _ _⟩⟩
    rw [ce_158, e158_0, if_pos (F_a311 w)]
    by_cases s0 : ld h 311 28 = 0
    · have hw : tkn tp n pl ≤ -18 ∧ ld h 311 29 = rwi (-1 - tkn tp n pl) := by
        unfold LSx at ls
        rcases ls with u | u | u | u | u | u <;> first | exact ⟨u.1.2, u.2.2⟩ | (exfalso; omega)
      obtain ⟨-, -, r3, -⟩ := lrw_t (t := tkn tp n pl) (by omega)
      rw [if_pos s0, if_pos (F_a311 w), hw.2, if_pos (by omega), e16]
    · rw [if_neg s0, e16]
/-- what is left of all lines -/
def RdB (tp : Int → Int) (n : Int) (h' : Hp) : RdR → Prop
  | .error (k, pc, _) => ¬ k = 0 ∧ ld h' 311 30 = k ∧ ld h' 311 31 = pc
  | .ok (T, tw, hl, kn, ln) => ∃ pl, PR h' tp n pl T tw hl kn 0 ln
theorem so_4 {t so va : Int} (l : LSx tp n pl t so va) : so = 4 ↔ t = -1 := by
  unfold LSx at l; omega
theorem rk_lines (d : Nat) : ∀ (m : Nat) (T : Wd) (tw hl kn pl ln : Int) (h : Hp), PR h tp n pl T tw hl kn 0 ln → INV tw kn → 0 ≤ ln → ln + m = 701 → n - pl < m → ∃ h', V (d + 181) 174 121 [(2, 311), (9, 0), (9, 0)] [] h = V (d + 181) 174 143 [(2, 311), (9, 0), (9, 0)] [] h' ∧ FrX h h' ∧ RdB tp n h' (rdL tp n m T tw hl kn pl ln) := by
  intro m
  induction m with
  | zero =>
    intro T tw hl kn pl ln h p iv l0 hm hn
    have := PP_le p.pp
    omega
  | succ m ih =>
    intro T tw hl kn pl ln h p iv l0 hm hn
    have w := p.1.1
    have s4 := so_4 p.2.2.1
    unfold rdL
    by_cases q : tkn tp n pl = -1
    · rw [if_pos q]
      refine ⟨h, ?_, FrX_rf w, pl, p⟩
      rw [e174_121, if_pos (F_a311 w), p.2.2.2.1, if_pos rfl, if_pos (F_a311 w), if_pos (s4.mpr q)]
    · rw [if_neg q]
      obtain ⟨h1, a1, f1, l1⟩ := rk_158 p iv ⟨l0, by omega⟩ d
      have w1 := f1.1
      have e1 : V (d + 181) 174 121 [(2, 311), (9, 0), (9, 0)] [] h = V (d + 181) 174 121 [(2, 311), (9, 0), (9, 0)] [] h1 := by
        rw [e174_121, if_pos (F_a311 w), p.2.2.2.1, if_pos rfl, if_pos (F_a311 w), if_neg (fun u => q (s4.mp u)), e174_136, if_pos (F_a311 w), Cl_eq _ a1]
      have stop : ¬ ld h1 311 30 = 0 → V (d + 181) 174 121 [(2, 311), (9, 0), (9, 0)] [] h1 = V (d + 181) 174 143 [(2, 311), (9, 0), (9, 0)] [] h1 := fun u => by
        rw [e174_121, if_pos (F_a311 w1), if_neg u]
      have iX := lnX_I (tp := tp) (n := n) (T := T) (hl := hl) (pl := pl) iv
      have pX := lnX_P (tp := tp) (n := n) (T := T) (tw := tw) (hl := hl) (kn := kn) (pl := pl)
      rw [e1]
      generalize lnX tp n T tw hl kn pl = R at *
      cases R with
      | error e =>
        obtain ⟨k, pc⟩ := e
        obtain ⟨k0, g1, g2⟩ := l1
        exact ⟨h1, stop (by rw [g1]; exact k0), f1, k0, g1, g2⟩
      | ok v =>
        obtain ⟨T', tw', hl', kn', p'⟩ := v
        have pX : pl ≤ p' := pX
        dsimp only
        rcases l1 with ⟨u, p2⟩ | ⟨u, g1, g2⟩
        · have ag := adv_gt (tp := tp) (tk_lt (tp := tp) (n := n) (pl := p') (by omega))
          rw [if_pos u]
          obtain ⟨h', a', f', r'⟩ := ih T' tw' hl' kn' (adv tp n p') (ln + 1) h1 p2 iX (by omega) (by omega) (by omega)
          exact ⟨h', a', FrX_tr f1 f', r'⟩
        · rw [if_neg u]
          exact ⟨h1, stop (by rw [g1]; decide), f1, by decide, g1, g2⟩
end LN
