section ST4
variable {p : Program} {l : Launch} {e : Env} {R : Room} {s : State} {m : MethodId} {args : Array Value} {below : List Frame} {meth : Method} {c : Code} {Q : State → Prop} {g : GG} {y c0 s0 pc : Nat} {ls r : List MV} {h : Hp}
theorem fit_of {t : FieldType} {d : String} (ht : tyd t d = true) {x : Int} (hz : d = "Z" → x = 0 ∨ x = 1) : narrow t (fval g (dtg d) x) = fval g (dtg d) x ∧ fits t (fval g (dtg d) x) = true := by
  have hrf : ∀ q : Option Nat, (∀ n, narrow (.object n) (va_rf q) = va_rf q ∧ fits (.object n) (va_rf q) = true) ∧ ∀ n, narrow (.array n) (va_rf q) = va_rf q ∧ fits (.array n) (va_rf q) = true := by
    intro q; cases q <;> exact ⟨fun n => ⟨rfl, rfl⟩, fun n => ⟨rfl, rfl⟩⟩
  cases t with
  | int =>
    have : d = "I" := by simpa [tyd] using ht
    subst this
    exact ⟨rfl, rfl⟩
  | boolean =>
    have : d = "Z" := by simpa [tyd] using ht
    subst this
    rcases hz rfl with rfl | rfl <;> exact ⟨rfl, rfl⟩
  | long =>
    have : d = "J" := by simpa [tyd] using ht
    subst this
    exact ⟨rfl, rfl⟩
  | object n =>
    have : dtg d = 2 := by simpa [tyd] using ht
    rw [this]
    exact (hrf _).1 n
  | array n =>
    have : dtg d = 2 := by simpa [tyd] using ht
    rw [this]
    exact (hrf _).2 n
  | _ => cases ht
theorem s_putfield (C : Ctx p l s m args meth c g y) {i : Nat} {cc k t z a v : Int} (hf : fld0 (yO y) i cc k t z = true) (h20 : 20 ≤ cc ∧ cc < 32) (hfin : (!(fI cc.toNat k.toNat).2.2.2 || (decide ((yN y).name = "<init>") && decide (cnm cc.toNat = CN (yO y)) && FL.all (fun r => !(r.1 == yO y && r.2.1 == i) || r.2.2.2.2.2.2 == 0))) = true) (ho : okW h a cc.toNat = true) (hz01 : z = 0 ∨ v = 0 ∨ v = 1) (hdg : decode (yB y) pc = .ok (.putfield i, 3)) (kk : G2 p l e R s m args below meth c Q g y c0 s0 (pc + 3) ls r (st h a k v)) : G2 p l e R s m args below meth c Q g y c0 s0 pc ls ((t.toNat, v) :: (2, a) :: r) h := by
  intro lsR H locs hR hl hv hS hc hs
  obtain ⟨q, hqm, q1, q2, q3, q4, q5, q6, q7, f1, f2, f3, f4, f5, f6⟩ := fld0_row hf
  obtain ⟨hx, hb, hml, hown, hts, hKN, hret, hnm, -⟩ := C
  obtain ⟨ha, ho⟩ := okW_sh ho
  have hk20 : 20 ≤ cc.toNat := by omega
  have hk32 : cc.toNat < 32 := by omega
  obtain ⟨n, hsh, -, -⟩ := okF_sh ho
  obtain ⟨h1, h2⟩ := shp_pos ha hsh
  have hsk : shok (cc.toNat, n) := hR.2.2.2.1 _ (List.mem_of_getElem? h1)
  have hn : n = nfl cc.toNat := by
    rcases hsk with q | q
    · have : cc.toNat < 9 := q.1; omega
    · exact q.2.2
  have hjn : k.toNat < nfl cc.toNat := by rw [← q4, Int.toNat_natCast, ← q3]; exact f4
  have hk0 : 0 ≤ k := by omega
  have hkk : ((k.toNat : Nat) : Int) = k := by omega
  have et : dtg (fds cc.toNat k.toNat) = t.toNat := by rw [← q5, ← q3, ← q4, Int.toNat_natCast]; exact f5
  have hz2 : fds cc.toNat k.toNat = "Z" → v = 0 ∨ v = 1 := by
    intro hd
    have : q.2.2.2.2.2.1 = 1 := f6.mpr (by rw [q3]; have : q.2.2.2.1 = k.toNat := by omega
                                           rw [this]; exact hd)
    rcases hz01 with w | w
    · omega
    · exact w
  have hvv := vhd hv
  have hrok : rok (cc.toNat, n) k v := by
    refine ⟨fun z => absurd z (by show ¬ (cc.toNat = 0 ∨ cc.toNat = 2 ∨ cc.toNat = 3 ∨ cc.toNat = 4); omega), fun z => absurd z (by show ¬ cc.toNat = 1; omega), fun z => absurd z (by show ¬ cc.toNat = 2; omega), fun z => absurd z (by show ¬ cc.toNat = 3; omega), fun _ => ⟨fun z => hvv.1 (by show t.toNat = 0; rw [← et]; exact z), fun z => hvv.2.1 (by show t.toNat = 1; rw [← et]; exact z), hz2⟩⟩
  obtain ⟨qc, p1, p2, p3, p4, p5, p6, ⟨ty, p7, p7'⟩, p8, p9⟩ := CL_at hk20 hk32
  have hkq : k.toNat < qc.2.2 := by rw [p3]; exact hjn
  have hPat := wl_at g h1
  have hat := hR.1 _ _ hPat
  have hent : ent g (cc.toNat, n) (h.1 ((((a - 1).toNat : Nat) : Int) + 1)) = .inr (cc.toNat - 20, (List.range n).map (fun j => fval g (dtg (fds cc.toNat j)) (h.1 ((((a - 1).toNat : Nat) : Int) + 1) (j : Int)))) := by
    unfold ent; rw [if_neg (by show ¬ cc.toNat < 20; omega)]
  rw [hent] at hat
  obtain ⟨rr, w1, cell, w2, w3, w4, w5⟩ := hat
  have hrr : rr = qc := Option.some.inj (w1.symm.trans p1)
  subst hrr
  obtain ⟨hSl, hfc, kC, hkC, hkind⟩ := hKN.1.1 (cc.toNat - 20) _ p1
  have hap := va_apart (own := "") (ci := cc.toNat - 20) (fun w hw => hts w (p4 w hw) (lay_good hw)) (fun w hw => hw) ty p7 p8 hKN.1 p1
  obtain ⟨cf, kf, fi, f, hi, hsl⟩ := hSl k.toNat hkq
  have hlay := hts _ (p4 _ (u_in_lay hkq)) (lay_good (u_in_lay hkq))
  have hst := (u_facts hfc hkC (u_lays (fun w hw => hts w (p4 w hw) (lay_good hw)) (fun w hw => hw) hkq) hi).1
  have hd := p7 k.toNat hkq
  have hty := p7' k.toNat hkq
  have hfv : fval g t.toNat v = fval g (dtg (fds cc.toNat k.toNat)) v := by rw [et]
  have hds : (rr.2.1 k.toNat).2.2.1 = fds cc.toNat k.toNat := by rw [p5 k.toNat]; rfl
  rw [hds] at hty
  obtain ⟨g1, g2⟩ := fit_of (g := g) hty hz2
  rw [← hfv] at g1 g2
  have hrf : va_rf (rfo g a) = .ref (gN g + (a - 1).toNat) := by rw [rfo_pos g ha] <;> rfl
  show W p l e R s m args below meth c H locs (cnt h - c0) (ssum h - s0) Q (F0 m pc lsR (fval g t.toNat v :: va_rf (rfo g a) :: r.map (cv g)))
  rw [hrf]
  have hlk : fI cc.toNat k.toNat = fI q.2.2.1 q.2.2.2.1 := by rw [q3]; congr 1; omega
  have hfI := p5 k.toNat
  have hgo : ∀ H' : Heap, H'[gN g + (a - 1).toNat]? = some (cell.setSlot f.slot (fval g t.toNat v)) → H'.size = H.size → (∀ q, q ≠ gN g + (a - 1).toNat → H'[q]? = H[q]?) → W p l e R s m args below meth c H' (locs ++ [⟨gN g + (a - 1).toNat, f.slot⟩]) (cnt h - c0) (ssum h - s0) Q (F0 m (pc + 3) lsR (r.map (cv g))) := by
    intro H' e1 e2 e3
    rw [hsl] at e1
    refine kk lsR H' _ (RS_st g hR ha hsh hk0 hrok e2 ?_) hl (vtl (vtl hv)) (hS.put e2 e3 hA_of) hc hs
    refine va_P.set hR.1 (wl_D g h) hPat ?_ e3
    have he2 : ent g (cc.toNat, n) (fun j => if j = k then v else h.1 a j) = .inr (cc.toNat - 20, ((List.range n).map (fun j => fval g (dtg (fds cc.toNat j)) (h.1 a (j : Int)))).set k.toNat (fval g t.toNat v)) := by
      unfold ent
      rw [if_neg (by show ¬ cc.toNat < 20; omega)]
      congr 2
      apply List.ext_getElem?
      intro j
      by_cases hj : j < n
      · rw [List.getElem?_map, List.getElem?_range hj]
        by_cases hjk : j = k.toNat
        · subst hjk
          rw [List.getElem?_set_self (by simpa using hj)]
          show some (fval g (dtg (fds cc.toNat k.toNat)) (if ((k.toNat : Nat) : Int) = k then v else _)) = _
          rw [if_pos hkk, et]
        · rw [List.getElem?_set_ne (Ne.symm hjk), List.getElem?_map, List.getElem?_range hj]
          show some (fval g (dtg (fds cc.toNat j)) (if (j : Int) = k then v else h.1 a j)) = _
          rw [if_neg (by omega)]; rfl
      · rw [List.getElem?_eq_none (by simpa using hj), List.getElem?_eq_none (by simpa using hj)]
    rw [he2]
    rw [h2] at w5
    exact ⟨_, p1, t_OB.to (V := updV (vp_V ((List.range n).map (fun j => fval g (dtg (fds cc.toNat j)) (h.1 a (j : Int))))) k.toNat (fval g t.toNat v)) ⟨_, e1, w3, w4, t_set w5 hap hkq (fval g t.toNat v)⟩ (fun j _ => vp_updV_set (by simpa [hn] using hjn) (fval g t.toNat v) j)⟩
  have hslot : f.slot < cell.slots.size := by rw [hsl]; exact k2_hasslot (w5 k.toNat hkq)
  have hi2 : s.fieldFound? (fI q.2.2.1 q.2.2.2.1).1 (fI q.2.2.1 q.2.2.2.1).2.1 (fI q.2.2.1 q.2.2.2.1).2.2.1 = some (cf, kf, fi, f) := by
    rw [← hlk, ← hfI]; exact hi
  rw [q1, q2] at f1 f2
  cases hF : (fI cc.toNat k.toNat).2.2.2 with
  | false =>
    unfold u_lay at hlay
    rw [if_neg (by rw [hfI, hF]; decide)] at hlay
    have h6 := u_store hfc hkC hkind hlay hi hd g1 g2
    have : q.2.2.2.2.2.2 = 0 ∨ q.2.2.2.2.2.2 = 1 := by omega
    rcases this with hq0 | hq0
    · exact W.putK hx hb (f := f) ⟨hown, hts _ (f1 hq0) rfl, ⟨_, _, _, hi2⟩, hst⟩ (by rw [w3]; exact h6) w2 w4 hslot rfl rfl hdg hgo
    · exact va_WputK hx hb (f := f) hown (va_Nw.use rfl (hKN.2.1 _ (f2 hq0) rfl)) hi2 hst (by rw [w3]; exact h6) w2 w4 hslot rfl rfl hdg hgo
  | true =>
    rw [hF] at hfin
    simp only [Bool.not_true, Bool.false_or, Bool.and_eq_true, decide_eq_true_eq] at hfin
    obtain ⟨⟨n1, n2⟩, n3⟩ := hfin
    have hq0 : q.2.2.2.2.2.2 = 0 := by
      have := List.all_eq_true.mp n3 q hqm
      simpa [q1, q2] using this
    have hlay2 := hlay
    unfold u_lay at hlay
    rw [if_pos (by rw [hfI]; exact hF)] at hlay
    have hcf : m.cls = cf := by
      obtain ⟨_, _, c', _, _, _, -, -, hf', -, -, -, hown2, -⟩ := Cond.laysFinal_spec hlay
      have e1 : c' = cf := by have := hi.symm.trans hf'; simp at this; exact this.1.symm
      rw [p9 k.toNat hkq, p2, n2] at hown2
      rw [← e1]; exact Option.some.inj (hown.symm.trans hown2)
    have h6 := u_fits hfc hkC hkind (Or.inr hlay) hi hd g1 g2
    exact W.putFinK hx hb hown (hts _ (f1 hq0) rfl) hi2 hst hcf (hnm n1) (by rw [w3]; exact h6) w2 w4 hslot rfl rfl hdg hgo
end ST4
