theorem my_join2 {A0 : Nat → Prop} {D : va_G} {cl : List vw_C} {ws wc w1 w2 wr : va_W} {H H1 : Heap} (hP : va_P D cl ws H) (hD : va_D A0 ws) (isC isR : List Nat) (n : Nat) (hC : isC.map (fun i => ws[i]?) = wc.map some) (ha : w1.map (fun q => q.1) = wc.map (fun q => q.1)) (g1 : isC.map (fun i => w2[i]?) = w1.map some) (g2a : isR.map (fun i => w2[i]?) = wr.map some) (g2b : isR.map (fun i => ws[i]?) = wr.map some) (g3 : w2.length = n) (g4 : (List.range n).all (fun k => (isC.contains k && !isR.contains k) || (isR.contains k && !isC.contains k)) = true)
    (hk : ∀ q : Nat, q < H.size → ¬ aIn wc q → H1[q]? = H[q]?) (hP1 : va_P D cl w1 H1) : va_P D cl w2 H1 ∧ va_D A0 w2 := by
  have g2 : isR.map (fun i => w2[i]?) = isR.map (fun i => ws[i]?) := g2a.trans g2b.symm
  have at1 : ∀ {is : List Nat} {w wc : va_W}, is.map (fun i => w[i]?) = wc.map some → ∀ (k : Nat) (q : Nat × va_E), wc[k]? = some q → ∃ i, is[k]? = some i ∧ w[i]? = some q := by
    intro is w wc hC k q hq
    have h1 : (is.map (fun i => w[i]?))[k]? = some (some q) := by rw [hC, List.getElem?_map, hq]; rfl
    rw [List.getElem?_map] at h1
    cases hi : is[k]? with
    | none => rw [hi] at h1; cases h1
    | some i => rw [hi] at h1; exact ⟨i, rfl, Option.some.inj h1⟩
  have at2 : ∀ {is : List Nat} {w wc : va_W}, is.map (fun i => w[i]?) = wc.map some → ∀ (j i : Nat), is[j]? = some i → ∃ q, wc[j]? = some q ∧ w[i]? = some q := by
    intro is w wc hC j i hi
    have h1 : (is.map (fun i => w[i]?))[j]? = some (w[i]?) := by rw [List.getElem?_map, hi]; rfl
    rw [hC, List.getElem?_map] at h1
    cases hw : wc[j]? with
    | none => rw [hw] at h1; cases h1
    | some q => rw [hw] at h1; exact ⟨q, rfl, (Option.some.inj h1).symm⟩
  have key : ∀ (k : Nat) (q : Nat × va_E), w2[k]? = some q → (∃ j : Nat, isC[j]? = some k ∧ w1[j]? = some q) ∨ (k ∉ isC ∧ ws[k]? = some q) := by
    intro k q hq
    have hlt : k < n := by rw [← g3]; exact (List.getElem?_eq_some_iff.mp hq).1
    have h1 := List.all_eq_true.mp g4 k (List.mem_range.mpr hlt)
    rw [Bool.or_eq_true, Bool.and_eq_true, Bool.and_eq_true, List.contains_iff_mem, List.contains_iff_mem] at h1
    rcases h1 with ⟨h1, -⟩ | ⟨h1, h2⟩
    · obtain ⟨j, hj⟩ := List.getElem?_of_mem h1
      obtain ⟨q', h3, h4⟩ := at2 g1 j k hj
      rw [hq] at h4
      cases h4
      exact Or.inl ⟨j, hj, h3⟩
    · obtain ⟨j, hj⟩ := List.getElem?_of_mem h1
      have h3 := congrArg (fun l => l[j]?) g2
      simp only [List.getElem?_map, hj, Option.map_some] at h3
      rw [hq] at h3
      refine Or.inr ⟨fun z => ?_, (Option.some.inj h3).symm⟩
      rw [List.contains_iff_mem.mpr z] at h2
      cases h2
  have hfst : ∀ (k : Nat) (q : Nat × va_E), w2[k]? = some q → ∃ q0 : Nat × va_E, ws[k]? = some q0 ∧ q0.1 = q.1 := by
    intro k q hq
    rcases key k q hq with ⟨j, h1, h2⟩ | ⟨h1, h2⟩
    · obtain ⟨q0, h3, h4⟩ := at2 hC j k h1
      have h5 : (w1.map (fun q => q.1))[j]? = some q.1 := by rw [List.getElem?_map, h2]; rfl
      rw [ha, List.getElem?_map, h3] at h5
      exact ⟨q0, h4, Option.some.inj h5⟩
    · exact ⟨q, h2, rfl⟩
  refine ⟨fun k q hq => ?_, ⟨fun i j x y hi hj hxy => ?_, fun k q hq => ?_⟩⟩
  · rcases key k q hq with ⟨j, h1, h2⟩ | ⟨h1, h2⟩
    · exact hP1 j q h2
    · have hat := hP k q h2
      refine hat.kept (hk q.1 hat.lt ?_)
      rintro ⟨j, e, h3⟩
      obtain ⟨i, h4, h5⟩ := at1 hC j _ h3
      have h6 := hD.1 k i q (q.1, e) h2 h5 rfl
      subst h6
      exact h1 (List.mem_of_getElem? h4)
  · obtain ⟨x0, h1, h2⟩ := hfst i x hi
    obtain ⟨y0, h3, h4⟩ := hfst j y hj
    exact hD.1 i j x0 y0 h1 h3 (h2.trans (hxy.trans h4.symm))
  · obtain ⟨x0, h1, h2⟩ := hfst k q hq
    rw [← h2]
    exact hD.2 k x0 h1
section KCALL
variable {p : Program} {l : Launch} {e : Env} {R : Room} {s : State} {m : MethodId} {args : Array Value} {below : List Frame} {meth : Method} {c : Code} {H : Heap} {locs : List Loc} {kc ks : Nat} {Q : State → Prop}
variable {pc : Nat} {ls : Array Slot} {rest st0 : List Value} {a : Array Value} {A : Nat → Prop} {H0 : Heap} {G : GT} {wc w1 : va_W} {o : Option Value}
theorem kcall (hr : va_Run p l e R s m args below meth c H locs kc ks 0 0 (F0 m pc ls st0) rest (QcR G wc o w1 a) (aIn wc)) (hS : va_S A H0 H locs) (hF : ∀ q, aIn wc q → A q)
    (kk : ∀ (H1 : Heap) (locs1 : List Loc), va_P G.1 vwCl w1 H1 → (∀ q : Nat, q < H.size → ¬ aIn wc q → H1[q]? = H[q]?) → va_S A H0 H1 locs1 → W p l e R s m args below meth c H1 locs1 kc ks Q (F0 m (pc + 3) ls (o.toList ++ rest))) : W p l e R s m args below meth c H locs kc ks Q (F0 m pc ls st0) := by
  intro T hT X
  obtain ⟨v, st₀, t, T', L, h0, X', hL, e1, e2, ⟨hv, hp, hz, hk⟩, st⟩ := hr T hT X
  cases hv
  rw [h0] at hz hk
  obtain ⟨t2, a1, b1⟩ := kk T'.heap (locs ++ L) (by rw [e1]; exact hp) (fun q h1 h2 => by rw [e1]; exact hk q h1 h2)
    ⟨Nat.le_trans hS.1 (by rw [e1]; exact hz), fun q h1 h2 => by rw [e1, hk q (Nat.lt_of_lt_of_le h1 hS.1) (fun z => h2 (hF q z))]; exact hS.2.1 q h1 h2, fun q hq => by
      rcases List.mem_append.mp hq with h | h
      · exact hS.2.2 q h
      · exact hF _ (hL q h)⟩ T' rfl X'
  exact ⟨t2, st t2 a1, b1⟩
end KCALL
/-- what a method's name and words must be for a call of it -/
def yD (y : MethodName) (n : Nat) : Prop := y.cls ≠ "java/lang/invoke/MethodHandle" ∧ y.cls ≠ "java/lang/invoke/VarHandle" ∧ (parseMethodDescriptor y.desc).map (fun d => d.parameters.length) = some n
def CWV (own : String) (index : Nat) (C : String) (y : MethodName) (cy : ByteArray) (nLy : Nat) (rety : Option FieldType) (n ci : Nat) (T : u_T) (N : Nat) : Prop :=
  Cond.methodLink own index y ∈ TB ∧ Cond.instanceMethod y ∈ TB ∧ Cond.selects C y y ∈ TB ∧ Cond.initialized y.cls ∈ TB ∧ Cond.code y cy nLy rety ∈ TB ∧ yD y n ∧ vwCl[ci]? = some (C, T, N)
def CWS (own : String) (index : Nat) (y : MethodName) (cy : ByteArray) (nLy : Nat) (rety : Option FieldType) (n : Nat) : Prop :=
  Cond.methodLink own index y ∈ TB ∧ Cond.static y ∈ TB ∧ Cond.initialized y.cls ∈ TB ∧ Cond.code y cy nLy rety ∈ TB ∧ yD y n
theorem subD {A : Nat → Prop} {ws wc : va_W} (hD : va_D A ws) (isC : List Nat) (hn : va_nd isC = true) (hC : isC.map (fun i => ws[i]?) = wc.map some) : va_D A wc := hD.sub isC hn hC
theorem subP {D : va_G} {cl : List vw_C} {ws wc : va_W} {H : Heap} (hP : va_P D cl ws H) (isC : List Nat) (hC : isC.map (fun i => ws[i]?) = wc.map some) : va_P D cl wc H := by
  intro k q hq
  have h1 : (isC.map (fun i => ws[i]?))[k]? = some (some q) := by rw [hC, List.getElem?_map, hq]; rfl
  rw [List.getElem?_map] at h1
  cases hi : isC[k]? with
  | none => rw [hi] at h1; cases h1
  | some i => rw [hi] at h1; exact hP i q (Option.some.inj h1)
theorem blindC (G : GT) (av : List Value) (w : va_W) : FrameBlind (va_Pc av (fun U => va_P G.1 vwCl w U.heap ∧ va_K G.1 vwCl (tyl G) U ∧ va_D (fun _ => True) w)) := by
  intro a U g mk q
  obtain ⟨q0, qP, qK, qD⟩ := q
  exact ⟨q0, qP, va_K.moved (u := U) (U := U.calling g mk a) (Vm.Alike.refl U.vm) qK, qD⟩
section KJC
variable {X : XT} {Q : State → Prop} {G : GT} {A : Nat → Prop} {nL : Nat} {lv : List (Nat × Value)} {st rest st2 : List Value} {ws wc w1 w2 : va_W} {cc : ByteArray} {own : String} {fr lo : Nat} {ret : Option FieldType}
variable {C : String} {y : MethodName} {cy : ByteArray} {nLy fry loy index n ci N b : Nat} {rety : Option FieldType} {As : List Value} {o : Option Value} {T : u_T} {fs : List Value}
theorem k_callV (pc : Nat) (cx : Cx X cc nL own G fr lo ret) (cw : CWV own index C y cy nLy rety n ci T N) (hM : CT X.2.1 y cy nLy rety fry loy (.ref b :: As) G wc o w1) (hd : decode cc pc = .ok (.invokevirtual index, 3)) (hroom : fry + 1 ≤ fr ∧ 8 + (nLy + 11) + loy ≤ lo) (hrecv : wc[0]? = some (b, .inr (ci, fs))) (hn : As.length = n) (hst : st = As.reverse ++ .ref b :: rest) (hrest : (rest.map fun v => v.category).sum ≤ 8) (isC : List Nat) (hnd : va_nd isC = true) (hC : isC.map (fun i => ws[i]?) = wc.map some) (ha : w1.map (fun q => q.1) = wc.map (fun q => q.1)) (isR : List Nat) (nW : Nat) (g1 : isC.map (fun i => w2[i]?) = w1.map some) (wr : va_W) (g2a : isR.map (fun i => w2[i]?) = wr.map some) (g2b : isR.map (fun i => ws[i]?) = wr.map some) (g3 : w2.length = nW) (g4 : (List.range nW).all (fun k => (isC.contains k && !isR.contains k) || (isR.contains k && !isC.contains k)) = true) (hst2 : o.toList ++ rest = st2) (k : KJ X Q G A nL (pc + 3) lv st2 w2) : KJ X Q G A nL pc lv st ws := by
  obtain ⟨p, l, e, R, s, m, args, below, meth, c, kc, ks⟩ := X
  obtain ⟨hx, hb, hml, hown, hts, hK, hlk, hr, hfr, hlo, hkc, hks⟩ := cx
  obtain ⟨c1, c2, c3, c4, c5, c6, c7⟩ := cw
  subst hst; subst hst2
  intro H locs ls hP hD hS hl
  have hPc := subP hP isC hC
  have hDc := subD hD isC hnd hC
  have hrun := va_runV (locs := locs) (R := R) (g := F0 m pc ls (As.reverse ++ .ref b :: rest)) (rest := rest) (p := p) (l := l) (e := e) (below := below) (meth := meth) (cells := kc) (slots := ks) ⟨hx, hb, hml, hown, hts⟩ hM ⟨callB_of n hts (tb_in c5) rfl rfl rfl (hts _ c4) (hts _ c1) c6 (by rw [hfr, hlo]; exact hroom), hts _ c2, hts _ c3⟩ ⟨blindC G _ wc, va_recv hK hPc c7 hrecv, fun U hU hW => ⟨rfl, by rw [hU]; exact hPc, va_K.moved hW.alike hK, hDc.weaken (fun _ _ _ _ => trivial)⟩⟩ rfl hn hl.1 rfl (lv_room hrest) hd ⟨by omega, by omega⟩
  exact kcall hrun hS (fun q h => by obtain ⟨k2, e2, h⟩ := h; exact hDc.2 k2 _ h) (fun H1 locs1 hP1 hk1 hS1 => by
    obtain ⟨hP2, hD2⟩ := my_join2 hP hD isC isR nW hC ha g1 g2a g2b g3 g4 hk1 hP1
    exact k H1 locs1 ls hP2 hD2 hS1 hl)
theorem k_callS (pc : Nat) (cx : Cx X cc nL own G fr lo ret) (cw : CWS own index y cy nLy rety n) (hM : CT X.2.1 y cy nLy rety fry loy As G wc o w1) (hd : decode cc pc = .ok (.invokestatic index, 3)) (hroom : fry + 1 ≤ fr ∧ 8 + (nLy + 11) + loy ≤ lo) (hn : As.length = n) (hst : st = As.reverse ++ rest) (hrest : (rest.map fun v => v.category).sum ≤ 8) (isC : List Nat) (hnd : va_nd isC = true) (hC : isC.map (fun i => ws[i]?) = wc.map some) (ha : w1.map (fun q => q.1) = wc.map (fun q => q.1)) (isR : List Nat) (nW : Nat) (g1 : isC.map (fun i => w2[i]?) = w1.map some) (wr : va_W) (g2a : isR.map (fun i => w2[i]?) = wr.map some) (g2b : isR.map (fun i => ws[i]?) = wr.map some) (g3 : w2.length = nW) (g4 : (List.range nW).all (fun k => (isC.contains k && !isR.contains k) || (isR.contains k && !isC.contains k)) = true) (hst2 : o.toList ++ rest = st2) (k : KJ X Q G A nL (pc + 3) lv st2 w2) : KJ X Q G A nL pc lv st ws := by
  obtain ⟨p, l, e, R, s, m, args, below, meth, c, kc, ks⟩ := X
  obtain ⟨hx, hb, hml, hown, hts, hK, hlk, hr, hfr, hlo, hkc, hks⟩ := cx
  obtain ⟨c1, c2, c4, c5, c6⟩ := cw
  subst hst; subst hst2
  intro H locs ls hP hD hS hl
  have hPc := subP hP isC hC
  have hDc := subD hD isC hnd hC
  have hrun := va_runS (locs := locs) (R := R) (g := F0 m pc ls (As.reverse ++ rest)) (rest := rest) (p := p) (l := l) (e := e) (below := below) (meth := meth) (cells := kc) (slots := ks) ⟨hx, hb, hml, hown, hts⟩ hM ⟨callB_of n hts (tb_in c5) rfl rfl rfl (hts _ c4) (hts _ c1) c6 (by rw [hfr, hlo]; exact hroom), hts _ c2⟩ ⟨blindC G _ wc, fun U hU hW => ⟨rfl, by rw [hU]; exact hPc, va_K.moved hW.alike hK, hDc.weaken (fun _ _ _ _ => trivial)⟩⟩ rfl hn hl.1 rfl (lv_room hrest) hd ⟨by omega, by omega⟩
  exact kcall hrun hS (fun q h => by obtain ⟨k2, e2, h⟩ := h; exact hDc.2 k2 _ h) (fun H1 locs1 hP1 hk1 hS1 => by
    obtain ⟨hP2, hD2⟩ := my_join2 hP hD isC isR nW hC ha g1 g2a g2b g3 g4 hk1 hP1
    exact k H1 locs1 ls hP2 hD2 hS1 hl)
theorem k_max (pc : Nat) (cx : Cx X cc nL own G fr lo ret) (hw1 : Cond.methodLink own index Lib.Math.max.name ∈ TB ∧ Cond.static Lib.Math.max.name ∈ TB ∧ Cond.initialized "java/lang/Math" ∈ TB ∧ Cond.code Lib.Math.max.name Lib.Math.max.code 2 (some .int) ∈ TB) {x z : Int32} (hd : decode cc pc = .ok (.invokestatic index, 3)) (hroom : 1 ≤ fr ∧ (st.map fun v => v.category).sum + 13 ≤ lo) (k : KJ X Q G A nL (pc + 3) lv (.int (if x < z then z else x) :: st) ws) : KJ X Q G A nL pc lv (.int z :: .int x :: st) ws := by
  obtain ⟨p, l, e, R, s, m, args, below, meth, c, kc, ks⟩ := X
  obtain ⟨hx, hb, hml, hown, hts, hK, hlk, hr, hfr, hlo, hkc, hks⟩ := cx
  obtain ⟨g1, g2, g3, g4⟩ := hw1
  intro H locs ls hP hD hS hl
  exact va_mmax hx hb (hml.trans hl.1.symm) hown (hts _ g1) (hts _ g2) (hts _ g3) (hts _ g4) (by rw [hfr]; exact hroom.1) (by rw [hlo]; exact hroom.2) hkc hks hd (k H locs ls hP hD hS hl)
theorem k_acopy {β : Type} (pc : Nat) (cx : Cx X cc nL own G fr lo ret) (hw1 : Cond.methodLink own index arraycopyName ∈ TB ∧ Cond.native arraycopyName ∈ TB ∧ Cond.static arraycopyName ∈ TB ∧ Cond.initialized "java/lang/System" ∈ TB) {sp dp len : Int32} {a0 a n0 n1 : Nat} {f g : Nat → Int32} {bm : (Nat → Int32) → Option β} {z : β} (q0 q1 : Nat) (he0 : ws[q0]? = some (a0, .inl (G.2.1, n0, .inl f))) (he1 : ws[q1]? = some (a, .inl (G.2.1, n1, .inl g)))
    (hm : gB (decide (0 ≤ sp.toInt ∧ 0 ≤ dp.toInt ∧ 0 ≤ len.toInt ∧ sp.toInt + len.toInt ≤ (n0 : Int) ∧ dp.toInt + len.toInt ≤ (n1 : Int))) (nme (va_cpy f g sp.toNatClampNeg dp.toNatClampNeg len.toNatClampNeg) bm) = some z)
    (hd : decode cc pc = .ok (.invokestatic index, 3)) (hroom : 1 ≤ fr ∧ (st.map fun v => v.category).sum + (nativeFrameWords "java/lang/System" "arraycopy" 5 + 11) ≤ lo) (wf : (Nat → Int32) → va_W) (hw : ∀ h, ws.set q1 (a, .inl (G.2.1, n1, .inl h)) = wf h) (k : ∀ h : Nat → Int32, bm h = some z → KJ X Q G A nL (pc + 3) lv st (wf h)) : KJ X Q G A nL pc lv (.int len :: .int dp :: .ref a :: .int sp :: .ref a0 :: st) ws := by
  obtain ⟨p, l, e, R, s, m, args, below, meth, c, kc, ks⟩ := X
  obtain ⟨hx, hb, hml, hown, hts, hK, hlk, hr, hfr, hlo, hkc, hks⟩ := cx
  obtain ⟨g1, g2, g3, g4⟩ := hw1
  intro H locs ls hP hD hS hl
  obtain ⟨h1, h2, h3, h4, h5⟩ := of_decide_eq_true (gB_s hm).1
  have nn : ∀ x : Int32, 0 ≤ x.toInt → ¬ x < 0 ∧ (x.toNatClampNeg : Int) = x.toInt := by
    intro x hx
    have e1 : (x.toNatClampNeg : Int) = x.toInt := by
      show ((x.toInt.toNat : Nat) : Int) = x.toInt
      omega
    refine ⟨fun h => ?_, e1⟩
    have h := Int32.lt_iff_toInt_lt.mp h
    rw [show (0 : Int32).toInt = 0 from rfl] at h
    omega
  obtain ⟨a1, b1⟩ := nn sp h1
  obtain ⟨a2, b2⟩ := nn dp h2
  obtain ⟨a3, b3⟩ := nn len h3
  exact va_copyi hx hb (hml.trans hl.1.symm) hown (hts _ g1) (hts _ g2) (hts _ g3) (hts _ g4) hK hP hD hS q0 q1 0 0 he0 he1 rfl rfl rfl a1 a2 a3 (by omega) (by omega) (fun _ _ => rfl) (by rw [hfr]; exact hroom.1) (by rw [hlo]; exact hroom.2) hd (fun H1 locs1 hP1 hD1 hS1 => k _ (gB_s hm).2 H1 locs1 ls (by rw [← hw]; exact hP1) (by rw [← hw]; exact hD1) hS1 hl)
end KJC
