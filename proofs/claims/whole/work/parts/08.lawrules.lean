def ScrAt (X : XT) (A : Nat → Prop) (b L : Nat) (xs : Nat → Int32) : Prop :=
  match X with
  | (_, _, _, _, s, _, _, _, _, _, _, _) => va_X b L xs s s.heap ∧ b < s.heap.size ∧ ¬ A b
/-- a boolean out of a number -/
def bl (x : Int32) : Int32 := if x = 0 then 0 else 1
theorem lg_self (x : Int64) : lg_cmp x x = 0 := by
  unfold lg_cmp
  simp
theorem el4 (s : Int32) : ∃ kk : Nat, kk < 4 ∧ (inb s 4 = true → Int32.toNatClampNeg s = kk) := by
  by_cases h : inb s 4 = true
  · refine ⟨s.toNatClampNeg, ?_, fun _ => rfl⟩
    have h1 := of_decide_eq_true h
    show s.toInt.toNat < 4
    omega
  · exact ⟨0, by decide, fun h2 => absurd h2 h⟩
section KL
variable {X : XT} {Q : State → Prop} {G : GT} {A : Nat → Prop} {nL : Nat} {lv : List (Nat × Value)} {st : List Value} {ws : va_W} {cc : ByteArray} {own : String} {fr lo : Nat} {ret : Option FieldType}
theorem kl_sld (pc : Nat) (cx : Cx X cc nL own G fr lo ret) {b L : Nat} {xs : Nat → Int32} (hscr : ScrAt X A b L xs) {i : Int32} (hin : vp_in i L) (hd : decode cc pc = .ok (.iaload, 1)) (k : KJ X Q G A nL (pc + 1) lv (.int (xs i.toNatClampNeg) :: st) ws) : KJ X Q G A nL pc lv (.int i :: .ref b :: st) ws := by
  obtain ⟨p, l, e, R, s, m, args, below, meth, c, kc, ks⟩ := X
  obtain ⟨hx, hb, hml, hown, hts, hK, hlk, hr, hfr, hlo, hkc, hks⟩ := cx
  obtain ⟨h1, h2, h3⟩ := hscr
  exact fun H locs ls hP hD hS hl => va_sld hx hb h1 h2 h3 hS hin hd (k H locs ls hP hD hS hl)
theorem kl_slen (pc : Nat) (cx : Cx X cc nL own G fr lo ret) {b L : Nat} {xs : Nat → Int32} (hscr : ScrAt X A b L xs) (hd : decode cc pc = .ok (.arraylength, 1)) (k : KJ X Q G A nL (pc + 1) lv (.int (Int32.ofNat L) :: st) ws) : KJ X Q G A nL pc lv (.ref b :: st) ws := by
  obtain ⟨p, l, e, R, s, m, args, below, meth, c, kc, ks⟩ := X
  obtain ⟨hx, hb, hml, hown, hts, hK, hlk, hr, hfr, hlo, hkc, hks⟩ := cx
  obtain ⟨h1, h2, h3⟩ := hscr
  exact fun H locs ls hP hD hS hl => va_slen hx hb h1 h2 h3 hS hd (k H locs ls hP hD hS hl)
/-- the script's number at i + j, five instructions -/
theorem kl_ld (pc : Nat) (cx : Cx X cc nL own G fr lo ret) {b L i j : Nat} {xs : Nat → Int32} {r1 r2 : Value} {n : Int} (hscr : ScrAt X A b L xs) (hj : i + j < L ∧ L ≤ 3072) (d0 : decode cc pc = .ok (.aload_n 0, 1)) (d1 : decode cc (pc + 1) = .ok (.iload_n 3, 1)) (d2 : decode cc (pc + 2) = .ok (.iconst n, 1)) (d3 : decode cc (pc + 3) = .ok (.iadd, 1)) (d4 : decode cc (pc + 4) = .ok (.iaload, 1))
    (k : KJ X Q G A nL (pc + 5) [(0, .ref b), (1, r1), (2, r2), (3, .int (nI i))] (.int (xs (i + j)) :: st) ws) (hn : Int32.ofInt n = nI j := by decide) : KJ X Q G A nL pc [(0, .ref b), (1, r1), (2, r2), (3, .int (nI i))] st ws := by
  refine k_aload_n pc cx d0 rfl 0 rfl ?_
  refine k_iload_n (pc + 1) cx d1 rfl 3 rfl ?_
  refine k_iconst (pc + 2) cx d2 hn ?_
  refine k_iadd (pc + 3) cx d3 ?_
  have e1 : nI i + nI j = nI (i + j) := nI_add i j
  have e2 : (nI (i + j)).toNatClampNeg = i + j := nI_clamp (by omega)
  rw [e1]
  refine kl_sld (pc + 4) cx hscr (vp_in_nI hj.1 (by omega)) d4 ?_
  rw [e2]
  exact k
theorem kl_bool (pc : Nat) (cx : Cx X cc nL own G fr lo ret) {x : Int32} (d1 : decode cc pc = .ok (.ifCond .eq 7, 3)) (d2 : decode cc (pc + 3) = .ok (.iconst 1, 1)) (d3 : decode cc (pc + 4) = .ok (.goto 4, 3)) (d4 : decode cc (pc + 7) = .ok (.iconst 0, 1)) (k : KJ X Q G A nL (pc + 8) lv (.int (bl x) :: st) ws) : KJ X Q G A nL pc lv (.int x :: st) ws := by
  by_cases h : x = 0
  · refine k_if_eq_T pc cx (tgt := pc + 7) d1 (by omega) h ?_
    refine k_iconst (pc + 7) cx (v := 0) d4 (by decide) ?_
    have e : bl x = 0 := if_pos h
    rw [e] at k
    exact k
  · refine k_if_eq_F pc cx (tgt := pc + 7) d1 (by omega) h ?_
    refine k_iconst (pc + 3) cx (v := 1) d2 (by decide) ?_
    refine k_goto (pc + 4) cx (tgt := pc + 8) d3 (by omega) ?_
    have e : bl x = 1 := if_neg h
    rw [e] at k
    exact k
end KL
/-- an array of references speaks of its cells alone -/
theorem arrV_congr {cA : ClassId} {n : Nat} {f g : Nat → Value} (h : ∀ j, j < n → f j = g j) : arrV cA n f = arrV cA n g := by
  unfold arrV
  congr 1
  first
    | exact congrArg _ (List.map_congr_left fun j hj => h j (List.mem_range.mp hj))
    | (apply Array.ext <;> simp; intro i hi; exact h i hi)
theorem va_P.cellq {D : va_G} {cl : List vw_C} {ws : va_W} {H : Heap} (hP : va_P D cl ws H) (k : Nat) {a n : Nat} {cA : ClassId} {f g : Nat → Option Nat} (he : ws[k]? = some (a, .inl (cA, n, .inr (.inr (.inr (.inr f)))))) (h : ∀ j, j < n → f j = g j) {w2 : va_W} (hw : ws.set k (a, .inl (cA, n, .inr (.inr (.inr (.inr g))))) = w2) : va_P D cl w2 H := by
  subst hw
  have hl := (List.getElem?_eq_some_iff.mp he).1
  intro j q hq
  by_cases hj : j = k
  · subst hj
    rw [List.getElem?_set_self hl] at hq
    cases hq
    have h1 := hP j _ he
    show H[a]? = some (arrV cA n (fun j => va_rf (g j)))
    have e1 : arrV cA n (fun j => va_rf (f j)) = arrV cA n (fun j => va_rf (g j)) := arrV_congr (fun j hj => by rw [h j hj])
    rw [← e1]
    exact h1
  · rw [List.getElem?_set_ne (Ne.symm hj)] at hq
    exact hP j q hq
/-- a world by the cells' numbers: cell k lies at ad k and is sh k of its own numbers and its own row -/
def wl (ad : Nat → Nat) (sh : Nat → (Nat → Int32) → (Nat → Int32) → va_E) (n : Nat) (iv av : Nat → Nat → Int32) : va_W := (List.range n).map (fun k => (ad k, sh k (iv k) (av k)))
theorem wl_get {ad : Nat → Nat} {sh : Nat → (Nat → Int32) → (Nat → Int32) → va_E} {n : Nat} {iv av : Nat → Nat → Int32} {k : Nat} (h : k < n) : (wl ad sh n iv av)[k]? = some (ad k, sh k (iv k) (av k)) := by
  unfold wl
  rw [List.getElem?_map, List.getElem?_range h]
  rfl
section KLC
variable {X : XT} {Q : State → Prop} {G : GT} {A : Nat → Prop} {nL : Nat} {lv : List (Nat × Value)} {st rest st2 : List Value} {wc w1 : va_W} {cc : ByteArray} {own : String} {fr lo : Nat} {ret : Option FieldType}
variable {C : String} {y : MethodName} {cy : ByteArray} {nLy fry loy index n ci N b : Nat} {rety : Option FieldType} {As : List Value} {o : Option Value} {T : u_T} {fs : List Value}
variable {ad : Nat → Nat} {sh : Nat → (Nat → Int32) → (Nat → Int32) → va_E} {nW : Nat} {iv av iv' av' : Nat → Nat → Int32}
theorem k_callL (pc : Nat) (cx : Cx X cc nL own G fr lo ret) (cw : CWV own index C y cy nLy rety n ci T N) (hM : CT X.2.1 y cy nLy rety fry loy (.ref b :: As) G wc o w1) (hd : decode cc pc = .ok (.invokevirtual index, 3)) (hroom : fry + 1 ≤ fr ∧ 8 + (nLy + 11) + loy ≤ lo) (hrecv : wc[0]? = some (b, .inr (ci, fs))) (hn : As.length = n) (hst : st = As.reverse ++ .ref b :: rest) (hrest : (rest.map fun v => v.category).sum ≤ 8) (isC : List Nat) (hnd : va_nd isC = true) (hlt : ∀ k ∈ isC, k < nW) (hC : isC.map (fun k => (ad k, sh k (iv k) (av k))) = wc) (iv' av' : Nat → Nat → Int32) (g1 : isC.map (fun k => (ad k, sh k (iv' k) (av' k))) = w1) (hfr : ∀ k, k ∉ isC → iv' k = iv k ∧ av' k = av k) (hst2 : o.toList ++ rest = st2) (k : KJ X Q G A nL (pc + 3) lv st2 (wl ad sh nW iv' av')) : KJ X Q G A nL pc lv st (wl ad sh nW iv av) := by
  have hC2 : isC.map (fun i => (wl ad sh nW iv av)[i]?) = wc.map some := by
    rw [← hC, List.map_map]
    exact List.map_congr_left fun k hk => wl_get (hlt k hk)
  have hg1 : isC.map (fun i => (wl ad sh nW iv' av')[i]?) = w1.map some := by
    rw [← g1, List.map_map]
    exact List.map_congr_left fun k hk => wl_get (hlt k hk)
  have ha : w1.map (fun q => q.1) = wc.map (fun q => q.1) := by
    rw [← g1, ← hC, List.map_map, List.map_map]
    rfl
  have hR : ∀ k ∈ (List.range nW).filter (fun k => !isC.contains k), k < nW ∧ k ∉ isC := by
    intro k hk
    obtain ⟨h1, h2⟩ := List.mem_filter.mp hk
    refine ⟨List.mem_range.mp h1, fun z => ?_⟩
    rw [List.contains_iff_mem.mpr z] at h2
    cases h2
  refine k_callV pc cx cw hM hd hroom hrecv hn hst hrest isC hnd hC2 ha (w2 := wl ad sh nW iv' av') ((List.range nW).filter (fun k => !isC.contains k)) nW hg1 (((List.range nW).filter (fun k => !isC.contains k)).map (fun k => (ad k, sh k (iv k) (av k)))) ?_ ?_ ?_ ?_ hst2 k
  · rw [List.map_map]
    refine List.map_congr_left fun k hk => ?_
    obtain ⟨h1, h2⟩ := hR k hk
    obtain ⟨e1, e2⟩ := hfr k h2
    rw [wl_get h1, e1, e2]
    rfl
  · rw [List.map_map]
    refine List.map_congr_left fun k hk => ?_
    rw [wl_get (hR k hk).1]
    rfl
  · simp [wl]
  · refine List.all_eq_true.mpr fun k hk => ?_
    by_cases h : k ∈ isC
    · have h1 := List.contains_iff_mem.mpr h
      simp [h1, h]
    · have h1 : isC.contains k = false := by
        cases hc : isC.contains k with
        | false => rfl
        | true => exact absurd (List.contains_iff_mem.mp hc) h
      have h2 : k < nW := List.mem_range.mp hk
      simp [h, h2]
end KLC
