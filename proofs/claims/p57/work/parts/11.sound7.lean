/-! ===== calls, and what is made ===== -/
theorem zokV.mono {n n' : Int} {v : ZV} (h : zokV n v) (hn : n ≤ n') : zokV n' v := by
  match v, h with
  | .inl x, h => exact h
  | .inr (.inl x), h => exact h
  | .inr (.inr a), h =>
    have h : -3 ≤ a ∧ a < n := h
    exact ⟨h.1, by omega⟩
theorem zlr.mono {B : zBs} {n n' : Int} {N : Nat} {ls : ZL} {LS : Array Slot} (h : zlr B n N ls LS) (hn : n ≤ n') : zlr B n' N ls LS := ⟨h.1, h.2.1, h.2.2.1, fun i v hv => ⟨(h.2.2.2 i v hv).1, (h.2.2.2 i v hv).2.mono hn⟩⟩
theorem zgood_ws {t : Nat} (hg : zgh (zrow t) = false) (hk : zkind t ≤ 2) : GoodIn zTs (zws t) := fun w hw => by
  have hm : w ∈ zTs := (List.mem_cons.mp hw).elim (fun e => e ▸ (zmf hg hk).1) id
  exact ⟨hm, zTs_good w hm⟩
def zinv (kind j : Nat) : Instr := match kind with
  | 0 => .invokestatic j
  | 1 => .invokevirtual j
  | _ => .invokespecial j
section ZCALL
variable {p : Program} {l : Launch} {e : Env} {R : Room} {s : State} {m : MethodId} {args : Array Value} {below : List Frame} {meth : Method} {c : Code} {H : Heap} {locs : List Loc} {cells slots : Nat} {Q : State → Prop}
variable {B : zBs} {D : va_G} {aD : Nat → ClassId} {L : Nat} {xs : Nat → Int32} {k : Nat} {pc pc' : Nat} {ls ls' : ZL} {st st' : ZS} {M M' : ZM} {LS : Array Slot}
theorem zs_run {r : Option ZV} {a : Array Value} {mc ms : Nat} {st0 rest : List Value} (hr : va_Run p l e R s m args below meth c H locs cells slots mc ms (F0 m pc LS st0) rest (zQc B D aD L xs r M' a) (zAq B)) (hS : va_S (zAq B) s.heap H locs)
    (kk : ∀ (H1 : Heap) (locs1 : List Loc), zH B D aD M' H1 → zS L xs M' → va_S (zAq B) s.heap H1 locs1 → (∀ v, r = some v → zokV (znx M') v) → W p l e R s m args below meth c H1 locs1 (cells + mc) (slots + ms) Q (F0 m (pc + 3) LS ((r.map (zenc B)).toList ++ rest))) : W p l e R s m args below meth c H locs cells slots Q (F0 m pc LS st0) := by
  intro T hT X
  obtain ⟨v, st₀, t, T', L2, h0, X', hL, e1, e2, ⟨hv, hH, hSS, hok, hz, hk⟩, st⟩ := hr T hT X
  have hv : v = r.map (zenc B) := Outcome.returned.inj hv
  subst hv
  rw [h0] at hz hk
  obtain ⟨t2, a1, b1⟩ := kk T'.heap (locs ++ L2) (by rw [e1]; exact hH) hSS ⟨Nat.le_trans hS.1 (by rw [e1]; exact hz), fun q h1 h2 => by rw [e1, hk q (Nat.lt_of_lt_of_le h1 hS.1) h2]; exact hS.2.1 q h1 h2, fun q hq => by
      rcases List.mem_append.mp hq with h | h
      · exact hS.2.2 q h
      · exact hL q h⟩ hok T' rfl X'
  exact ⟨t2, st t2 a1, b1⟩
theorem zs_pre (S : zSt B D aD L xs k s H locs ls LS st M) (C : zCtx B D aD L xs k p s m args meth c) {av : ZS} (hav : ∀ x ∈ av, x ∈ st) : PreS s H (zPc B D aD L xs av M) (av.map (zenc B)) := by
  obtain ⟨-, -, -, -, -, -, hU⟩ := C
  exact ⟨zPc_blind, fun U hU1 hW => ⟨rfl, hU.moved hW.alike (zNs_warm hW) (fun _ _ _ h => vk_R.warm hW h) (by rw [hU1]; exact S.2.2.1.1) (fun q h1 h2 => by rw [hU1]; exact S.2.2.1.2.1 q h1 h2), by rw [hU1]; exact S.1, S.2.1, fun x hx => S.2.2.2.2 x (hav x hx)⟩⟩
/-- a call of method t, by whichever instruction: what its words say, and it goes on -/
theorem zs_call {n d t kind j : Nat} {q : Nat × zPos} (hS : zSnd l B D aD L xs n) (S : zSt B D aD L xs k s H locs ls LS st M) (C : zCtx B D aD L xs k p s m args meth c) (hlk : zlk (zMl (zcl k)) j = some (t, q)) {av r : ZS} (hrd : zready kind t st = some (av, r)) {v : Option ZV}
    (hrun : zbody n d t 0 (zentry t av) [] M = some (v, M')) (hnx : znx M ≤ znx M') (hfr : d + 1 ≤ R.frames) (hlo : 46 * (d + 1) ≤ R.locals) (hc : cells + zdc M M' ≤ R.cells) (hs : slots + zds M M' ≤ R.slots)
    (hd : decode (zcode k) pc = .ok (zinv kind j, 3))
    (kk : ∀ (H1 : Heap) (locs1 : List Loc), zSt B D aD L xs k s H1 locs1 ls LS (v.toList ++ r) M' → W p l e R s m args below meth c H1 locs1 (cells + zdc M M') (slots + zds M M') Q (F0 m (pc + 3) LS ((v.toList ++ r).map (zenc B)))) : W p l e R s m args below meth c H locs cells slots Q (F0 m pc LS (st.map (zenc B))) := by
  obtain ⟨g1, g2, g3, g4, g5, g6, g7, g8⟩ := zready_at hrd
  have hk2 : zkind t ≤ 2 := by omega
  have hl0 := zMl_ok (zcl k) (zgh_c C.2.2.2.2.2.1.2) _ (zlk_mem _ _ _ hlk)
  have hgt : zgh (zrow t) = false := by
    have h0 := hl0
    unfold zMlOk at h0
    have nb : ∀ u : Nat, zkind u = 9 → Nat.beq t u = false := fun u hu => by
      cases z : Nat.beq t u with
      | true =>
        have e := Nat.eq_of_beq_eq_true z
        rw [e] at hk2
        omega
      | false => rfl
    dsimp only at h0
    rw [nb 1000 (by decide), nb 1001 (by decide), nb 1002 (by decide), nb 1003 (by decide), nb 1004 (by decide)] at h0
    have h0 : (!zgh (zrow t) && _) = true := h0
    rw [Bool.and_eq_true] at h0
    cases z : zgh (zrow t)
    · rfl
    · rw [z] at h0; exact absurd h0.1 (by decide)
  have hM := zmet hS hrun hgt hk2 g4
  obtain ⟨f1, f2, f3, f4, f5, f6, ⟨fa, fb, fc⟩, f8, f9, f10, f11, f12⟩ := zmf hgt hk2
  have hC := C
  obtain ⟨hx, hb, hml, hown, hts, hinit, hU⟩ := C
  have hlink : zhas q.2 (.methodLink (zcn (zcl k)) j (zy t)) = true ∨ Cond.methodLinkNest (zcn (zcl k)) j (zy t) "SkippingKeys" ∈ zNs := by
    unfold zMlOk at hl0
    have nb : ∀ u : Nat, zkind u = 9 → Nat.beq t u = false := fun u hu => by
      cases z : Nat.beq t u with
      | true =>
        have e := Nat.eq_of_beq_eq_true z
        rw [e] at hk2
        omega
      | false => rfl
    dsimp only at hl0
    rw [nb 1000 (by decide), nb 1001 (by decide), nb 1002 (by decide), nb 1003 (by decide), nb 1004 (by decide)] at hl0
    have hl0 : (!zgh (zrow t) && _) = true := hl0
    rw [Bool.and_eq_true] at hl0
    have hl0 := hl0.2
    cases z : Nat.beq q.1 0 with
    | true => rw [z] at hl0; exact Or.inl hl0
    | false => rw [z] at hl0; exact Or.inr (of_decide_eq_true hl0)
  have hst : st.map (zenc B) = (av.map (zenc B)).reverse ++ r.map (zenc B) := by rw [g5, List.map_append, List.map_reverse]
  have hmem : ∀ x ∈ av, x ∈ st := fun x hx => by rw [g5]; exact List.mem_append_left _ (List.mem_reverse.mpr hx)
  have hroom : (zroom d M M').frames + 1 ≤ R.frames ∧ 8 + (zmaxL t + 11) + (zroom d M M').locals ≤ R.locals := ⟨hfr, by show 8 + (zmaxL t + 11) + 46 * d ≤ R.locals; omega⟩
  have hn : ∀ sig, parseMethodDescriptor (zy t).desc = some sig → znp t = sig.parameters.length := fun sig h => by
    rw [h] at fc
    exact (Option.some.inj fc).symm
  have hcb : (zroom d M M').cells = zdc M M' ∧ (zroom d M M').slots = zds M M' ∧ (zroom d M M').frames + 1 ≤ R.frames ∧ 8 + (zmaxL t + 11) + (zroom d M M').locals ≤ R.locals ∧ (∀ w ∈ zws t, ∀ (a' : Array Value) (U : State), s.WarmedH U.vm → w.before a' U = true) ∧ Cond.code (zy t) (zcode t) (zmaxL t) (zret t) ∈ zws t := ⟨rfl, rfl, hroom.1, hroom.2, pay_in hts (zgood_ws hgt hk2), List.mem_cons_self⟩
  have hfix : CallFix p m c (zcode k) (zmaxL k) s args zTs (zcn (zcl k)) := ⟨hx, hb, hml, hown, hts⟩
  have hcat : 2 * (F0 m pc LS (st.map (zenc B))).monitorRoom + ((r.map (zenc B)).map fun v => v.category).sum ≤ 8 := by
    rw [zcat_sum]
    show 2 * 0 + zcat r ≤ 8
    omega
  have go : ∀ {a : Array Value}, va_Run p l e R s m args below meth c H locs cells slots (zdc M M') (zds M M') (F0 m pc LS (st.map (zenc B))) (r.map (zenc B)) (zQc B D aD L xs v M' a) (zAq B) → W p l e R s m args below meth c H locs cells slots Q (F0 m pc LS (st.map (zenc B))) := by
    intro a hr
    refine zs_run hr S.2.2.1 (fun H1 locs1 q1 q2 q3 q4 => ?_)
    have e1 : (v.map (zenc B)).toList ++ r.map (zenc B) = (v.toList ++ r).map (zenc B) := by
      rw [List.map_append]
      cases v <;> rfl
    rw [e1]
    refine kk H1 locs1 ⟨q1, q2, q3, S.2.2.2.1.mono hnx, fun w hw => ?_⟩
    rcases List.mem_append.mp hw with h | h
    · exact q4 w (by cases v with
        | none => cases h
        | some z => rw [List.mem_singleton.mp h])
    · exact (S.2.2.2.2 w (by rw [g5]; exact List.mem_append_right _ h)).mono hnx
  have hk3 : kind = 0 ∨ kind = 1 ∨ kind = 2 := by omega
  rcases hk3 with rfl | rfl | rfl
  · rw [if_pos rfl, Nat.add_zero] at g6
    have hpre := zs_pre S hC hmem
    rcases hlink with hl | hl
    · exact go (va_runS (n := znp t) (bytes := zcode t) (maxL := zmaxL t) (ret := zret t) hfix hM ⟨⟨hcb.1, hcb.2.1, hcb.2.2.1, hcb.2.2.2.1, hcb.2.2.2.2.1, hcb.2.2.2.2.2, hts _ f1, hts _ f4, ⟨fa, fb⟩, hn, hts _ (zhas_in hl)⟩, hts _ (f2 g1)⟩ hpre rfl (by rw [List.length_map]; exact g6) S.2.2.2.1.2.1 hst hcat hd ⟨hc, hs⟩)
    · exact go (va_runSN (n := znp t) (bytes := zcode t) (maxL := zmaxL t) (ret := zret t) hfix hM ⟨⟨hcb, hts _ f1, hts _ f4, ⟨fa, fb⟩, hn, va_Nw.use rfl (hU.2.2.2.2.2.2.2.2.2.1 _ hl)⟩, hts _ (f2 g1), trivial⟩ hpre rfl (by rw [List.length_map]; exact g6) S.2.2.2.1.2.1 hst hcat hd ⟨hc, hs⟩)
  · obtain ⟨a, av2, rfl, hsh, hci⟩ := g7 rfl
    have hpre := zs_pre S hC hmem
    have ha : -3 ≤ a ∧ a < znx M := S.2.2.2.2 (.inr (.inr a)) (hmem _ List.mem_cons_self)
    have h3 : 3 ≤ a := zsh_low (by rw [hsh]; show 10 + zcl t ≠ 20; omega) (by rw [hsh]; show 10 + zcl t ≠ 21; omega) (by rw [hsh]; show 10 + zcl t ≠ 99; omega)
    have hg := zW_get (B := B) (aD := aD) h3 ha.2 (zsh_gap (by rw [hsh]; show 10 + zcl t ≠ 99; omega))
    rw [zent_obj hsh] at hg
    obtain ⟨cellB, r1, r2, r3⟩ := va_recv hU.1 S.1.2.2.1 (zvw (by have := zgh_c hgt; omega)) hg
    have hst2 : st.map (zenc B) = (av2.map (zenc B)).reverse ++ .ref (zad B a) :: r.map (zenc B) := by
      rw [hst]
      show (zrv B a :: av2.map (zenc B)).reverse ++ _ = _
      rw [zrv_ref (by omega), List.reverse_cons, List.append_assoc]
      rfl
    have hpv : PreV s H (zcn (zcl t)) (zad B a) (zPc B D aD L xs (.inr (.inr a) :: av2) M) (av2.map (zenc B)) := by
      refine ⟨hpre.1, ⟨cellB, r1, r2, r3⟩, fun U h1 h2 => ?_⟩
      have := hpre.2 U h1 h2
      have e2 : (.ref (zad B a) :: av2.map (zenc B)) = (((.inr (.inr a) : ZV) :: av2).map (zenc B)) := by
        show _ = zrv B a :: av2.map (zenc B)
        rw [zrv_ref (by omega)]
      rw [e2]
      exact this
    have hn2 : (av2.map (zenc B)).length = znp t := by
      rw [List.length_map]
      have : av2.length + 1 = znp t + 1 := g6
      omega
    have fcls : (zy t).cls = zcn (zcl t) := f10
    have hsel : (Cond.selects (zcn (zcl t)) (zy t) (zy t)).before args s = true := by rw [← fcls]; exact hts _ (f5 g1)
    rcases hlink with hl | hl
    · exact go (va_runV (n := znp t) (bytes := zcode t) (maxL := zmaxL t) (ret := zret t) hfix hM ⟨⟨hcb.1, hcb.2.1, hcb.2.2.1, hcb.2.2.2.1, hcb.2.2.2.2.1, hcb.2.2.2.2.2, hts _ f1, hts _ f4, ⟨fa, fb⟩, hn, hts _ (zhas_in hl)⟩, hts _ (f3 (by omega)), hsel⟩ hpv rfl hn2 S.2.2.2.1.2.1 hst2 hcat hd ⟨hc, hs⟩)
    · exact go (va_runVN (n := znp t) (bytes := zcode t) (maxL := zmaxL t) (ret := zret t) hfix hM ⟨⟨hcb, hts _ f1, hts _ f4, ⟨fa, fb⟩, hn, va_Nw.use rfl (hU.2.2.2.2.2.2.2.2.2.1 _ hl)⟩, hts _ (f3 (by omega)), hsel⟩ hpv rfl hn2 S.2.2.2.1.2.1 hst2 hcat hd ⟨hc, hs⟩)
  · obtain ⟨a, av2, rfl, ha0⟩ := g8 rfl
    have hpre := zs_pre S hC hmem
    have hst2 : st.map (zenc B) = (av2.map (zenc B)).reverse ++ .ref (zad B a) :: r.map (zenc B) := by
      rw [hst]
      show (zrv B a :: av2.map (zenc B)).reverse ++ _ = _
      rw [zrv_ref ha0, List.reverse_cons, List.append_assoc]
      rfl
    have hpi : PreS s H (zPc B D aD L xs (.inr (.inr a) :: av2) M) (.ref (zad B a) :: av2.map (zenc B)) := by
      have e2 : (.ref (zad B a) :: av2.map (zenc B)) = (((.inr (.inr a) : ZV) :: av2).map (zenc B)) := by
        show _ = zrv B a :: av2.map (zenc B)
        rw [zrv_ref ha0]
      rw [e2]
      exact hpre
    have hn2 : (av2.map (zenc B)).length = znp t := by
      rw [List.length_map]
      have : av2.length + 1 = znp t + 1 := g6
      omega
    have hrn : zret t = none := f12 g1
    rw [hrn] at hcb f1
    rcases hlink with hl | hl
    · exact go (va_runI (n := znp t) (bytes := zcode t) (maxL := zmaxL t) hfix hM ⟨⟨hcb.1, hcb.2.1, hcb.2.2.1, hcb.2.2.2.1, hcb.2.2.2.2.1, hcb.2.2.2.2.2, hts _ f1, hts _ f4, ⟨fa, fb⟩, hn, hts _ (zhas_in hl)⟩, f6 g1, hts _ (f3 (by omega))⟩ hpi rfl hn2 S.2.2.2.1.2.1 hst2 hcat hd ⟨hc, hs⟩)
    · exact go (va_runIN (n := znp t) (bytes := zcode t) (maxL := zmaxL t) hfix hM ⟨⟨hcb, hts _ f1, hts _ f4, ⟨fa, fb⟩, hn, va_Nw.use rfl (hU.2.2.2.2.2.2.2.2.2.1 _ hl)⟩, f6 g1, hts _ (f3 (by omega))⟩ hpi rfl hn2 S.2.2.2.1.2.1 hst2 hcat hd ⟨hc, hs⟩)
theorem zs_mm {t j : Nat} {q : Nat × zPos} (S : zSt B D aD L xs k s H locs ls LS st M) (C : zCtx B D aD L xs k p s m args meth c) (hd : decode (zcode k) pc = .ok (.invokestatic j, 3)) (hlk : zlk (zMl (zcl k)) j = some (t, q)) (ht : t = 1002 ∨ t = 1003) (h : zmm t (pc + 3) ls st M = some (pc', ls', st', M')) (hfr : 1 ≤ R.frames) (hlo : 46 ≤ R.locals) (hcl : cells ≤ R.cells) (hsl : slots ≤ R.slots)
    (kk : ∀ LS', zSt B D aD L xs k s H locs ls' LS' st' M' → M' = M → W p l e R s m args below meth c H locs cells slots Q (F0 m pc' LS' (st'.map (zenc B)))) : W p l e R s m args below meth c H locs cells slots Q (F0 m pc LS (st.map (zenc B))) := by
  obtain ⟨hx, hb, hml, hown, hts, ⟨hinit, hgh⟩, hU⟩ := C
  have hl0 := zMl_ok (zcl k) (zgh_c hgh) _ (zlk_mem _ _ _ hlk)
  unfold zMlOk at hl0
  unfold zmm at h
  split at h
  · next y x r =>
    split at h
    · next hcat =>
      obtain ⟨rfl, rfl, rfl, rfl⟩ := zsome h
      have hy : zi32 y := S.2.2.2.2 (.inl y) List.mem_cons_self
      have hxx : zi32 x := S.2.2.2.2 (.inl x) (List.mem_cons_of_mem _ List.mem_cons_self)
      have hS : ∀ w ∈ r, zokV (znx M) w := fun w hw => S.2.2.2.2 w (List.mem_cons_of_mem _ (List.mem_cons_of_mem _ hw))
      have hsum : ((r.map (zenc B)).map fun v => v.category).sum + 13 ≤ R.locals := by rw [zcat_sum]; omega
      have hsz : c.maxLocals = LS.size := by rw [hml]; exact S.2.2.2.1.2.1.symm
      show W p l e R s m args below meth c H locs cells slots Q (F0 m pc LS (.int (Int32.ofInt y) :: .int (Int32.ofInt x) :: r.map (zenc B)))
      rcases ht with rfl | rfl
      · have hl : (zhas q.2 (.methodLink (zcn (zcl k)) j Lib.Math.max.name) && Nat.beq q.1 0) = true := hl0
        rw [Bool.and_eq_true] at hl
        refine va_mmax hx hb hsz hown (hts _ (zhas_in hl.1)) (hts _ zx_mxs) (hts _ zx_mi) (hts _ zx_mxc) hfr hsum hcl hsl hd ?_
        have g : zokV (znx M) (zI (if x < y then y else x)) := by
          show zi32 (if x < y then y else x)
          split
          · exact hy
          · exact hxx
        have w := kk LS (S.to (st' := zI (if x < y then y else x) :: r) fun v hv => (List.mem_cons.mp hv).elim (fun e => e ▸ g) (hS v)) rfl
        have e1 : (if Int32.ofInt x < Int32.ofInt y then Int32.ofInt y else Int32.ofInt x) = Int32.ofInt (if x < y then y else x) := by
          by_cases z : x < y
          · rw [if_pos z, if_pos ((zlt32 hxx hy).mpr z)]
          · rw [if_neg z, if_neg (fun u => z ((zlt32 hxx hy).mp u))]
        rw [e1]
        exact w
      · have hl : (zhas q.2 (.methodLink (zcn (zcl k)) j Lib.Math.min.name) && Nat.beq q.1 0) = true := hl0
        rw [Bool.and_eq_true] at hl
        refine va_mmin hx hb hsz hown (hts _ (zhas_in hl.1)) (hts _ zx_mns) (hts _ zx_mi) (hts _ zx_mnc) hfr hsum hcl hsl hd ?_
        have g : zokV (znx M) (zI (if y < x then y else x)) := by
          show zi32 (if y < x then y else x)
          split
          · exact hy
          · exact hxx
        have w := kk LS (S.to (st' := zI (if y < x then y else x) :: r) fun v hv => (List.mem_cons.mp hv).elim (fun e => e ▸ g) (hS v)) rfl
        have e1 : (if Int32.ofInt y < Int32.ofInt x then Int32.ofInt y else Int32.ofInt x) = Int32.ofInt (if y < x then y else x) := by
          by_cases z : y < x
          · rw [if_pos z, if_pos ((zlt32 hy hxx).mpr z)]
          · rw [if_neg z, if_neg (fun u => z ((zlt32 hy hxx).mp u))]
        rw [e1]
        exact w
    · cases h
  · cases h
end ZCALL
