/-! ===== charAt of the law's two texts ===== -/
section ZCHR
variable {p : Program} {l : Launch} {e : Env} {R : Room} {s : State} {m : MethodId} {args : Array Value} {below : List Frame} {meth : Method} {c : Code} {H : Heap} {locs : List Loc} {cells slots : Nat} {Q : State → Prop}
variable {B : zBs} {D : va_G} {aD : Nat → ClassId} {L : Nat} {xs : Nat → Int32} {k : Nat} {pc pc' : Nat} {ls ls' : ZL} {st st' : ZS} {M M' : ZM} {LS : Array Slot}
theorem zs_chr {d j : Nat} {q : Nat × zPos} (S : zSt B D aD L xs k s H locs ls LS st M) (C : zCtx B D aD L xs k p s m args meth c) (hlk : zlk (zMl (zcl k)) j = some (1004, q)) (hd : decode (zcode k) pc = .ok (.invokevirtual j, 3)) (h : zchar d (pc + 3) ls st M = some (pc', ls', st', M')) (hfr : d ≤ R.frames) (hlo : 46 * d ≤ R.locals) (hcl : cells ≤ R.cells) (hsl : slots ≤ R.slots)
    (kk : ∀ H1 locs1, zSt B D aD L xs k s H1 locs1 ls' LS st' M' → M' = M → W p l e R s m args below meth c H1 locs1 cells slots Q (F0 m pc' LS (st'.map (zenc B)))) : W p l e R s m args below meth c H locs cells slots Q (F0 m pc LS (st.map (zenc B))) := by
  sorry
end ZCHR
