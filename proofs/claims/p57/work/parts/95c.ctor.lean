/-! ===== the constructor: cells laid, pointers set, by a run of what is known of the cells ===== -/
def yini (a j : Int) : Int := match zpv a j with
  | some p => p
  | none => if (a = 4 ∨ a = 6) ∧ j = 2 then 4 else if (a = 4 ∨ a = 6) ∧ j = 3 then 1 else if a = 213 ∧ 0 ≤ j ∧ j < 8 then -1 else if a = 236 ∧ j = 11 then 4 else if a = 236 ∧ j = 12 then 1 else zdef (zshF a).1 j
abbrev zqE := List (Int × Int)
def zqin (E : zqE) (a j : Int) : Bool := E.any (fun q => decide (q.1 = a ∧ q.2 = j))
def zqdel (E : zqE) (a j : Int) : zqE := E.filter (fun q => !decide (q.1 = a ∧ q.2 = j))
def ypend (c : Int) : zqE := ((List.range 50).map (fun n : Nat => (c, (n : Int)))).filter (fun q => !decide (zdef (zshF c).1 q.2 = yini c q.2))
def zqp (i : Instr) : Bool := match i with
  | .iconst _ | .bipush _ | .sipush _ | .iload_n _ | .istore_n _ | .aload_n _ | .astore_n _ | .iinc .. | .dup | .goto _ | .if_icmp .. => true
  | _ => false
/-- the number that stands for no cell, skipped -/
def zqk (c : Int) : Int := if c = 223 then 224 else c
def zqs (k : Nat) (i : Instr) (pc : Nat) (ls : ZL) (st : ZS) (c : Int) (E : zqE) : Option (Nat × ZL × ZS × Int × zqE) := match i with
  | .new n => (match zlk (zCl (zcl k)) n with
    | some (ci, _) => if ci < 90 ∧ zshF (zqk c) = (10 + ci, 0) then some (pc + 3, ls, zA (zqk c) :: st, zqk c + 1, ypend (zqk c) ++ E) else none
    | none => none)
  | .newarray t => (match st with
    | .inl n :: r => if zatype t ≤ 3 ∧ zshF (zqk c) = (zatype t, n) ∧ 0 ≤ n ∧ n ≤ 100000 then some (pc + 2, ls, zA (zqk c) :: r, zqk c + 1, ypend (zqk c) ++ E) else none
    | _ => none)
  | .anewarray n => (match zlk (zCl (zcl k)) n, st with
    | some (0, _), .inl x :: r => if zshF (zqk c) = (4, x) ∧ 0 ≤ x ∧ x ≤ 100000 then some (pc + 3, ls, zA (zqk c) :: r, zqk c + 1, ypend (zqk c) ++ E) else none
    | _, _ => none)
  | .putfield n => (match zlk (zFl (zcl k)) n, st with
    | some (ci, j, _), v :: .inr (.inr a) :: r => if (3 ≤ a ∧ a < c) ∧ zshF a = (10 + ci, 0) ∧ zfin k ci j = true ∧ zfit (ztyX ci j) v = some (yini a j) then some (pc + 3, ls, r, c, zqdel E a j) else none
    | _, _ => none)
  | .getfield n => (match zlk (zFl (zcl k)) n, st with
    | some (ci, j, _), .inr (.inr a) :: r => if (3 ≤ a ∧ a < c) ∧ (zshF a = (10 + ci, 0) ∧ a ≠ 223) ∧ zqin E a j = false then (match ztag (ztyX ci j) (yini a j) with
      | some v => some (pc + 3, ls, v :: r, c, E)
      | none => none) else none
    | _, _ => none)
  | .aastore => (match st with
    | .inr (.inr x) :: .inl i :: .inr (.inr a) :: r => if (3 ≤ a ∧ a < c) ∧ (zshF a).1 = 4 ∧ zshF x = (10, 0) ∧ (0 ≤ i ∧ i < (zshF a).2) ∧ x = yini a i then some (pc + 1, ls, r, c, zqdel E a i) else none
    | _ => none)
  | .iastore => (match st with
    | .inl x :: .inl i :: .inr (.inr a) :: r => if (3 ≤ a ∧ a < c) ∧ (zshF a).1 = 0 ∧ (0 ≤ i ∧ i < (zshF a).2) ∧ x = yini a i then some (pc + 1, ls, r, c, zqdel E a i) else none
    | _ => none)
  | i => if zqp i = true then (match zstep k i pc ls st (fun _ _ => 0) with
    | some (pc', ls', st', _) => some (pc', ls', st', c, E)
    | none => none) else none
def zq : Nat → Nat → Nat → Nat → ZL → ZS → Int → zqE → Option (Int × zqE)
  | 0, _, _, _, _, _, _, _ => none
  | n + 1, d, k, pc, ls, st, c, E => match zins k pc with
    | none => none
    | some (i, m) => if zlenOk i m = true then (match i with
      | .return_ => (match st with
        | [] => if zret k = none then some (c, E) else none
        | _ => none)
      | .invokespecial j => (match zlk (zMl (zcl k)) j with
        | some (t, _, _) => if t = 1000 then (match st, d with
            | .inr (.inr a) :: r, _ + 1 => if 0 ≤ a ∧ zcat r ≤ 8 then zq n d k (pc + 3) ls r c E else none
            | _, _ => none)
          else (match zready 2 t st, d with
            | some (args, r), e + 1 => (match zq n e t 0 (zentry t args) [] c E with
              | some (c', E') => zq n d k (pc + 3) ls r c' E'
              | none => none)
            | _, _ => none)
        | none => none)
      | _ => (match zqs k i pc ls st c E with
        | some (pc', ls', st', c', E') => zq n d k pc' ls' st' c' E'
        | none => none)) else none
/-- what is known of a memory in the midst of the constructors -/
def zBu (B : ZM) (c : Int) (E : zqE) (M : ZM) : Prop := (M (-1) 0 = c ∧ 3 ≤ c) ∧ (∀ a j, 0 ≤ a → a < 3 → M a j = B a j) ∧ (∀ a j, 3 ≤ a → a < c → a ≠ 223 → zqin E a j = false → M a j = yini a j) ∧ ∀ a j, c ≤ a → M a j = B a j
theorem zqL_113 : zq 4000 7 113 0 (zentry 113 [zA 3]) [] 4 (ypend 3 ++ []) = some (236, []) := by decide +kernel
