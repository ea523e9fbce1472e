section STR
variable {p : Program} {l : Launch} {e : Env} {R : Room} {s : State} {m : MethodId} {args : Array Value} {below : List Frame} {meth : Method} {c : Code} {H : Heap} {locs : List Loc} {cells slots : Nat} {Q : State → Prop}
variable {cc : ByteArray} {pc : Nat} {ls : Array Slot} {rest : List Value} {g : Gt} {A : Nat → Prop} {h : Hp} {a : Nat} {own : String} {nL : Nat}
theorem r_slen (C : Cx g A RX7 cc nL p s m args meth c) (Z : St g A s h H locs) {i : Nat} (hi : i < 5) (hsize : ls.size = nL) (hdg : decode cc pc = .ok (.invokevirtual 32, 3))
    (kk : W p l e R s m args below meth c H locs cells slots Q (F0 m (pc + 3) ls (.int (nI (sLn i)) :: rest))) : W p l e R s m args below meth c H locs cells slots Q (F0 m pc ls (.ref (g.2.2 (3 + i)) :: rest)) := by
  sorry
theorem r_scharAt (C : Cx g A RX7 cc nL p s m args meth c) (Z : St g A s h H locs) {i : Nat} (hi : i < 5) (hsize : ls.size = nL) {x v : Int32} (hv : sCh i x = some v) (hdg : decode cc pc = .ok (.invokevirtual 37, 3))
    (kk : W p l e R s m args below meth c H locs cells slots Q (F0 m (pc + 3) ls (.int v :: rest))) : W p l e R s m args below meth c H locs cells slots Q (F0 m pc ls (.int x :: .ref (g.2.2 (3 + i)) :: rest)) := by
  sorry
end STR
