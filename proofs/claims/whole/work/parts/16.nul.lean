/-! null laid into a local -/
section NUL
variable {X : px_X} {G : px_D} {A : Nat → Prop} {Q : State → Prop} {pc : Nat} {L : List (Option Value)} {st : List Value} {h : pe_H} {sz nc ns : Nat} {cc : ByteArray} {own : String} {nL : Nat}
theorem pr_astore_nN (hC : px_C X G A cc own nL) {k0 : Fin 4} (hd : decode cc pc = .ok (.astore_n k0, 1)) (hn : (k0 : Nat) < nL) (ho : pl_ok L (k0 : Nat) = true) (k : pw X G A Q (pc + 1) (L.set (k0 : Nat) (some .null)) st h sz nc ns) : pw X G A Q pc L (.null :: st) h sz nc ns := fun H locs ls a1 a2 a3 a4 a5 => lv_astore_nN hC.1 hC.2.1 hd rfl a5.to (by rw [hC.2.2.2.2.2.2.2.2]; exact hn) rfl (fun ls' q => k H locs ls' a1 a2 a3 a4 (pl_st1 ho q))
theorem pr_astoreN (hC : px_C X G A cc own nL) {i : Nat} (hd : decode cc pc = .ok (.astore i, 2)) (hn : i < nL) (ho : pl_ok L i = true) (k : pw X G A Q (pc + 2) (L.set i (some .null)) st h sz nc ns) : pw X G A Q pc L (.null :: st) h sz nc ns := fun H locs ls a1 a2 a3 a4 a5 => lv_astoreN hC.1 hC.2.1 hd a5.to (by rw [hC.2.2.2.2.2.2.2.2]; exact hn) rfl (fun ls' q => k H locs ls' a1 a2 a3 a4 (pl_st1 ho q))
end NUL
