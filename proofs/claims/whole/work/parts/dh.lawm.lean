/-! the law's own methods: shelf, lay, look, with what they catch -/
def lO (Y : px_Y) (b : Nat) (f : Nat → Int64) : pe_H := fun a => if a = b then some (pa_l Y.1 1 f) else none
theorem lO_at {Y : px_Y} {b : Nat} {f : Nat → Int64} {U : Um} {h : pe_H} (hb : ¬ dU Y b) (hU : rF Y (lO Y b f) U h) : h b = some (pa_l Y.1 1 f) := (hU.2.2 b hb).trans (if_pos rfl)
theorem rF_out {Y : px_Y} {b : Nat} {f f' : Nat → Int64} {U : Um} {h : pe_H} (hb : ¬ dU Y b) (hU : rF Y (lO Y b f) U h) : rF Y (lO Y b f') U (pe_set h b (pa_l Y.1 1 f')) := by
  obtain ⟨hy, ⟨h1, h2, h3, h4, h5, h6, h7, h8, h9⟩, hf⟩ := hU
  have n1 : ∀ o, pe_set h b (pa_l Y.1 1 f') (Y.2.1 o) = h (Y.2.1 o) := fun o => pe_set_ne (fun q => hb (Or.inl ⟨o, q.symm⟩))
  have n2 : ∀ o k, pe_set h b (pa_l Y.1 1 f') (Y.2.2 o k) = h (Y.2.2 o k) := fun o k => pe_set_ne (fun q => hb (Or.inr ⟨o, k, q.symm⟩))
  refine ⟨hy, ⟨fun o ho => by rw [n1]; exact h1 o ho, fun o k hk => by rw [n2]; exact h2 o k hk, fun o k hk => by rw [n2]; exact h3 o k hk, fun o k hk => by rw [n2]; exact h4 o k hk, fun o k hk => by rw [n2]; exact h5 o k hk, fun o k hk => by rw [n2]; exact h6 o k hk, fun o k hk => by rw [n2]; exact h7 o k hk, fun o k i hk hi => by rw [n2]; exact h8 o k i hk hi, fun o k hk => by rw [n2]; exact h9 o k hk⟩, fun a ha => ?_⟩
  by_cases c : a = b
  · rw [c, pe_set_eq]
    exact (if_pos rfl).symm
  · rw [pe_set_ne c, hf a ha]
    unfold lO
    rw [if_neg c, if_neg c]
def qL (Y : px_Y) (b sz : Nat) (post : Int32 → Int64 → Um → Prop) : Option Value → pe_H → Nat → Prop := fun v h1 sz1 => ∃ (r : Int32) (f' : Nat → Int64) (U' : Um), v = some (.int r) ∧ post r (f' 0) U' ∧ rF Y (lO Y b f') U' h1 ∧ sz ≤ sz1
theorem fx_L13 : Cond.classLink RL 13 xN ∈ lw_g := lw_in 1197 (by decide +kernel) rfl
theorem fx_L15 : Cond.classLink RL 15 xI ∈ lw_g := lw_in 1198 (by decide +kernel) rfl
theorem xw_N : Cond.castable xN xN ∈ xwL := List.mem_cons_of_mem _ (List.mem_cons_of_mem _ (List.mem_cons_of_mem _ List.mem_cons_self))
theorem xw_I : Cond.castable xI xI ∈ xwL := List.mem_cons_of_mem _ (List.mem_cons_of_mem _ (List.mem_cons_of_mem _ (List.mem_cons_of_mem _ List.mem_cons_self)))
theorem up_00 {f : Nat → Int64} {x : Int64} : va_up f (Int32.toNatClampNeg 0) x 0 = x := if_pos rfl
set_option maxHeartbeats 4000000 in
theorem t_L_shelf {l : Launch} {Y : px_Y} {a1 a2 a3 : Int32} {U : Um} {b : Nat} {f : Nat → Int64} {post : Int32 → Int64 → Um → Prop} (hl : l.stackTraces = false) (hb : ¬ dU Y b) (H : w_xshelf a1 a2 a3 U (fun r V => post 0 (Int32.toInt64 r) V) (fun E V => (E = xN → post 1 (f 0) V) ∧ (E = xI → post 2 (f 0) V) ∧ (E = xN ∨ E = xI))) {h : pe_H} {sz : Nat} (hU : rF Y (lO Y b f) U h) : pmw l Y.1 7 yL_shelf cL_shelf 6 (some .int) [(0, 12, 15, 13), (0, 12, 19, 15)] [.ref (Y.2.1 0), .int a1, .int a2, .int a3, .ref b] h sz 1 6 (qL Y b sz post) := by
  refine pmw_of (by decide) (Nat.le_of_ble_eq_true rfl) [some (.ref (Y.2.1 0)), some (.int a1), some (.int a2), some (.int a3), some (.ref b), none] rfl (fun X hM ht hw hz => ?_)
  have hC := hM.1
  have hR := hM.2.2.1
  have hX : X.2.1.stackTraces = false := by rw [hM.2.1]; exact hl
  refine pr_aload hC (by decide +kernel : decode cL_shelf 0 = .ok (.aload 4, 2)) rfl ?_
  refine pr_iconst hC 0 (by decide +kernel : decode cL_shelf 2 = .ok (.iconst 0, 1)) rfl ?_
  refine pr_aload_n hC (by decide +kernel : decode cL_shelf 3 = .ok (.aload_n 0, 1)) rfl ?_
  refine pr_iload_n hC (by decide +kernel : decode cL_shelf 4 = .ok (.iload_n 1, 1)) rfl ?_
  refine pr_iload_n hC (by decide +kernel : decode cL_shelf 5 = .ok (.iload_n 2, 1)) rfl ?_
  refine pr_iload_n hC (by decide +kernel : decode cL_shelf 6 = .ok (.iload_n 3, 1)) rfl ?_
  refine pr_callVT hC hw hz hR (As := [.int a1, .int a2, .int a3]) (rest := [.int 0, .ref b]) fv_L_7 (by decide +kernel : decode cL_shelf 7 = .ok (.invokevirtual 7, 3)) (t_X11_shelf hX H hU) (hU.2.1.1 0 (by decide)) rfl rfl rfl (Nat.le_of_ble_eq_true rfl) (Nat.le_refl 7) (Nat.le_refl 1) (Nat.le_refl 6) (fun E h1 sz1 hp => ?_) (fun v h1 sz1 hp => ?_)
  · obtain ⟨U', ⟨p1, p2, p3⟩, hU2, hs⟩ := hp
    rcases p3 with rfl | rfl
    · refine pwx_catch hC hw [] ⟨0, 12, 15, 13⟩ [⟨0, 12, 19, 15⟩] ht (fun z hz => absurd hz List.not_mem_nil) rfl (by decide) fx_L13 xw_N (fun q => ?_)
      refine pr_astore hC (by decide +kernel : decode cL_shelf 15 = .ok (.astore 5, 2)) (by decide) rfl ?_
      refine pr_iconst hC 1 (by decide +kernel : decode cL_shelf 17 = .ok (.iconst 1, 1)) rfl ?_
      exact pr_iret hM (by decide +kernel : decode cL_shelf 18 = .ok (.ireturn, 1)) ⟨1, f, U', rfl, p1 rfl, hU2, hs⟩
    · refine pwx_catch hC hw [⟨0, 12, 15, 13⟩] ⟨0, 12, 19, 15⟩ [] ht (fun z hz => Or.inr ?_) rfl (by decide) fx_L15 xw_I (fun q => ?_)
      · rw [List.mem_singleton.mp hz]
        exact ⟨by decide, xN, fx_L13, hw.2⟩
      · refine pr_astore hC (by decide +kernel : decode cL_shelf 19 = .ok (.astore 5, 2)) (by decide) rfl ?_
        refine pr_iconst hC 2 (by decide +kernel : decode cL_shelf 21 = .ok (.iconst 2, 1)) rfl ?_
        exact pr_iret hM (by decide +kernel : decode cL_shelf 22 = .ok (.ireturn, 1)) ⟨2, f, U', rfl, p2 rfl, hU2, hs⟩
  · obtain ⟨r, U', rfl, hp, hU2, rfl⟩ := hp
    refine pr_i2l hC (by decide +kernel : decode cL_shelf 10 = .ok (.i2l, 1)) ?_
    refine pr_lastore hC (by decide +kernel : decode cL_shelf 11 = .ok (.lastore, 1)) (lO_at hb hU2) (vd_in (by decide)) ?_
    refine pr_goto hC 23 (by decide +kernel : decode cL_shelf 12 = .ok (.goto 11, 3)) (by decide) ?_
    refine pr_iconst hC 0 (by decide +kernel : decode cL_shelf 23 = .ok (.iconst 0, 1)) rfl ?_
    exact pr_iret hM (by decide +kernel : decode cL_shelf 24 = .ok (.ireturn, 1)) ⟨0, _, U', rfl, by rw [up_00]; exact hp, rF_out hb hU2, Nat.le_refl _⟩
set_option maxHeartbeats 4000000 in
theorem t_L_lay {l : Launch} {Y : px_Y} {a1 a2 a3 a4 : Int32} {U : Um} {b : Nat} {f : Nat → Int64} {post : Int32 → Int64 → Um → Prop} (hl : l.stackTraces = false) (hb : ¬ dU Y b) (H : w_xlay a1 a2 a3 a4 U (fun r V => (r = 0 → post 0 0 V) ∧ (¬ r = 0 → post 0 1 V)) (fun E V => post 1 (f 0) V ∧ E = xN)) {h : pe_H} {sz : Nat} (hU : rF Y (lO Y b f) U h) : pmw l Y.1 7 yL_lay cL_lay 7 (some .int) [(0, 21, 24, 13)] [.ref (Y.2.1 0), .int a1, .int a2, .int a3, .int a4, .ref b] h sz 1 6 (qL Y b sz post) := by
  refine pmw_of (by decide) (Nat.le_of_ble_eq_true rfl) [some (.ref (Y.2.1 0)), some (.int a1), some (.int a2), some (.int a3), some (.int a4), some (.ref b), none] rfl (fun X hM ht hw hz => ?_)
  have hC := hM.1
  have hR := hM.2.2.1
  have hX : X.2.1.stackTraces = false := by rw [hM.2.1]; exact hl
  refine pr_aload hC (by decide +kernel : decode cL_lay 0 = .ok (.aload 5, 2)) rfl ?_
  refine pr_iconst hC 0 (by decide +kernel : decode cL_lay 2 = .ok (.iconst 0, 1)) rfl ?_
  refine pr_aload_n hC (by decide +kernel : decode cL_lay 3 = .ok (.aload_n 0, 1)) rfl ?_
  refine pr_iload_n hC (by decide +kernel : decode cL_lay 4 = .ok (.iload_n 1, 1)) rfl ?_
  refine pr_iload_n hC (by decide +kernel : decode cL_lay 5 = .ok (.iload_n 2, 1)) rfl ?_
  refine pr_iload_n hC (by decide +kernel : decode cL_lay 6 = .ok (.iload_n 3, 1)) rfl ?_
  refine pr_iload hC (by decide +kernel : decode cL_lay 7 = .ok (.iload 4, 2)) rfl ?_
  refine pr_callVT hC hw hz hR (As := [.int a1, .int a2, .int a3, .int a4]) (rest := [.int 0, .ref b]) fv_L_17 (by decide +kernel : decode cL_lay 9 = .ok (.invokevirtual 17, 3)) (t_X11_lay hX H hU) (hU.2.1.1 0 (by decide)) rfl rfl rfl (Nat.le_of_ble_eq_true rfl) (Nat.le_refl 7) (Nat.le_refl 1) (Nat.le_refl 6) (fun E h1 sz1 hp => ?_) (fun v h1 sz1 hp => ?_)
  · obtain ⟨U', ⟨p1, rfl⟩, hU2, hs⟩ := hp
    refine pwx_catch hC hw [] ⟨0, 21, 24, 13⟩ [] ht (fun z hz => absurd hz List.not_mem_nil) rfl (by decide) fx_L13 xw_N (fun q => ?_)
    refine pr_astore hC (by decide +kernel : decode cL_lay 24 = .ok (.astore 6, 2)) (by decide) rfl ?_
    refine pr_iconst hC 1 (by decide +kernel : decode cL_lay 26 = .ok (.iconst 1, 1)) rfl ?_
    exact pr_iret hM (by decide +kernel : decode cL_lay 27 = .ok (.ireturn, 1)) ⟨1, f, U', rfl, p1, hU2, hs⟩
  · obtain ⟨r, U', rfl, hp, hU2, rfl⟩ := hp
    refine pr_if_eq hC 19 (by decide +kernel : decode cL_lay 12 = .ok (.ifCond .eq 7, 3)) (by decide) (fun c => ?_) (fun c => ?_)
    · refine pr_lconst hC 0 (by decide +kernel : decode cL_lay 19 = .ok (.lconst 0, 1)) rfl ?_
      refine pr_lastore hC (by decide +kernel : decode cL_lay 20 = .ok (.lastore, 1)) (lO_at hb hU2) (vd_in (by decide)) ?_
      refine pr_goto hC 28 (by decide +kernel : decode cL_lay 21 = .ok (.goto 7, 3)) (by decide) ?_
      refine pr_iconst hC 0 (by decide +kernel : decode cL_lay 28 = .ok (.iconst 0, 1)) rfl ?_
      exact pr_iret hM (by decide +kernel : decode cL_lay 29 = .ok (.ireturn, 1)) ⟨0, _, U', rfl, by rw [up_00]; exact hp.1 c, rF_out hb hU2, Nat.le_refl _⟩
    · refine pr_lconst hC 1 (by decide +kernel : decode cL_lay 15 = .ok (.lconst 1, 1)) rfl ?_
      refine pr_goto hC 20 (by decide +kernel : decode cL_lay 16 = .ok (.goto 4, 3)) (by decide) ?_
      refine pr_lastore hC (by decide +kernel : decode cL_lay 20 = .ok (.lastore, 1)) (lO_at hb hU2) (vd_in (by decide)) ?_
      refine pr_goto hC 28 (by decide +kernel : decode cL_lay 21 = .ok (.goto 7, 3)) (by decide) ?_
      refine pr_iconst hC 0 (by decide +kernel : decode cL_lay 28 = .ok (.iconst 0, 1)) rfl ?_
      exact pr_iret hM (by decide +kernel : decode cL_lay 29 = .ok (.ireturn, 1)) ⟨0, _, U', rfl, by rw [up_00]; exact hp.2 c, rF_out hb hU2, Nat.le_refl _⟩
set_option maxHeartbeats 4000000 in
theorem t_L_look {l : Launch} {Y : px_Y} {a1 a2 : Int32} {U : Um} {b : Nat} {f : Nat → Int64} {post : Int32 → Int64 → Um → Prop} (hl : l.stackTraces = false) (hb : ¬ dU Y b) (H : w_xlook a1 a2 U (fun r V => post 0 r V) (fun E V => post 1 (f 0) V ∧ E = xN)) {h : pe_H} {sz : Nat} (hU : rF Y (lO Y b f) U h) : pmw l Y.1 7 yL_look cL_look 5 (some .int) [(0, 9, 12, 13)] [.ref (Y.2.1 0), .int a1, .int a2, .ref b] h sz 1 6 (qL Y b sz post) := by
  refine pmw_of (by decide) (Nat.le_of_ble_eq_true rfl) [some (.ref (Y.2.1 0)), some (.int a1), some (.int a2), some (.ref b), none] rfl (fun X hM ht hw hz => ?_)
  have hC := hM.1
  have hR := hM.2.2.1
  have hX : X.2.1.stackTraces = false := by rw [hM.2.1]; exact hl
  refine pr_aload_n hC (by decide +kernel : decode cL_look 0 = .ok (.aload_n 3, 1)) rfl ?_
  refine pr_iconst hC 0 (by decide +kernel : decode cL_look 1 = .ok (.iconst 0, 1)) rfl ?_
  refine pr_aload_n hC (by decide +kernel : decode cL_look 2 = .ok (.aload_n 0, 1)) rfl ?_
  refine pr_iload_n hC (by decide +kernel : decode cL_look 3 = .ok (.iload_n 1, 1)) rfl ?_
  refine pr_iload_n hC (by decide +kernel : decode cL_look 4 = .ok (.iload_n 2, 1)) rfl ?_
  refine pr_callVT hC hw hz hR (As := [.int a1, .int a2]) (rest := [.int 0, .ref b]) fv_L_21 (by decide +kernel : decode cL_look 5 = .ok (.invokevirtual 21, 3)) (t_X11_look hX H hU) (hU.2.1.1 0 (by decide)) rfl rfl rfl (Nat.le_of_ble_eq_true rfl) (Nat.le_refl 7) (Nat.le_refl 1) (Nat.le_refl 6) (fun E h1 sz1 hp => ?_) (fun v h1 sz1 hp => ?_)
  · obtain ⟨U', ⟨p1, rfl⟩, hU2, hs⟩ := hp
    refine pwx_catch hC hw [] ⟨0, 9, 12, 13⟩ [] ht (fun z hz => absurd hz List.not_mem_nil) rfl (by decide) fx_L13 xw_N (fun q => ?_)
    refine pr_astore hC (by decide +kernel : decode cL_look 12 = .ok (.astore 4, 2)) (by decide) rfl ?_
    refine pr_iconst hC 1 (by decide +kernel : decode cL_look 14 = .ok (.iconst 1, 1)) rfl ?_
    exact pr_iret hM (by decide +kernel : decode cL_look 15 = .ok (.ireturn, 1)) ⟨1, f, U', rfl, p1, hU2, hs⟩
  · obtain ⟨r, U', rfl, hp, hU2, rfl⟩ := hp
    refine pr_lastore hC (by decide +kernel : decode cL_look 8 = .ok (.lastore, 1)) (lO_at hb hU2) (vd_in (by decide)) ?_
    refine pr_goto hC 16 (by decide +kernel : decode cL_look 9 = .ok (.goto 7, 3)) (by decide) ?_
    refine pr_iconst hC 0 (by decide +kernel : decode cL_look 16 = .ok (.iconst 0, 1)) rfl ?_
    exact pr_iret hM (by decide +kernel : decode cL_look 17 = .ok (.ireturn, 1)) ⟨0, _, U', rfl, by rw [up_00]; exact hp, rF_out hb hU2, Nat.le_refl _⟩
