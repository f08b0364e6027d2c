/-! what each pair of methods answers -/
section LAWP
variable {T : Tm} {U : Um} {w : Nat}
theorem p_way {a1 a2 : Int32} (hI : IA T) (hA : CA U T w) : pG (w_X11_way 0 a1 a2) (w_X12_way 55 a1 a2) U T w :=
  ⟨_, T, w, hI, x_X11_way hA.1 hI.1.1 hI.2.1 (jI_of _).symm (jI_of _).symm (r32_of _) (r32_of _) ⟨rfl, hA, fun _ => ⟨rfl, rfl, rfl, rfl⟩⟩, fun V _ hM => s_X12_way hM hI.1.1 hI.2.1 (jI_of _).symm (jI_of _).symm (r32_of _) (r32_of _) (fun U2 h2 hf => ⟨rfl, h2, hf⟩)⟩
theorem p_toward {a1 a2 : Int32} (hI : IA T) (hA : CA U T w) : pG (w_X11_toward 0 a1 a2) (w_X12_toward 55 a1 a2) U T w :=
  ⟨_, T, w, hI, x_X11_toward hA.1 hI.1.1 hI.2.1 (jI_of _).symm (jI_of _).symm (r32_of _) (r32_of _) ⟨rfl, hA, fun _ => ⟨rfl, rfl, rfl, rfl⟩⟩, fun V _ hM => s_X12_toward hM hI.1.1 hI.2.1 (jI_of _).symm (jI_of _).symm (r32_of _) (r32_of _) (fun U2 h2 hf => ⟨rfl, h2, hf⟩)⟩
theorem p_hub (hI : IA T) (hA : CA U T w) : pG (w_X11_hub 0) (w_X12_hub 55) U T w :=
  ⟨_, T, w, hI, x_X11_hub hA.1 hI.1.1 hI.2.1 ⟨rfl, hA, fun _ => ⟨rfl, rfl, rfl, rfl⟩⟩, fun V _ hM => s_X12_hub hM hI.1.1 hI.2.1 (fun U2 h2 hf => ⟨rfl, h2, hf⟩)⟩
theorem p_why {a1 a2 a3 : Int32} (hI : IA T) (hA : CA U T w) : pG (w_X11_why 0 a1 a2 a3) (w_X12_why 55 a1 a2 a3) U T w :=
  ⟨_, T, w, hI, x_X11_why hA.1 hI.1.1 hI.2.1 (jI_of _).symm (jI_of _).symm (jI_of _).symm (r32_of _) (r32_of _) (r32_of _) ⟨rfl, hA, fun _ => ⟨rfl, rfl, rfl, rfl⟩⟩, fun V _ hM => s_X12_why hM hI.1.1 hI.2.1 (jI_of _).symm (jI_of _).symm (jI_of _).symm (r32_of _) (r32_of _) (r32_of _) (fun U2 h2 hf => ⟨rfl, h2, hf⟩)⟩
theorem p_could {a1 a2 a3 a4 : Int32} (hI : IA T) (hA : CA U T w) : pG (w_X11_could 0 a1 a2 a3 a4) (w_X12_could 55 a1 a2 a3 a4) U T w :=
  ⟨_, T, w, hI, x_X11_could hA.1 hI.1.1 hI.2.1 (jI_of _).symm (jI_of _).symm (jI_of _).symm (jI_of _).symm (r32_of _) (r32_of _) (r32_of _) (r32_of _) ⟨rfl, hA, fun _ => ⟨rfl, rfl, rfl, rfl⟩⟩, fun V _ hM => s_X12_could hM hI.1.1 hI.2.1 (jI_of _).symm (jI_of _).symm (jI_of _).symm (jI_of _).symm (r32_of _) (r32_of _) (r32_of _) (r32_of _) (fun U2 h2 hf => ⟨rfl, h2, hf⟩)⟩
theorem p_able {a1 a2 : Int32} (hI : IA T) (hA : CA U T w) : pG (w_X11_able 0 a1 a2) (w_X12_able 55 a1 a2) U T w :=
  ⟨_, T, w, hI, x_X11_able hA.1 hI.1.1 hI.2.1 (jI_of _).symm (jI_of _).symm (r32_of _) (r32_of _) ⟨rfl, hA, fun _ => ⟨rfl, rfl, rfl, rfl⟩⟩, fun V _ hM => s_X12_able hM hI.1.1 hI.2.1 (jI_of _).symm (jI_of _).symm (r32_of _) (r32_of _) (fun U2 h2 hf => ⟨rfl, h2, hf⟩)⟩
theorem p_extra {a1 a2 a3 : Int32} (hI : IA T) (hA : CA U T w) : pG (w_X11_extra 0 a1 a2 a3) (w_X12_extra 55 a1 a2 a3) U T w :=
  ⟨_, T, w, hI, x_X11_extra hA.1 hI.1.1 hI.2.1 hI.1.2.1 (jI_of _).symm (jI_of _).symm (jI_of _).symm (r32_of _) (r32_of _) (r32_of _) ⟨rfl, hA, fun _ => ⟨rfl, rfl, rfl, rfl⟩⟩, fun V _ hM => s_X12_extra hM hI.1.1 hI.2.1 (jI_of _).symm (jI_of _).symm (jI_of _).symm (r32_of _) (r32_of _) (r32_of _) (fun U2 h2 hf => ⟨rfl, h2, hf⟩)⟩
theorem p_unsound {a1 : Int32} (hI : IA T) (hA : CA U T w) : pG (w_X11_unsound 0 a1) (w_X12_unsound 55 a1) U T w :=
  ⟨_, T, w, hI, x_X11_unsound hA.1 hI.1.1 hI.2.1 (jI_of _).symm (r32_of _) ⟨rfl, hA, fun _ => ⟨rfl, rfl, rfl, rfl⟩⟩, fun V _ hM => s_X12_unsound hM hI.1.1 hI.2.1 (jI_of _).symm (r32_of _) (fun U2 h2 hf => ⟨rfl, h2, hf⟩)⟩
theorem p_round {a1 a2 : Int32} (hI : IA T) (hA : CA U T w) : pG (w_X11_round 0 a1 a2) (w_X12_round 55 a1 a2) U T w :=
  ⟨_, T, w, hI, x_X11_round hA.1 hI.1.1 hI.2.1 hI.1.2.1 (jI_of _).symm (jI_of _).symm (r32_of _) (r32_of _) ⟨rfl, hA, fun _ => ⟨rfl, rfl, rfl, rfl⟩⟩, fun V _ hM => s_X12_round hM hI.1.1 hI.2.1 (jI_of _).symm (jI_of _).symm (r32_of _) (r32_of _) (fun U2 h2 hf => ⟨rfl, h2, hf⟩)⟩
theorem p_trip {a1 a2 a3 : Int32} (hI : IA T) (hA : CA U T w) : pG (w_X11_trip 0 a1 a2 a3) (w_X12_trip 55 a1 a2 a3) U T w :=
  ⟨_, T, w, hI, x_X11_trip hA.1 hI.1.1 hI.2.1 (jI_of _).symm (jI_of _).symm (jI_of _).symm (r32_of _) (r32_of _) (r32_of _) ⟨rfl, hA, fun _ => ⟨rfl, rfl, rfl, rfl⟩⟩, fun V _ hM => s_X12_trip hM hI.1.1 hI.2.1 (jI_of _).symm (jI_of _).symm (jI_of _).symm (r32_of _) (r32_of _) (r32_of _) (fun U2 h2 hf => ⟨rfl, h2, hf⟩)⟩
theorem p_spread {a1 : Int32} (hI : IA T) (hA : CA U T w) : pG (w_X11_spread 0 a1) (w_X12_spread 55 a1) U T w :=
  ⟨_, T, w, hI, x_X11_spread hA.1 hI.1.1 hI.2.1 (jI_of _).symm (r32_of _) ⟨rfl, hA, fun _ => ⟨rfl, rfl, rfl, rfl⟩⟩, fun V _ hM => s_X12_spread hM hI.1.1 hI.2.1 (jI_of _).symm (r32_of _) (fun U2 h2 hf => ⟨rfl, h2, hf⟩)⟩
theorem p_formBits {a1 : Int32} (hI : IA T) (hA : CA U T w) : pG (w_X11_formBits 0 a1) (w_X12_formBits 55 a1) U T w :=
  ⟨_, T, w, hI, x_X11_formBits hA.1 hI.1.1 hI.2.1 hI.2.2.1 (jI_of _).symm (r32_of _) ⟨rfl, hA, fun _ => ⟨rfl, rfl, rfl, rfl⟩⟩, fun V _ hM => s_X12_formBits hM hI.1.1 hI.2.1 hI.2.2.1 (jI_of _).symm (r32_of _) (fun U2 h2 hf => ⟨rfl, h2, hf⟩)⟩
theorem p_seat {a1 a2 a3 : Int32} (hI : IA T) (hA : CA U T w) : pG (w_X11_seat 0 a1 a2 a3) (w_X12_seat 55 a1 a2 a3) U T w :=
  ⟨_, T, w, hI, x_X11_seat hA.1 hI.1.1 hI.2.1 (jI_of _).symm (jI_of _).symm (jI_of _).symm (r32_of _) (r32_of _) (r32_of _) ⟨rfl, hA, fun _ => ⟨rfl, rfl, rfl, rfl⟩⟩, fun V _ hM => s_X12_seat hM hI.1.1 hI.2.1 (jI_of _).symm (jI_of _).symm (jI_of _).symm (r32_of _) (r32_of _) (r32_of _) (fun U2 h2 hf => ⟨rfl, h2, hf⟩)⟩
theorem p_fault {a1 : Int32} (hI : IA T) (hA : CA U T w) : pG (w_X11_fault 0 a1) (w_X12_fault 55 a1) U T w :=
  ⟨_, T, w, hI, x_X11_fault hA.1 hA.2.2.2.1 (jI_of _).symm (r32_of _) ⟨rfl, hA, fun _ => ⟨rfl, rfl, rfl, rfl⟩⟩, fun V _ hM => s_X12_fault hM (jI_of _).symm (r32_of _) (fun U2 h2 hf => ⟨rfl, h2, hf⟩)⟩
theorem p_letter {a1 a2 a3 : Int32} (hI : IA T) (hA : CA U T w) : pG (w_X11_letter 0 a1 a2 a3) (w_X12_letter 55 a1 a2 a3) U T w :=
  ⟨_, T, w, hI, x_X11_letter hA.1 hI.1.1 hI.2.1 (jI_of _).symm (jI_of _).symm (jI_of _).symm (r32_of _) (r32_of _) (r32_of _) ⟨rfl, hA, fun _ => ⟨rfl, rfl, rfl, rfl⟩⟩, fun V _ hM => s_X12_letter hM hI.1.1 hI.2.1 (jI_of _).symm (jI_of _).symm (jI_of _).symm (r32_of _) (r32_of _) (r32_of _) (fun U2 h2 hf => ⟨rfl, h2, hf⟩)⟩
theorem p_one {a1 a2 : Int32} (hI : IA T) (hA : CA U T w) : pG (w_X11_one 0 a1 a2) (w_X12_one_ 55 a1 a2) U T w :=
  ⟨_, T, w, hI, x_X11_one hA.1 hI.1.1 hI.2.1 (jI_of _).symm (jI_of _).symm (r32_of _) (r32_of _) ⟨rfl, hA, fun _ => ⟨rfl, rfl, rfl, rfl⟩⟩, fun V _ hM => s_X12_one_ hM hI.1.1 hI.2.1 (jI_of _).symm (jI_of _).symm (r32_of _) (r32_of _) (fun U2 h2 hf => ⟨rfl, h2, hf⟩)⟩
theorem p_game {a1 a2 : Int32} (hI : IA T) (hA : CA U T w) : pG (w_X11_game 0 a1 a2) (w_X12_game 55 a1 a2) U T w :=
  ⟨_, T, w, hI, x_X11_game hA.1 hI.1.1 hI.2.1 (jI_of _).symm (jI_of _).symm (r32_of _) (r32_of _) ⟨rfl, hA, fun _ => ⟨rfl, rfl, rfl, rfl⟩⟩, fun V _ hM => s_X12_game hM hI.1.1 hI.2.1 (jI_of _).symm (jI_of _).symm (r32_of _) (r32_of _) (fun U2 h2 hf => ⟨rfl, h2, hf⟩)⟩
theorem p_has {a1 : Int32} (hI : IA T) (hA : CA U T w) : pG (w_X11_has 0 a1) (w_X12_has 55 a1) U T w :=
  ⟨_, T, w, hI, x_X11_has hA hI.1.1 hI.2.1 (jI_of _).symm (r32_of _) ⟨rfl, hA, fun _ => ⟨rfl, rfl, rfl, rfl⟩⟩, fun V _ hM => s_X12_has hM hI.1.1 hI.2.1 (jI_of _).symm (r32_of _) (fun U2 h2 hf => ⟨rfl, h2, hf⟩)⟩
theorem p_best {a1 a2 : Int32} (hI : IA T) (hA : CA U T w) : pG (w_X11_best 0 a1 a2) (w_X12_best 55 a1 a2) U T w :=
  ⟨_, T, w, hI, x_X11_best hA.1 hI.1.1 hI.2.1 hI.1.2.1 (jI_of _).symm (jI_of _).symm (r32_of _) (r32_of _) (fun V hV hf => ⟨rfl, CA_q hA hf (fun o k q => by omega) hV, k55_f hf (fun k z => by omega)⟩), fun V _ hM => s_X12_best hM hI.1.1 hI.2.1 (jI_of _).symm (jI_of _).symm (r32_of _) (r32_of _) (fun U2 h2 hf => ⟨rfl, h2, hf⟩)⟩
theorem p_crew {a1 a2 : Int32} (hI : IA T) (hA : CA U T w) : pG (w_X11_crew 0 a1 a2) (w_X12_crew 55 a1 a2) U T w :=
  ⟨_, T, w, hI, x_X11_crew hA.1 hI.1.1 hI.2.1 hI.1.2.1 (jI_of _).symm (jI_of _).symm (r32_of _) (r32_of _) (fun V hV hf => ⟨rfl, CA_q hA hf (fun o k q => by omega) hV, k55_f hf (fun k z => by omega)⟩), fun V _ hM => s_X12_crew hM hI.1.1 hI.2.1 (jI_of _).symm (jI_of _).symm (r32_of _) (r32_of _) (fun U2 h2 hf => ⟨rfl, h2, hf⟩)⟩
theorem p_steps {a1 a2 a3 : Int32} (hI : IA T) (hA : CA U T w) : pG (w_X11_steps 0 a1 a2 a3) (w_X12_steps 55 a1 a2 a3) U T w :=
  ⟨_, T, w, hI, x_X11_steps hA.1 hI.1.1 hI.2.1 (jI_of _).symm (jI_of _).symm (jI_of _).symm (r32_of _) (r32_of _) (r32_of _) (fun V hV hf => ⟨rfl, CA_q hA hf (fun o k q => by omega) hV, k55_f hf (fun k z => by omega)⟩), fun V _ hM => s_X12_steps hM hI.1.1 hI.2.1 (jI_of _).symm (jI_of _).symm (jI_of _).symm (r32_of _) (r32_of _) (r32_of _) (fun U2 h2 hf => ⟨rfl, h2, hf⟩)⟩
theorem p_exchange {a1 : Int32} (hI : IA T) (hA : CA U T w) : pG (w_X11_exchange 0 a1) (w_X12_exchange 55 a1) U T w :=
  ⟨_, T, w, hI, x_X11_exchange hA.1 hI.1.1 hI.2.1 hI.1.2.1 (jI_of _).symm (r32_of _) (fun V hV hf => ⟨rfl, CA_q hA hf (fun o k q => by omega) hV, k55_f hf (fun k z => by omega)⟩), fun V _ hM => s_X12_exchange hM hI.1.1 hI.2.1 (jI_of _).symm (r32_of _) (fun U2 h2 hf => ⟨rfl, h2, hf⟩)⟩
theorem p_rank {a1 : Int32} (hI : IA T) (hA : CA U T w) : pG (w_X11_rank 0 a1) (w_X12_rank 55 a1) U T w :=
  ⟨_, T, w, hI, x_X11_rank hA.1 hI.1.1 hI.2.1 (IA_Rk hI) (jI_of _).symm (r32_of _) (fun V hV hf => ⟨rfl, CA_q hA hf (fun o k q => by omega) hV, k55_f hf (fun k z => by omega)⟩), fun V _ hM => s_X12_rank hM hI.1.1 hI.2.1 (jI_of _).symm (r32_of _) (fun U2 h2 hf => ⟨rfl, h2, hf⟩)⟩
theorem p_fee {a1 a2 a3 : Int32} (hI : IA T) (hA : CA U T w) : pGl (w_X11_fee 0 a1 a2 a3) (w_X12_fee 55 a1 a2 a3) U T w :=
  ⟨_, T, w, hI, x_X11_fee hA.1 hI.1.1 hI.2.1 (jI_of _).symm (jI_of _).symm (jI_of _).symm (r32_of _) (r32_of _) (r32_of _) (fun V hV hf => ⟨rfl, CA_q hA hf (fun o k q => by omega) hV, k55_f hf (fun k z => by omega)⟩), fun V _ hM => s_X12_fee hM hI.1.1 hI.2.1 (jI_of _).symm (jI_of _).symm (jI_of _).symm (r32_of _) (r32_of _) (r32_of _) (fun U2 h2 hf => ⟨rfl, h2, hf⟩)⟩
theorem p_fees {a1 : Int32} (hI : IA T) (hA : CA U T w) : pGl (w_X11_fees 0 a1) (w_X12_fees 55 a1) U T w :=
  ⟨_, T, w, hI, x_X11_fees hA.1 hI.1.1 hI.2.1 (jI_of _).symm (r32_of _) (fun V hV hf => ⟨rfl, CA_q hA hf (fun o k q => by omega) hV, k55_f hf (fun k z => by omega)⟩), fun V _ hM => s_X12_fees hM hI.1.1 hI.2.1 (jI_of _).symm (r32_of _) (fun U2 h2 hf => ⟨rfl, h2, hf⟩)⟩
theorem p_put {a1 a2 a3 : Int32} (hI : IA T) (hA : CA U T w) : pG (w_X11_put 0 a1 a2 a3) (w_X12_put 55 a1 a2 a3) U T w :=
  ⟨_, _, w, (IA_put hI), x_X11_put hA hI.1.1 hI.2.1 (jI_of _).symm (jI_of _).symm (jI_of _).symm (r32_of _) (r32_of _) (r32_of _) (fun V hV hf => ⟨rfl, hV, k55_f hf (fun k z => by omega)⟩), fun V _ hM => s_X12_put hM hI.1.1 hI.2.1 (jI_of _).symm (jI_of _).symm (jI_of _).symm (r32_of _) (r32_of _) (r32_of _) hI.2.2.2.1.1 hI.2.2.2.1.2 (fun U2 h2 hf => ⟨rfl, h2, hf⟩)⟩
theorem p_drop {a1 a2 : Int32} (hI : IA T) (hA : CA U T w) : pG (w_X11_drop 0 a1 a2) (w_X12_drop 55 a1 a2) U T w :=
  ⟨_, _, w, (IA_drop hI), x_X11_drop hA hI.1.1 hI.2.1 (jI_of _).symm (jI_of _).symm (r32_of _) (r32_of _) (fun V hV hf => ⟨rfl, hV, k55_f hf (fun k z => by omega)⟩), fun V _ hM => s_X12_drop hM hI.1.1 hI.2.1 (jI_of _).symm (jI_of _).symm (r32_of _) (r32_of _) hI.2.2.2.1.1 hI.2.2.2.1.2 (fun U2 h2 hf => ⟨rfl, h2, hf⟩)⟩
theorem p_swap {a1 a2 a3 a4 : Int32} (hI : IA T) (hA : CA U T w) : pG (w_X11_swap 0 a1 a2 a3 a4) (w_X12_swap 55 a1 a2 a3 a4) U T w :=
  ⟨_, _, w, (IA_swap hI), x_X11_swap hA hI.1.1 hI.2.1 (jI_of _).symm (jI_of _).symm (jI_of _).symm (jI_of _).symm (r32_of _) (r32_of _) (r32_of _) (r32_of _) (fun V hV hf => ⟨rfl, hV, k55_f hf (fun k z => by omega)⟩), fun V _ hM => s_X12_swap hM hI.1.1 hI.2.1 (jI_of _).symm (jI_of _).symm (jI_of _).symm (jI_of _).symm (r32_of _) (r32_of _) (r32_of _) (r32_of _) hI.2.2.2.1.1 hI.2.2.2.1.2 (fun U2 h2 hf => ⟨rfl, h2, hf⟩)⟩
theorem p_day (hI : IA T) (hA : CA U T w) : pG (w_X11_day 0) (w_X12_day 55) U T w :=
  ⟨_, _, w, (IA_day hI), x_X11_day hA hI.1.1 hI.2.1 (fun V hV hf => ⟨rfl, hV, k55_f hf (fun k z => by omega)⟩), fun V _ hM => s_X12_day hM hI.1.1 hI.2.1 hI.2.2.2.1.1 hI.2.2.2.1.2 (fun U2 h2 hf => ⟨rfl, h2, hf⟩)⟩
theorem p_play {a1 : Int32} (hI : IA T) (hA : CA U T w) : pG (w_X11_play 0 a1) (w_X12_play 55 a1) U T w :=
  ⟨_, _, w, (IA_play hI), x_X11_play hA hI.1.1 hI.2.1 hI.2.2.1 (fun V hV hf => ⟨rfl, hV, k55_f hf (fun k z => by omega)⟩), fun V _ hM => s_X12_play hM hI.1.1 hI.2.1 hI.2.2.1 hI.2.2.2.1.1 hI.2.2.2.1.2 (fun U2 h2 hf => ⟨rfl, h2, hf⟩)⟩
theorem p_mark {a1 a2 a3 : Int32} (hI : IA T) (hA : CA U T w) : pG (w_X11_mark 0 a1 a2 a3) (w_X12_mark 55 a1 a2 a3) U T w :=
  ⟨_, _, w, (IA_mark hI), x_X11_mark hA hI.1.1 hI.2.1 hI.2.2.1 (jI_of _).symm (jI_of _).symm (jI_of _).symm (r32_of _) (r32_of _) (r32_of _) (fun V hV hf => ⟨rfl, hV, k55_f hf (fun k z => by omega)⟩), fun V _ hM => s_X12_mark hM hI.1.1 hI.2.1 hI.2.2.1 (jI_of _).symm (jI_of _).symm (jI_of _).symm (r32_of _) (r32_of _) (r32_of _) hI.2.2.2.1.1 hI.2.2.2.1.2 (fun U2 h2 hf => ⟨rfl, h2, hf⟩)⟩
theorem p_fill (hI : IA T) (hA : CA U T w) : pG (w_X11_fill 0) (w_X12_fill 55) U T w :=
  ⟨_, _, w, (IA_fill hI), x_X11_fill hA hI.1.1 hI.2.1 hI.1.2.1 (fun V hV hf => ⟨rfl, hV, k55_f hf (fun k z => by omega)⟩), fun V _ hM => s_X12_fill hM hI.1.1 hI.2.1 hI.2.2.2.1.1 hI.2.2.2.1.2 (fun U2 h2 hf => ⟨rfl, h2, hf⟩)⟩
theorem p_undo (hI : IA T) (hA : CA U T w) : pG (w_X11_undo 0) (w_X12_undo 55) U T w :=
  ⟨_, _, w, (IA_undo hI), x_X11_undo hA hI.1.1 (fun V hV hf => ⟨rfl, hV, k55_f hf (fun k z => by omega)⟩), fun V _ hM => s_X12_undo hM hI.1.1 hI.2.1 hI.2.2.2.1.1 hI.2.2.2.1.2 (fun U2 h2 hf => ⟨rfl, h2, hf⟩)⟩
theorem p_feed {a1 a2 a3 a4 a5 : Int32} (hI : IA T) (hA : CA U T w) : pG (w_X11_feed 0 a1 a2 a3 a4 a5) (w_X12_feed 55 a1 a2 a3 a4 a5) U T w :=
  ⟨_, _, w, (IA_feed hI), x_X11_feed hA hI.1.1 hI.1.2.2.1 (jI_of _).symm (jI_of _).symm (jI_of _).symm (jI_of _).symm (jI_of _).symm (fun V hV hf => ⟨rfl, hV, k55_f hf (fun k z => by omega)⟩), fun V _ hM => s_X12_feed hM (jI_of _).symm (jI_of _).symm (jI_of _).symm (jI_of _).symm (jI_of _).symm hI.1.2.2.1.1.1 hI.1.2.2.1.1.2 (fun U2 h2 hf => ⟨rfl, h2, hf⟩)⟩
theorem p_review {a1 a2 : Int32} (hI : IA T) (hA : CA U T w) : pG (w_X11_review 0 a1 a2) (w_X12_review 55 a1 a2) U T w :=
  ⟨_, _, w, (IA_rev hI), x_X11_review hA hI.1.1 hI.2.1 hI.2.2.1 (jI_of _).symm (jI_of _).symm (r32_of _) (r32_of _) (fun V hV hf => ⟨rfl, hV, k55_f hf (fun k z => by omega)⟩), fun V _ hM => s_X12_review hM hI.1.1 hI.2.1 (jI_of _).symm (jI_of _).symm (r32_of _) (r32_of _) hI.2.2.2.1.1 hI.2.2.2.1.2 (fun U2 h2 hf => ⟨rfl, h2, hf⟩)⟩
end LAWP
