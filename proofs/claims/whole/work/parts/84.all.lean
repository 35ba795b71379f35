-- every call, class beside reference
theorem A_moreIn {S : kSt} (hI : Inv S) (a1 : Int32) : Agree (f_m10_moreIn a1) (f_m11_moreIn a1) S := ag_moreIn hI a1 (fun h _ => by
  obtain ⟨hm, p, hp, rfl⟩ := pB_ok hI h
  exact b_moreIn (k018_keep.ck.mpr hI.c) (k018_keep.mk.mpr hm) (by rw [k018_keep.gn (a := 57) rfl]; exact hp))
theorem A_settles {S : kSt} (hI : Inv S) (a1 : Int32) : Agree (f_m10_settles a1) (f_m11_settles a1) S := ag_settles hI a1 (fun h _ => by
  obtain ⟨hm, p, hp, rfl⟩ := pB_ok hI h
  exact b_settles (k018_keep.ck.mpr hI.c) (k018_keep.mk.mpr hm) (by rw [k018_keep.gn (a := 57) rfl]; exact hp))
theorem A_round {S : kSt} (hI : Inv S) (a1 : Int32) : Agree (f_m10_round a1) (f_m11_round a1) S := ag_round hI a1 (fun h _ => by
  obtain ⟨hm, p, hp, rfl⟩ := pB_ok hI h
  exact b_round (k018_keep.ck.mpr hI.c) (k018_keep.mk.mpr hm) (by rw [k018_keep.gn (a := 57) rfl]; exact hp))
theorem A_roundMost {S : kSt} (hI : Inv S) (a1 : Int32) : Agree (f_m10_roundMost a1) (f_m11_roundMost a1) S := ag_roundMost hI a1 (fun h _ => by
  obtain ⟨hm, p, hp, rfl⟩ := pB_ok hI h
  exact b_roundMost (k018_keep.ck.mpr hI.c) (k018_keep.mk.mpr hm) (by rw [k018_keep.gn (a := 57) rfl]; exact hp))
theorem A_roundLeast {S : kSt} (hI : Inv S) (a1 : Int32) : Agree (f_m10_roundLeast a1) (f_m11_roundLeast a1) S := ag_roundLeast hI a1 (fun h _ => by
  obtain ⟨hm, p, hp, rfl⟩ := pB_ok hI h
  exact b_roundLeast (k018_keep.ck.mpr hI.c) (k018_keep.mk.mpr hm) (by rw [k018_keep.gn (a := 57) rfl]; exact hp))
theorem A_turnsAbout {S : kSt} (hI : Inv S) (a1 : Int32) : Agree (f_m10_turnsAbout a1) (f_m11_turnsAbout a1) S := ag_turnsAbout hI a1 (fun h _ => by
  obtain ⟨hm, p, hp, rfl⟩ := pB_ok hI h
  exact b_turnsAbout (k018_keep.ck.mpr hI.c) (k018_keep.mk.mpr hm) (by rw [k018_keep.gn (a := 57) rfl]; exact hp))
theorem A_everyNever {S : kSt} (hI : Inv S) (a1 : Int32) : Agree (f_m10_everyNever a1) (f_m11_everyNever a1) S := ag_everyNever hI a1 (fun h _ => by
  obtain ⟨hm, p, hp, rfl⟩ := pB_ok hI h
  exact b_everyNever (k018_keep.ck.mpr hI.c) (k018_keep.mk.mpr hm) (by rw [k018_keep.gn (a := 57) rfl]; exact hp))
theorem A_third {S : kSt} (hI : Inv S) (a1 : Int32) : Agree (f_m10_third a1) (f_m11_third a1) S := ag_third hI a1 (fun h _ => by
  obtain ⟨hm, p, hp, rfl⟩ := pB_ok hI h
  exact b_third (k018_keep.ck.mpr hI.c) (k018_keep.mk.mpr hm) (by rw [k018_keep.gn (a := 57) rfl]; exact hp))
theorem A_net {S : kSt} (hI : Inv S) (a1 : Int32) : Agree (f_m10_net a1) (f_m11_net a1) S := ag_net hI a1 (fun h _ => by
  obtain ⟨hm, p, hp, rfl⟩ := pB_ok hI h
  exact b_net (k018_keep.ck.mpr hI.c) (k018_keep.mk.mpr hm) (by rw [k018_keep.gn (a := 57) rfl]; exact hp))
theorem A_ring {S : kSt} (hI : Inv S) (a1 : Int32) : Agree (f_m10_ring a1) (f_m11_ring a1) S := ag_ring hI a1 (fun h _ => by
  obtain ⟨hm, p, hp, rfl⟩ := pB_ok hI h
  exact b_ring (k018_keep.ck.mpr hI.c) (k018_keep.mk.mpr hm) (by rw [k018_keep.gn (a := 57) rfl]; exact hp))
theorem A_says {S : kSt} (hI : Inv S) (a1 : Int32) (a2 : Int32) : Agree (f_m10_says a1 a2) (f_m11_says a1 a2) S := ag_says hI a1 a2 (fun h h2 => by
  obtain ⟨hm, p, hp, rfl⟩ := pB_ok hI h
  obtain ⟨n, hn, rfl⟩ := uB_ok (N := 60) (by omega) h2
  exact b_says (k018_keep.ck.mpr hI.c) (k018_keep.mk.mpr hm) (by rw [k018_keep.gn (a := 57) rfl]; exact hp) hn)
theorem A_saysAll {S : kSt} (hI : Inv S) (a1 : Int32) (a2 : Int32) : Agree (f_m10_saysAll a1 a2) (f_m11_saysAll a1 a2) S := ag_saysAll hI a1 a2 (fun h h2 => by
  obtain ⟨hm, p, hp, rfl⟩ := pB_ok hI h
  obtain ⟨n, hn, rfl⟩ := uB_ok (N := 60) (by omega) h2
  exact b_saysAll (k018_keep.ck.mpr hI.c) (k018_keep.mk.mpr hm) (by rw [k018_keep.gn (a := 57) rfl]; exact hp) hn)
theorem A_moreTimes {S : kSt} (hI : Inv S) (a1 : Int32) (a2 : Int32) : Agree (f_m10_moreTimes a1 a2) (f_m11_moreTimes a1 a2) S := ag_moreTimes hI a1 a2 (fun h h2 => by
  obtain ⟨hm, p, hp, rfl⟩ := pB_ok hI h
  obtain ⟨n, hn, rfl⟩ := uB_ok (N := 60) (by omega) h2
  exact b_moreTimes (k018_keep.ck.mpr hI.c) (k018_keep.mk.mpr hm) (by rw [k018_keep.gn (a := 57) rfl]; exact hp) hn)
theorem A_everyFor {S : kSt} (hI : Inv S) (a1 : Int32) (a2 : Int32) : Agree (f_m10_everyFor a1 a2) (f_m11_everyFor a1 a2) S := ag_everyFor hI a1 a2 (fun h h2 => by
  obtain ⟨hm, p, hp, rfl⟩ := pB_ok hI h
  obtain ⟨n, hn, rfl⟩ := uB_ok (N := 60) (by omega) h2
  exact b_everyFor (k018_keep.ck.mpr hI.c) (k018_keep.mk.mpr hm) (by rw [k018_keep.gn (a := 57) rfl]; exact hp) hn)
theorem A_everySays {S : kSt} (hI : Inv S) (a1 : Int32) (a2 : Int32) : Agree (f_m10_everySays a1 a2) (f_m11_everySays a1 a2) S := ag_everySays hI a1 a2 (fun h h2 => by
  obtain ⟨hm, p, hp, rfl⟩ := pB_ok hI h
  obtain ⟨n, hn, rfl⟩ := uB_ok (N := 60) (by omega) h2
  exact b_everySays (k018_keep.ck.mpr hI.c) (k018_keep.mk.mpr hm) (by rw [k018_keep.gn (a := 57) rfl]; exact hp) hn)
theorem A_stepFor {S : kSt} (hI : Inv S) (a1 : Int32) (a2 : Int32) : Agree (f_m10_stepFor a1 a2) (f_m11_stepFor a1 a2) S := ag_stepFor hI a1 a2 (fun h h2 => by
  obtain ⟨hm, p, hp, rfl⟩ := pB_ok hI h
  obtain ⟨n, hn, rfl⟩ := uB_ok (N := 60) (by omega) h2
  exact b_stepFor (k018_keep.ck.mpr hI.c) (k018_keep.mk.mpr hm) (by rw [k018_keep.gn (a := 57) rfl]; exact hp) hn)
theorem A_saysLate {S : kSt} (hI : Inv S) (a1 : Int32) (a2 : Int32) : Agree (f_m10_saysLate a1 a2) (f_m11_saysLate a1 a2) S := ag_saysLate hI a1 a2 (fun h h2 => by
  obtain ⟨hm, p, hp, rfl⟩ := pB_ok hI h
  obtain ⟨n, hn, rfl⟩ := uB_ok (N := 2000000000) (by omega) h2
  exact b_saysLate (k018_keep.ck.mpr hI.c) (k018_keep.mk.mpr hm) (by rw [k018_keep.gn (a := 57) rfl]; exact hp) hn)
theorem A_verdictOdds {S : kSt} (hI : Inv S) (a1 : Int32) (a2 : Int32) (a3 : Bool) : Agree (f_m10_verdictOdds a1 a2 a3) (f_m11_verdictOdds a1 a2 a3) S := ag_verdictOdds hI a1 a2 a3 (fun h h2 => by
  obtain ⟨hm, p, hp, rfl⟩ := pB_ok hI h
  obtain ⟨n, hn, rfl⟩ := uB_ok (N := 4) (by omega) h2
  exact b_verdictOdds (k018_keep.ck.mpr hI.c) (k018_keep.mk.mpr hm) a3 (by rw [k018_keep.gn (a := 57) rfl]; exact hp) hn)
theorem A_mean {S : kSt} (hI : Inv S) (a1 : Int32) (a2 : Int32) (a3 : Bool) : Agree (f_m10_mean a1 a2 a3) (f_m11_mean a1 a2 a3) S := ag_mean hI a1 a2 a3 (fun h h2 => by
  obtain ⟨hm, p, hp, rfl⟩ := pB_ok hI h
  obtain ⟨n, hn, rfl⟩ := uB_ok (N := 5) (by omega) h2
  exact b_mean (k018_keep.ck.mpr hI.c) (k018_keep.mk.mpr hm) a3 (by rw [k018_keep.gn (a := 57) rfl]; exact hp) hn)
theorem A_alikeIn {S : kSt} (hI : Inv S) (a1 : Int32) (a2 : Int32) : Agree (f_m10_alikeIn a1 a2) (f_m11_alikeIn a1 a2) S := ag_alikeIn hI a1 a2 (fun h _ => by
  obtain ⟨hm, p, q, hp, hq, -, rfl, rfl⟩ := ppB_ok hI h
  exact b_alikeIn (k018_keep.ck.mpr hI.c) (k018_keep.mk.mpr hm) (by rw [k018_keep.gn (a := 57) rfl]; exact hp) (by rw [k018_keep.gn (a := 57) rfl]; exact hq))
theorem A_overtakes {S : kSt} (hI : Inv S) (a1 : Int32) (a2 : Int32) : Agree (f_m10_overtakes a1 a2) (f_m11_overtakes a1 a2) S := ag_overtakes hI a1 a2 (fun h _ => by
  obtain ⟨hm, p, q, hp, hq, -, rfl, rfl⟩ := ppB_ok hI h
  exact b_overtakes (k018_keep.ck.mpr hI.c) (k018_keep.mk.mpr hm) (by rw [k018_keep.gn (a := 57) rfl]; exact hp) (by rw [k018_keep.gn (a := 57) rfl]; exact hq))
theorem A_owes {S : kSt} (hI : Inv S) (a1 : Int32) (a2 : Int32) : Agree (f_m10_owes a1 a2) (f_m11_owes a1 a2) S := ag_owes hI a1 a2 (fun h _ => by
  obtain ⟨hm, p, q, hp, hq, -, rfl, rfl⟩ := ppB_ok hI h
  exact b_owes (k018_keep.ck.mpr hI.c) (k018_keep.mk.mpr hm) (by rw [k018_keep.gn (a := 57) rfl]; exact hp) (by rw [k018_keep.gn (a := 57) rfl]; exact hq))
theorem A_loudest {S : kSt} (hI : Inv S) (a1 : Int32) : Agree (f_m10_loudest a1) (f_m11_loudest a1) S := ag_loudest hI a1 (fun h h2 => by
  have hm := hB_ok hI h
  obtain ⟨n, hn, rfl⟩ := uB_ok (N := 60) (by omega) h2
  exact b_loudest (k018_keep.ck.mpr hI.c) (k018_keep.mk.mpr hm) hn)
theorem A_widest {S : kSt} (hI : Inv S) (a1 : Int32) : Agree (f_m10_widest a1) (f_m11_widest a1) S := ag_widest hI a1 (fun h h2 => by
  have hm := hB_ok hI h
  obtain ⟨n, hn, rfl⟩ := uB_ok (N := 60) (by omega) h2
  exact b_widest (k018_keep.ck.mpr hI.c) (k018_keep.mk.mpr hm) hn)
theorem A_sumAll {S : kSt} (hI : Inv S) (a1 : Int32) : Agree (f_m10_sumAll a1) (f_m11_sumAll a1) S := ag_sumAll hI a1 (fun h h2 => by
  have hm := hB_ok hI h
  obtain ⟨n, hn, rfl⟩ := uB_ok (N := 60) (by omega) h2
  exact b_sumAll (k018_keep.ck.mpr hI.c) (k018_keep.mk.mpr hm) hn)
theorem A_masters {S : kSt} (hI : Inv S) (a1 : Int32) : Agree (f_m10_masters a1) (f_m11_masters a1) S := ag_masters hI a1 (fun h h2 => by
  have hm := hB_ok hI h
  obtain ⟨n, hn, rfl⟩ := uB_ok (N := 60) (by omega) h2
  exact b_masters (k018_keep.ck.mpr hI.c) (k018_keep.mk.mpr hm) hn)
theorem A_creditor {S : kSt} (hI : Inv S)  : Agree (f_m10_creditor ) (f_m11_creditor ) S := ag_creditor hI (fun h _ => by
  have hm := hB_ok hI h
  exact b_creditor (k018_keep.ck.mpr hI.c) (k018_keep.mk.mpr hm))
theorem A_due {S : kSt} (hI : Inv S)  : Agree (f_m10_due ) (f_m11_due ) S := ag_due hI (fun h _ => by
  have hm := hB_ok hI h
  exact b_due (k018_keep.ck.mpr hI.c) (k018_keep.mk.mpr hm))
theorem A_judge {S : kSt} (hI : Inv S)  : Agree (f_m10_judge ) (f_m11_judge ) S := ag_judge hI (fun h _ => by
  have hm := hB_ok hI h
  exact b_judge (k018_keep.ck.mpr hI.c) (k018_keep.mk.mpr hm))
theorem A_payments {S : kSt} (hI : Inv S)  : Agree (f_m10_payments ) (f_m11_payments ) S := ag_payments hI (fun h _ => by
  have hm := hB_ok hI h
  exact b_payments (k018_keep.ck.mpr hI.c) (k018_keep.mk.mpr hm))
theorem A_rests {S : kSt} (hI : Inv S) (a1 : Int32) : Agree (f_m10_rests a1) (f_m11_rests a1) S := ag_rests hI a1 (fun _ h2 => by
  obtain ⟨n, hn, rfl⟩ := uB_ok (N := 9) (by omega) h2
  exact b_rests hn)
theorem A_rest {S : kSt} (hI : Inv S) (a1 : Int32) : Agree (f_m10_rest a1) (f_m11_rest a1) S := ag_rest hI a1 (fun _ h2 => by
  obtain ⟨n, hn, rfl⟩ := uB_ok (N := 9) (by omega) h2
  exact b_rest hn)
theorem A_talks {S : kSt} (hI : Inv S) (a1 : Int32) (a2 : Bool) (a3 : Bool) (a4 : Bool) : Agree (f_m10_talks a1 a2 a3 a4) (f_m11_talks a1 a2 a3 a4) S := ag_talks hI a1 a2 a3 a4 (fun _ _ => b_talks a1 a2 a3 a4)
theorem A_looks {S : kSt} (hI : Inv S) (a1 : Int32) (a2 : Int32) (a3 : Int32) : Agree (f_m10_looks a1 a2 a3) (f_m11_looks a1 a2 a3) S := ag_looks hI a1 a2 a3 (fun h h2 => by
  obtain ⟨hm, p, hp, rfl⟩ := pB_ok hI h
  rw [Bool.and_eq_true] at h2
  obtain ⟨s, hs, rfl⟩ := uB_ok (N := 65536) (by omega) h2.1
  obtain ⟨n, hn, rfl⟩ := uB_ok (N := 200) (by omega) h2.2
  exact b_looks (k018_keep.ck.mpr hI.c) (k018_keep.mk.mpr hm) (by rw [k018_keep.gn (a := 57) rfl]; exact hp) hs hn)
theorem A_verdict {S : kSt} (hI : Inv S) (a1 : Int32) (a2 : Int32) : Agree (f_m10_verdict a1 a2) (f_m11_verdict a1 a2) S := ag_verdict hI a1 a2 (fun h h2 => by
  have hm := hB_ok hI h
  rw [Bool.and_eq_true] at h2
  obtain ⟨s, hs, rfl⟩ := uB_ok (N := 65536) (by omega) h2.1
  obtain ⟨n, hn, rfl⟩ := uB_ok (N := 200) (by omega) h2.2
  exact b_verdict (k018_keep.ck.mpr hI.c) (k018_keep.mk.mpr hm) hs hn)
theorem A_odds {S : kSt} (hI : Inv S) (a1 : Int32) (a2 : Int32) (a3 : Int32) (a4 : Bool) : Agree (f_m10_odds a1 a2 a3 a4) (f_m11_odds a1 a2 a3 a4) S := ag_odds hI a1 a2 a3 a4 (fun h h2 => by
  obtain ⟨hm, p, hp, rfl⟩ := pB_ok hI h
  rw [Bool.and_eq_true] at h2
  obtain ⟨s, hs, rfl⟩ := uB_ok (N := 5) (by omega) h2.1
  obtain ⟨n, hn, rfl⟩ := uB_ok (N := 99) (by omega) h2.2
  exact b_odds (k018_keep.ck.mpr hI.c) (k018_keep.mk.mpr hm) a4 (by rw [k018_keep.gn (a := 57) rfl]; exact hp) hs hn)
theorem A_drawn {S : kSt} (hI : Inv S) (a1 : Int32) (a2 : Int32) (a3 : Int32) : Agree (f_m10_drawn a1 a2 a3) (f_m11_drawn a1 a2 a3) S := ag_drawn hI a1 a2 a3 (fun h h2 => by
  obtain ⟨hm, p, hp, rfl⟩ := pB_ok hI h
  rw [Bool.and_eq_true] at h2
  obtain ⟨s, hs, rfl⟩ := uB_ok (N := 65536) (by omega) h2.1
  obtain ⟨n, hn, rfl⟩ := uB_ok (N := 60) (by omega) h2.2
  exact b_drawn (k018_keep.ck.mpr hI.c) (k018_keep.mk.mpr hm) (by rw [k018_keep.gn (a := 57) rfl]; exact hp) hs hn)
theorem A_pair {S : kSt} (hI : Inv S) (a1 : Int32) (a2 : Int32) : Agree (f_m10_pair a1 a2) (f_m11_pair a1 a2) S := ag_pair hI a1 a2 (fun h _ => by
  rw [Bool.and_eq_true] at h
  obtain ⟨hm, p, hp, rfl⟩ := pB_ok hI h.1
  obtain ⟨n, hn, rfl⟩ := uB_ok (N := 5) (by omega) h.2
  exact b_pair (k018_keep.ck.mpr hI.c) (k018_keep.mk.mpr hm) (by rw [k018_keep.gn (a := 57) rfl]; exact hp) hn)
theorem A_feed {S : kSt} (hI : Inv S) (a1 : Int32) (a2 : Int32) (a3 : Int32) (a4 : Int32) (a5 : Int32) : Agree (f_m10_feed a1 a2 a3 a4 a5) (f_m11_feed a1 a2 a3 a4 a5) S := ag_feed hI a1 a2 a3 a4 a5
theorem A_pier {S : kSt} (hI : Inv S) (a1 : Int32) : Agree (f_m10_pier a1) (f_m11_pier a1) S := ag_pier hI a1
theorem A_fault {S : kSt} (hI : Inv S)  : Agree (f_m10_fault ) (f_m11_fault ) S := ag_fault hI 
theorem A_where {S : kSt} (hI : Inv S)  : Agree (f_m10_where ) (f_m11_where ) S := ag_where hI 
theorem A_fits {S : kSt} (hI : Inv S)  : Agree (f_m10_fits ) (f_m11_fits ) S := ag_fits hI 
theorem A_fitAt {S : kSt} (hI : Inv S) (a1 : Int32) : Agree (f_m10_fitAt a1) (f_m11_fitAt a1) S := ag_fitAt hI a1
theorem A_could {S : kSt} (hI : Inv S)  : Agree (f_m10_could ) (f_m11_could ) S := ag_could hI 
theorem A_surely {S : kSt} (hI : Inv S)  : Agree (f_m10_surely ) (f_m11_surely ) S := ag_surely hI 
theorem A_ask {S : kSt} (hI : Inv S)  : Agree (f_m10_ask ) (f_m11_ask ) S := ag_ask hI 
theorem A_askLeaves {S : kSt} (hI : Inv S)  : Agree (f_m10_askLeaves ) (f_m11_askLeaves ) S := ag_askLeaves hI 
theorem A_ringAt {S : kSt} (hI : Inv S) (a1 : Int32) (a2 : Int32) : Agree (f_m10_ringAt a1 a2) (f_m11_ringAt a1 a2) S := ag_ringAt hI a1 a2
theorem A_season {S : kSt} (hI : Inv S)  : Agree (f_m10_season ) (f_m11_season ) S := ag_sea hI 
theorem A_change {S : kSt} (hI : Inv S) (a1 : Int32) : Agree (f_m10_change a1) (f_m11_change a1) S := ag_chg hI a1
theorem A_step {S : kSt} (hI : Inv S) (a1 : Int32) (a2 : Int32) : Agree (f_m10_step a1 a2) (f_m11_step a1 a2) S := ag_stp hI a1 a2
theorem A_pay {S : kSt} (hI : Inv S) (a1 : Int32) (a2 : Int32) (a3 : Int32) : Agree (f_m10_pay a1 a2 a3) (f_m11_pay a1 a2 a3) S := ag_pay hI a1 a2 a3
theorem A_undo {S : kSt} (hI : Inv S)  : Agree (f_m10_undo ) (f_m11_undo ) S := ag_undo hI 
theorem A_image {S : kSt} (hI : Inv S)  : Agree (f_m10_image ) (f_m11_image ) S := ag_img hI 
theorem A_back {S : kSt} (hI : Inv S) (a1 : Int32) : Agree (f_m10_back a1) (f_m11_back a1) S := ag_back hI a1
theorem A_size {S : kSt} (hI : Inv S) (a1 : Int32) : Agree (f_m10_size a1) (f_m11_size a1) S := ag_size hI a1
theorem A_trouble {S : kSt} (hI : Inv S)  : Agree (f_m10_trouble ) (f_m11_trouble ) S := ag_trouble hI 
