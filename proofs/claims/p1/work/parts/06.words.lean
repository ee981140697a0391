/-! The words that every method's contract carries, and what the tables say of each instruction. -/
def zgood (w : Cond) : Bool := goodWord w || (w.onTables && w.keepsFace)
theorem zword {args a' : Array Value} {s U : State} (hW : s.WarmedH U.vm) {w : Cond} (hg : zgood w = true) (h : w.before args s = true) : w.before a' U = true := by
  unfold zgood at hg
  rw [Bool.or_eq_true] at hg
  rcases hg with hg | hg
  · exact word_at hW (good_of_word hg) h
  · rw [Bool.and_eq_true] at hg
    have h1 : w.before args (s.setVm U.vm) = true := Cond.before_shiftedFace (State.Shifted.of_warmed hW) w hg.2 h
    have h2 := Cond.onTables_vm (A := args) (A' := a') (U := s) (U' := U) U.vm w hg.1
    rw [h2] at h1
    exact h1
def zWS : List Cond := lw_tbl.filter zgood
def zhas (w : Cond) : Bool := decide (w ∈ lw_tbl) && zgood w
theorem zhas_mem {w : Cond} (h : zhas w = true) : w ∈ zWS := by
  unfold zhas at h
  rw [Bool.and_eq_true, decide_eq_true_eq] at h
  exact List.mem_filter.mpr ⟨h.1, h.2⟩
-- the word at a place
def zhat (i : Nat) (w : Cond) : Bool := decide (lw_tbl[i]? = some w) && zgood w
theorem zhat_mem {i : Nat} {w : Cond} (h : zhat i w = true) : w ∈ zWS := by
  unfold zhat at h
  rw [Bool.and_eq_true, decide_eq_true_eq] at h
  exact List.mem_filter.mpr ⟨List.mem_of_getElem? h.1, h.2⟩
theorem zWS_good {w : Cond} (h : w ∈ zWS) : zgood w = true := (List.mem_filter.mp h).2
-- the classes' fields
def zcchk : Bool := (List.range 8).all fun c => match zcl[c]? with
  | some r => (List.range r.2.2).all fun k => zhat ((zclX.getD c []).getD k 0) (u_lay r.1 r.2.1 k)
  | none => false
theorem zcchk_ok : zcchk = true := by decide +kernel
theorem zcl_in {c : Nat} {r : vw_C} (h : zcl[c]? = some r) : ∀ w ∈ u_ws r.1 r.2.1 r.2.2, w ∈ zWS := by
  intro w hw
  have hc : c < 8 := (List.getElem?_eq_some_iff.mp h).1
  have h1 := List.all_eq_true.mp zcchk_ok c (List.mem_range.mpr hc)
  rw [h] at h1
  obtain ⟨k, hk, rfl⟩ := List.mem_map.mp hw
  exact zhat_mem (List.all_eq_true.mp h1 k hk)
theorem zlook_mem {α : Type} : ∀ {l : List (Nat × α)} {k : Nat} {v : α}, zlook l k = some v → (k, v) ∈ l
  | [], _, _, h => by cases h
  | q :: r, k, v, h => by
    unfold zlook at h
    cases hb : Nat.beq q.1 k with
    | true =>
      rw [hb] at h
      have e1 := Nat.eq_of_beq_eq_true hb
      have e2 : q.2 = v := Option.some.inj h
      rw [← e1, ← e2]
      exact List.mem_cons_self
    | false =>
      rw [hb] at h
      exact List.mem_cons_of_mem _ (zlook_mem h)
def zfchk : Bool := (List.range 8).all fun own => (zfldL.getD own []).all fun q => match zcl[q.2.1]? with
  | some r => Nat.blt q.2.2 r.2.2 && decide ((r.2.1 q.2.2).1 = r.1) && zhat ((zlook (zfldX.getD own []) q.1).getD 0) (.fieldLink (zRn own) q.1 r.1 (r.2.1 q.2.2).2.1 (r.2.1 q.2.2).2.2.1)
  | none => false
theorem zfchk_ok : zfchk = true := by decide +kernel
theorem zfld_ok {own n c f : Nat} (ho : own < 8) (h : zfld own n = some (c, f)) : ∃ r, zcl[c]? = some r ∧ f < r.2.2 ∧ (r.2.1 f).1 = r.1 ∧ Cond.fieldLink (zRn own) n r.1 (r.2.1 f).2.1 (r.2.1 f).2.2.1 ∈ zWS := by
  have h1 := List.all_eq_true.mp (List.all_eq_true.mp zfchk_ok own (List.mem_range.mpr ho)) _ (zlook_mem h)
  dsimp only at h1
  cases hc : zcl[c]? with
  | none => rw [hc] at h1; cases h1
  | some r =>
    rw [hc] at h1
    simp only [Bool.and_eq_true, decide_eq_true_eq] at h1
    exact ⟨r, rfl, Nat.le_of_ble_eq_true h1.1.1, h1.1.2, zhat_mem h1.2⟩
set_option maxRecDepth 20000 in
theorem zcw0 : lw_tbl[557]? = some (.code (zyy 0) (zbb 0) (zlocs 0) (zrt 0)) := rfl
set_option maxRecDepth 20000 in
theorem zcw1 : lw_tbl[650]? = some (.code (zyy 1) (zbb 1) (zlocs 1) (zrt 1)) := rfl
set_option maxRecDepth 20000 in
theorem zcw2 : lw_tbl[689]? = some (.code (zyy 2) (zbb 2) (zlocs 2) (zrt 2)) := rfl
set_option maxRecDepth 20000 in
theorem zcw3 : lw_tbl[700]? = some (.code (zyy 3) (zbb 3) (zlocs 3) (zrt 3)) := rfl
set_option maxRecDepth 20000 in
theorem zcw4 : lw_tbl[707]? = some (.code (zyy 4) (zbb 4) (zlocs 4) (zrt 4)) := rfl
set_option maxRecDepth 20000 in
theorem zcw5 : lw_tbl[714]? = some (.code (zyy 5) (zbb 5) (zlocs 5) (zrt 5)) := rfl
set_option maxRecDepth 20000 in
theorem zcw6 : lw_tbl[229]? = some (.code (zyy 6) (zbb 6) (zlocs 6) (zrt 6)) := rfl
set_option maxRecDepth 20000 in
theorem zcw7 : lw_tbl[452]? = some (.code (zyy 7) (zbb 7) (zlocs 7) (zrt 7)) := rfl
set_option maxRecDepth 20000 in
theorem zcw8 : lw_tbl[460]? = some (.code (zyy 8) (zbb 8) (zlocs 8) (zrt 8)) := rfl
set_option maxRecDepth 20000 in
theorem zcw9 : lw_tbl[464]? = some (.code (zyy 9) (zbb 9) (zlocs 9) (zrt 9)) := rfl
set_option maxRecDepth 20000 in
theorem zcw10 : lw_tbl[468]? = some (.code (zyy 10) (zbb 10) (zlocs 10) (zrt 10)) := rfl
set_option maxRecDepth 20000 in
theorem zcw11 : lw_tbl[518]? = some (.code (zyy 11) (zbb 11) (zlocs 11) (zrt 11)) := rfl
set_option maxRecDepth 20000 in
theorem zcw12 : lw_tbl[522]? = some (.code (zyy 12) (zbb 12) (zlocs 12) (zrt 12)) := rfl
set_option maxRecDepth 20000 in
theorem zcw13 : lw_tbl[534]? = some (.code (zyy 13) (zbb 13) (zlocs 13) (zrt 13)) := rfl
set_option maxRecDepth 20000 in
theorem zcw14 : lw_tbl[538]? = some (.code (zyy 14) (zbb 14) (zlocs 14) (zrt 14)) := rfl
set_option maxRecDepth 20000 in
theorem zcw15 : lw_tbl[542]? = some (.code (zyy 15) (zbb 15) (zlocs 15) (zrt 15)) := rfl
set_option maxRecDepth 20000 in
theorem zcw16 : lw_tbl[545]? = some (.code (zyy 16) (zbb 16) (zlocs 16) (zrt 16)) := rfl
set_option maxRecDepth 20000 in
theorem zcw17 : lw_tbl[548]? = some (.code (zyy 17) (zbb 17) (zlocs 17) (zrt 17)) := rfl
set_option maxRecDepth 20000 in
theorem zcw18 : lw_tbl[456]? = some (.code (zyy 18) (zbb 18) (zlocs 18) (zrt 18)) := rfl
set_option maxRecDepth 20000 in
theorem zcw19 : lw_tbl[560]? = some (.code (zyy 19) (zbb 19) (zlocs 19) (zrt 19)) := rfl
set_option maxRecDepth 20000 in
theorem zcw20 : lw_tbl[653]? = some (.code (zyy 20) (zbb 20) (zlocs 20) (zrt 20)) := rfl
set_option maxRecDepth 20000 in
theorem zcw21 : lw_tbl[657]? = some (.code (zyy 21) (zbb 21) (zlocs 21) (zrt 21)) := rfl
set_option maxRecDepth 20000 in
theorem zcw22 : lw_tbl[642]? = some (.code (zyy 22) (zbb 22) (zlocs 22) (zrt 22)) := rfl
set_option maxRecDepth 20000 in
theorem zcw23 : lw_tbl[480]? = some (.code (zyy 23) (zbb 23) (zlocs 23) (zrt 23)) := rfl
set_option maxRecDepth 20000 in
theorem zcw24 : lw_tbl[237]? = some (.code (zyy 24) (zbb 24) (zlocs 24) (zrt 24)) := rfl
set_option maxRecDepth 20000 in
theorem zcw25 : lw_tbl[249]? = some (.code (zyy 25) (zbb 25) (zlocs 25) (zrt 25)) := rfl
set_option maxRecDepth 20000 in
theorem zcw26 : lw_tbl[444]? = some (.code (zyy 26) (zbb 26) (zlocs 26) (zrt 26)) := rfl
set_option maxRecDepth 20000 in
theorem zcw27 : lw_tbl[440]? = some (.code (zyy 27) (zbb 27) (zlocs 27) (zrt 27)) := rfl
set_option maxRecDepth 20000 in
theorem zcw28 : lw_tbl[253]? = some (.code (zyy 28) (zbb 28) (zlocs 28) (zrt 28)) := rfl
set_option maxRecDepth 20000 in
theorem zcw29 : lw_tbl[304]? = some (.code (zyy 29) (zbb 29) (zlocs 29) (zrt 29)) := rfl
set_option maxRecDepth 20000 in
theorem zcw30 : lw_tbl[308]? = some (.code (zyy 30) (zbb 30) (zlocs 30) (zrt 30)) := rfl
set_option maxRecDepth 20000 in
theorem zcw31 : lw_tbl[432]? = some (.code (zyy 31) (zbb 31) (zlocs 31) (zrt 31)) := rfl
set_option maxRecDepth 20000 in
theorem zcw32 : lw_tbl[404]? = some (.code (zyy 32) (zbb 32) (zlocs 32) (zrt 32)) := rfl
set_option maxRecDepth 20000 in
theorem zcw33 : lw_tbl[257]? = some (.code (zyy 33) (zbb 33) (zlocs 33) (zrt 33)) := rfl
set_option maxRecDepth 20000 in
theorem zcw34 : lw_tbl[320]? = some (.code (zyy 34) (zbb 34) (zlocs 34) (zrt 34)) := rfl
set_option maxRecDepth 20000 in
theorem zcw35 : lw_tbl[281]? = some (.code (zyy 35) (zbb 35) (zlocs 35) (zrt 35)) := rfl
set_option maxRecDepth 20000 in
theorem zcw36 : lw_tbl[269]? = some (.code (zyy 36) (zbb 36) (zlocs 36) (zrt 36)) := rfl
set_option maxRecDepth 20000 in
theorem zcw37 : lw_tbl[488]? = some (.code (zyy 37) (zbb 37) (zlocs 37) (zrt 37)) := rfl
set_option maxRecDepth 20000 in
theorem zcw38 : lw_tbl[504]? = some (.code (zyy 38) (zbb 38) (zlocs 38) (zrt 38)) := rfl
set_option maxRecDepth 20000 in
theorem zcw39 : lw_tbl[324]? = some (.code (zyy 39) (zbb 39) (zlocs 39) (zrt 39)) := rfl
set_option maxRecDepth 20000 in
theorem zcw40 : lw_tbl[316]? = some (.code (zyy 40) (zbb 40) (zlocs 40) (zrt 40)) := rfl
set_option maxRecDepth 20000 in
theorem zcw41 : lw_tbl[273]? = some (.code (zyy 41) (zbb 41) (zlocs 41) (zrt 41)) := rfl
set_option maxRecDepth 20000 in
theorem zcw42 : lw_tbl[472]? = some (.code (zyy 42) (zbb 42) (zlocs 42) (zrt 42)) := rfl
set_option maxRecDepth 20000 in
theorem zcw43 : lw_tbl[400]? = some (.code (zyy 43) (zbb 43) (zlocs 43) (zrt 43)) := rfl
set_option maxRecDepth 20000 in
theorem zcw44 : lw_tbl[428]? = some (.code (zyy 44) (zbb 44) (zlocs 44) (zrt 44)) := rfl
set_option maxRecDepth 20000 in
theorem zcw45 : lw_tbl[436]? = some (.code (zyy 45) (zbb 45) (zlocs 45) (zrt 45)) := rfl
set_option maxRecDepth 20000 in
theorem zcw46 : lw_tbl[245]? = some (.code (zyy 46) (zbb 46) (zlocs 46) (zrt 46)) := rfl
set_option maxRecDepth 20000 in
theorem zcw47 : lw_tbl[241]? = some (.code (zyy 47) (zbb 47) (zlocs 47) (zrt 47)) := rfl
set_option maxRecDepth 20000 in
theorem zcw48 : lw_tbl[277]? = some (.code (zyy 48) (zbb 48) (zlocs 48) (zrt 48)) := rfl
set_option maxRecDepth 20000 in
theorem zcw49 : lw_tbl[265]? = some (.code (zyy 49) (zbb 49) (zlocs 49) (zrt 49)) := rfl
set_option maxRecDepth 20000 in
theorem zcw50 : lw_tbl[261]? = some (.code (zyy 50) (zbb 50) (zlocs 50) (zrt 50)) := rfl
set_option maxRecDepth 20000 in
theorem zcw51 : lw_tbl[288]? = some (.code (zyy 51) (zbb 51) (zlocs 51) (zrt 51)) := rfl
set_option maxRecDepth 20000 in
theorem zcw52 : lw_tbl[292]? = some (.code (zyy 52) (zbb 52) (zlocs 52) (zrt 52)) := rfl
set_option maxRecDepth 20000 in
theorem zcw53 : lw_tbl[476]? = some (.code (zyy 53) (zbb 53) (zlocs 53) (zrt 53)) := rfl
set_option maxRecDepth 20000 in
theorem zcw54 : lw_tbl[661]? = some (.code (zyy 54) (zbb 54) (zlocs 54) (zrt 54)) := rfl
set_option maxRecDepth 20000 in
theorem zcw55 : lw_tbl[693]? = some (.code (zyy 55) (zbb 55) (zlocs 55) (zrt 55)) := rfl
set_option maxRecDepth 20000 in
theorem zcw56 : lw_tbl[665]? = some (.code (zyy 56) (zbb 56) (zlocs 56) (zrt 56)) := rfl
set_option maxRecDepth 20000 in
theorem zcw57 : lw_tbl[484]? = some (.code (zyy 57) (zbb 57) (zlocs 57) (zrt 57)) := rfl
set_option maxRecDepth 20000 in
theorem zcw58 : lw_tbl[508]? = some (.code (zyy 58) (zbb 58) (zlocs 58) (zrt 58)) := rfl
set_option maxRecDepth 20000 in
theorem zcw59 : lw_tbl[448]? = some (.code (zyy 59) (zbb 59) (zlocs 59) (zrt 59)) := rfl
set_option maxRecDepth 20000 in
theorem zcw60 : lw_tbl[233]? = some (.code (zyy 60) (zbb 60) (zlocs 60) (zrt 60)) := rfl
set_option maxRecDepth 20000 in
theorem zcw61 : lw_tbl[513]? = some (.code (zyy 61) (zbb 61) (zlocs 61) (zrt 61)) := rfl
set_option maxRecDepth 20000 in
theorem zcw62 : lw_tbl[492]? = some (.code (zyy 62) (zbb 62) (zlocs 62) (zrt 62)) := rfl
set_option maxRecDepth 20000 in
theorem zcw63 : lw_tbl[500]? = some (.code (zyy 63) (zbb 63) (zlocs 63) (zrt 63)) := rfl
set_option maxRecDepth 20000 in
theorem zcw64 : lw_tbl[496]? = some (.code (zyy 64) (zbb 64) (zlocs 64) (zrt 64)) := rfl
set_option maxRecDepth 20000 in
theorem zcw65 : lw_tbl[420]? = some (.code (zyy 65) (zbb 65) (zlocs 65) (zrt 65)) := rfl
set_option maxRecDepth 20000 in
theorem zcw66 : lw_tbl[526]? = some (.code (zyy 66) (zbb 66) (zlocs 66) (zrt 66)) := rfl
set_option maxRecDepth 20000 in
theorem zcw67 : lw_tbl[530]? = some (.code (zyy 67) (zbb 67) (zlocs 67) (zrt 67)) := rfl
set_option maxRecDepth 20000 in
theorem zcw68 : lw_tbl[300]? = some (.code (zyy 68) (zbb 68) (zlocs 68) (zrt 68)) := rfl
set_option maxRecDepth 20000 in
theorem zcw69 : lw_tbl[296]? = some (.code (zyy 69) (zbb 69) (zlocs 69) (zrt 69)) := rfl
set_option maxRecDepth 20000 in
theorem zcw70 : lw_tbl[312]? = some (.code (zyy 70) (zbb 70) (zlocs 70) (zrt 70)) := rfl
set_option maxRecDepth 20000 in
theorem zcw71 : lw_tbl[408]? = some (.code (zyy 71) (zbb 71) (zlocs 71) (zrt 71)) := rfl
set_option maxRecDepth 20000 in
theorem zcw72 : lw_tbl[415]? = some (.code (zyy 72) (zbb 72) (zlocs 72) (zrt 72)) := rfl
set_option maxRecDepth 20000 in
theorem zcw73 : lw_tbl[424]? = some (.code (zyy 73) (zbb 73) (zlocs 73) (zrt 73)) := rfl
set_option maxRecDepth 20000 in
theorem zcw74 : lw_tbl[411]? = some (.code (zyy 74) (zbb 74) (zlocs 74) (zrt 74)) := rfl
set_option maxRecDepth 20000 in
theorem zcw75 : lw_tbl[824]? = some (.code (zyy 75) (zbb 75) (zlocs 75) (zrt 75)) := rfl
set_option maxRecDepth 20000 in
theorem zcw76 : lw_tbl[839]? = some (.code (zyy 76) (zbb 76) (zlocs 76) (zrt 76)) := rfl
set_option maxRecDepth 20000 in
theorem zcw77 : lw_tbl[835]? = some (.code (zyy 77) (zbb 77) (zlocs 77) (zrt 77)) := rfl
set_option maxRecDepth 20000 in
theorem zcw78 : lw_tbl[891]? = some (.code (zyy 78) (zbb 78) (zlocs 78) (zrt 78)) := rfl
set_option maxRecDepth 20000 in
theorem zcw79 : lw_tbl[903]? = some (.code (zyy 79) (zbb 79) (zlocs 79) (zrt 79)) := rfl
set_option maxRecDepth 20000 in
theorem zcw80 : lw_tbl[907]? = some (.code (zyy 80) (zbb 80) (zlocs 80) (zrt 80)) := rfl
set_option maxRecDepth 20000 in
theorem zcw81 : lw_tbl[911]? = some (.code (zyy 81) (zbb 81) (zlocs 81) (zrt 81)) := rfl
set_option maxRecDepth 20000 in
theorem zcw82 : lw_tbl[919]? = some (.code (zyy 82) (zbb 82) (zlocs 82) (zrt 82)) := rfl
set_option maxRecDepth 20000 in
theorem zcw83 : lw_tbl[899]? = some (.code (zyy 83) (zbb 83) (zlocs 83) (zrt 83)) := rfl
set_option maxRecDepth 20000 in
theorem zcw84 : lw_tbl[895]? = some (.code (zyy 84) (zbb 84) (zlocs 84) (zrt 84)) := rfl
set_option maxRecDepth 20000 in
theorem zcw85 : lw_tbl[887]? = some (.code (zyy 85) (zbb 85) (zlocs 85) (zrt 85)) := rfl
set_option maxRecDepth 20000 in
theorem zcw86 : lw_tbl[883]? = some (.code (zyy 86) (zbb 86) (zlocs 86) (zrt 86)) := rfl
set_option maxRecDepth 20000 in
theorem zcw87 : lw_tbl[927]? = some (.code (zyy 87) (zbb 87) (zlocs 87) (zrt 87)) := rfl
set_option maxRecDepth 20000 in
theorem zcw88 : lw_tbl[935]? = some (.code (zyy 88) (zbb 88) (zlocs 88) (zrt 88)) := rfl
set_option maxRecDepth 20000 in
theorem zcw89 : lw_tbl[931]? = some (.code (zyy 89) (zbb 89) (zlocs 89) (zrt 89)) := rfl
set_option maxRecDepth 20000 in
theorem zcw90 : lw_tbl[939]? = some (.code (zyy 90) (zbb 90) (zlocs 90) (zrt 90)) := rfl
set_option maxRecDepth 20000 in
theorem zcw91 : lw_tbl[923]? = some (.code (zyy 91) (zbb 91) (zlocs 91) (zrt 91)) := rfl
set_option maxRecDepth 20000 in
theorem zcw92 : lw_tbl[915]? = some (.code (zyy 92) (zbb 92) (zlocs 92) (zrt 92)) := rfl
set_option maxRecDepth 20000 in
theorem zcw93 : lw_tbl[879]? = some (.code (zyy 93) (zbb 93) (zlocs 93) (zrt 93)) := rfl
set_option maxRecDepth 20000 in
theorem zcw94 : lw_tbl[943]? = some (.code (zyy 94) (zbb 94) (zlocs 94) (zrt 94)) := rfl
set_option maxRecDepth 20000 in
theorem zcw95 : lw_tbl[875]? = some (.code (zyy 95) (zbb 95) (zlocs 95) (zrt 95)) := rfl
set_option maxRecDepth 20000 in
theorem zcw96 : lw_tbl[832]? = some (.code (zyy 96) (zbb 96) (zlocs 96) (zrt 96)) := rfl
set_option maxRecDepth 20000 in
theorem zcw97 : lw_tbl[863]? = some (.code (zyy 97) (zbb 97) (zlocs 97) (zrt 97)) := rfl
set_option maxRecDepth 20000 in
theorem zcw98 : lw_tbl[859]? = some (.code (zyy 98) (zbb 98) (zlocs 98) (zrt 98)) := rfl
set_option maxRecDepth 20000 in
theorem zcw99 : lw_tbl[871]? = some (.code (zyy 99) (zbb 99) (zlocs 99) (zrt 99)) := rfl
set_option maxRecDepth 20000 in
theorem zcw100 : lw_tbl[867]? = some (.code (zyy 100) (zbb 100) (zlocs 100) (zrt 100)) := rfl
set_option maxRecDepth 20000 in
theorem zcw101 : lw_tbl[855]? = some (.code (zyy 101) (zbb 101) (zlocs 101) (zrt 101)) := rfl
set_option maxRecDepth 20000 in
theorem zcw102 : lw_tbl[851]? = some (.code (zyy 102) (zbb 102) (zlocs 102) (zrt 102)) := rfl
set_option maxRecDepth 20000 in
theorem zcw103 : lw_tbl[959]? = some (.code (zyy 103) (zbb 103) (zlocs 103) (zrt 103)) := rfl
set_option maxRecDepth 20000 in
theorem zcw104 : lw_tbl[828]? = some (.code (zyy 104) (zbb 104) (zlocs 104) (zrt 104)) := rfl
set_option maxRecDepth 20000 in
theorem zcw105 : lw_tbl[847]? = some (.code (zyy 105) (zbb 105) (zlocs 105) (zrt 105)) := rfl
set_option maxRecDepth 20000 in
theorem zcw106 : lw_tbl[843]? = some (.code (zyy 106) (zbb 106) (zlocs 106) (zrt 106)) := rfl
set_option maxRecDepth 20000 in
theorem zcw107 : lw_tbl[947]? = some (.code (zyy 107) (zbb 107) (zlocs 107) (zrt 107)) := rfl
set_option maxRecDepth 20000 in
theorem zcw108 : lw_tbl[951]? = some (.code (zyy 108) (zbb 108) (zlocs 108) (zrt 108)) := rfl
set_option maxRecDepth 20000 in
theorem zcw109 : lw_tbl[955]? = some (.code (zyy 109) (zbb 109) (zlocs 109) (zrt 109)) := rfl
set_option maxRecDepth 20000 in
theorem zcw110 : lw_tbl[963]? = some (.code (zyy 110) (zbb 110) (zlocs 110) (zrt 110)) := rfl
set_option maxRecDepth 20000 in
theorem zcw111 : lw_tbl[967]? = some (.code (zyy 111) (zbb 111) (zlocs 111) (zrt 111)) := rfl
set_option maxRecDepth 20000 in
theorem zcw112 : lw_tbl[975]? = some (.code (zyy 112) (zbb 112) (zlocs 112) (zrt 112)) := rfl
set_option maxRecDepth 20000 in
theorem zcw113 : lw_tbl[971]? = some (.code (zyy 113) (zbb 113) (zlocs 113) (zrt 113)) := rfl
set_option maxRecDepth 20000 in
theorem zcw114 : lw_tbl[979]? = some (.code (zyy 114) (zbb 114) (zlocs 114) (zrt 114)) := rfl
set_option maxRecDepth 20000 in
theorem zcw115 : lw_tbl[983]? = some (.code (zyy 115) (zbb 115) (zlocs 115) (zrt 115)) := rfl
set_option maxRecDepth 20000 in
theorem zcw116 : lw_tbl[987]? = some (.code (zyy 116) (zbb 116) (zlocs 116) (zrt 116)) := rfl
set_option maxRecDepth 20000 in
theorem zcw117 : lw_tbl[991]? = some (.code (zyy 117) (zbb 117) (zlocs 117) (zrt 117)) := rfl
set_option maxRecDepth 20000 in
theorem zcw118 : lw_tbl[995]? = some (.code (zyy 118) (zbb 118) (zlocs 118) (zrt 118)) := rfl
set_option maxRecDepth 20000 in
theorem zcw119 : lw_tbl[999]? = some (.code (zyy 119) (zbb 119) (zlocs 119) (zrt 119)) := rfl
set_option maxRecDepth 20000 in
theorem zcw120 : lw_tbl[1003]? = some (.code (zyy 120) (zbb 120) (zlocs 120) (zrt 120)) := rfl
set_option maxRecDepth 20000 in
theorem zcw121 : lw_tbl[1007]? = some (.code (zyy 121) (zbb 121) (zlocs 121) (zrt 121)) := rfl
set_option maxRecDepth 20000 in
theorem zcw122 : lw_tbl[1011]? = some (.code (zyy 122) (zbb 122) (zlocs 122) (zrt 122)) := rfl
theorem zcwk0 {j : Nat} (hj : j < 10) (h : 0 + j < 123) : ∃ i : Nat, lw_tbl[i]? = some (.code (zyy (0 + j)) (zbb (0 + j)) (zlocs (0 + j)) (zrt (0 + j))) := by
  match j, hj, h with
  | 0, _, _ => exact ⟨_, zcw0⟩
  | 1, _, _ => exact ⟨_, zcw1⟩
  | 2, _, _ => exact ⟨_, zcw2⟩
  | 3, _, _ => exact ⟨_, zcw3⟩
  | 4, _, _ => exact ⟨_, zcw4⟩
  | 5, _, _ => exact ⟨_, zcw5⟩
  | 6, _, _ => exact ⟨_, zcw6⟩
  | 7, _, _ => exact ⟨_, zcw7⟩
  | 8, _, _ => exact ⟨_, zcw8⟩
  | 9, _, _ => exact ⟨_, zcw9⟩
theorem zcwk1 {j : Nat} (hj : j < 10) (h : 10 + j < 123) : ∃ i : Nat, lw_tbl[i]? = some (.code (zyy (10 + j)) (zbb (10 + j)) (zlocs (10 + j)) (zrt (10 + j))) := by
  match j, hj, h with
  | 0, _, _ => exact ⟨_, zcw10⟩
  | 1, _, _ => exact ⟨_, zcw11⟩
  | 2, _, _ => exact ⟨_, zcw12⟩
  | 3, _, _ => exact ⟨_, zcw13⟩
  | 4, _, _ => exact ⟨_, zcw14⟩
  | 5, _, _ => exact ⟨_, zcw15⟩
  | 6, _, _ => exact ⟨_, zcw16⟩
  | 7, _, _ => exact ⟨_, zcw17⟩
  | 8, _, _ => exact ⟨_, zcw18⟩
  | 9, _, _ => exact ⟨_, zcw19⟩
theorem zcwk2 {j : Nat} (hj : j < 10) (h : 20 + j < 123) : ∃ i : Nat, lw_tbl[i]? = some (.code (zyy (20 + j)) (zbb (20 + j)) (zlocs (20 + j)) (zrt (20 + j))) := by
  match j, hj, h with
  | 0, _, _ => exact ⟨_, zcw20⟩
  | 1, _, _ => exact ⟨_, zcw21⟩
  | 2, _, _ => exact ⟨_, zcw22⟩
  | 3, _, _ => exact ⟨_, zcw23⟩
  | 4, _, _ => exact ⟨_, zcw24⟩
  | 5, _, _ => exact ⟨_, zcw25⟩
  | 6, _, _ => exact ⟨_, zcw26⟩
  | 7, _, _ => exact ⟨_, zcw27⟩
  | 8, _, _ => exact ⟨_, zcw28⟩
  | 9, _, _ => exact ⟨_, zcw29⟩
theorem zcwk3 {j : Nat} (hj : j < 10) (h : 30 + j < 123) : ∃ i : Nat, lw_tbl[i]? = some (.code (zyy (30 + j)) (zbb (30 + j)) (zlocs (30 + j)) (zrt (30 + j))) := by
  match j, hj, h with
  | 0, _, _ => exact ⟨_, zcw30⟩
  | 1, _, _ => exact ⟨_, zcw31⟩
  | 2, _, _ => exact ⟨_, zcw32⟩
  | 3, _, _ => exact ⟨_, zcw33⟩
  | 4, _, _ => exact ⟨_, zcw34⟩
  | 5, _, _ => exact ⟨_, zcw35⟩
  | 6, _, _ => exact ⟨_, zcw36⟩
  | 7, _, _ => exact ⟨_, zcw37⟩
  | 8, _, _ => exact ⟨_, zcw38⟩
  | 9, _, _ => exact ⟨_, zcw39⟩
theorem zcwk4 {j : Nat} (hj : j < 10) (h : 40 + j < 123) : ∃ i : Nat, lw_tbl[i]? = some (.code (zyy (40 + j)) (zbb (40 + j)) (zlocs (40 + j)) (zrt (40 + j))) := by
  match j, hj, h with
  | 0, _, _ => exact ⟨_, zcw40⟩
  | 1, _, _ => exact ⟨_, zcw41⟩
  | 2, _, _ => exact ⟨_, zcw42⟩
  | 3, _, _ => exact ⟨_, zcw43⟩
  | 4, _, _ => exact ⟨_, zcw44⟩
  | 5, _, _ => exact ⟨_, zcw45⟩
  | 6, _, _ => exact ⟨_, zcw46⟩
  | 7, _, _ => exact ⟨_, zcw47⟩
  | 8, _, _ => exact ⟨_, zcw48⟩
  | 9, _, _ => exact ⟨_, zcw49⟩
theorem zcwk5 {j : Nat} (hj : j < 10) (h : 50 + j < 123) : ∃ i : Nat, lw_tbl[i]? = some (.code (zyy (50 + j)) (zbb (50 + j)) (zlocs (50 + j)) (zrt (50 + j))) := by
  match j, hj, h with
  | 0, _, _ => exact ⟨_, zcw50⟩
  | 1, _, _ => exact ⟨_, zcw51⟩
  | 2, _, _ => exact ⟨_, zcw52⟩
  | 3, _, _ => exact ⟨_, zcw53⟩
  | 4, _, _ => exact ⟨_, zcw54⟩
  | 5, _, _ => exact ⟨_, zcw55⟩
  | 6, _, _ => exact ⟨_, zcw56⟩
  | 7, _, _ => exact ⟨_, zcw57⟩
  | 8, _, _ => exact ⟨_, zcw58⟩
  | 9, _, _ => exact ⟨_, zcw59⟩
theorem zcwk6 {j : Nat} (hj : j < 10) (h : 60 + j < 123) : ∃ i : Nat, lw_tbl[i]? = some (.code (zyy (60 + j)) (zbb (60 + j)) (zlocs (60 + j)) (zrt (60 + j))) := by
  match j, hj, h with
  | 0, _, _ => exact ⟨_, zcw60⟩
  | 1, _, _ => exact ⟨_, zcw61⟩
  | 2, _, _ => exact ⟨_, zcw62⟩
  | 3, _, _ => exact ⟨_, zcw63⟩
  | 4, _, _ => exact ⟨_, zcw64⟩
  | 5, _, _ => exact ⟨_, zcw65⟩
  | 6, _, _ => exact ⟨_, zcw66⟩
  | 7, _, _ => exact ⟨_, zcw67⟩
  | 8, _, _ => exact ⟨_, zcw68⟩
  | 9, _, _ => exact ⟨_, zcw69⟩
theorem zcwk7 {j : Nat} (hj : j < 10) (h : 70 + j < 123) : ∃ i : Nat, lw_tbl[i]? = some (.code (zyy (70 + j)) (zbb (70 + j)) (zlocs (70 + j)) (zrt (70 + j))) := by
  match j, hj, h with
  | 0, _, _ => exact ⟨_, zcw70⟩
  | 1, _, _ => exact ⟨_, zcw71⟩
  | 2, _, _ => exact ⟨_, zcw72⟩
  | 3, _, _ => exact ⟨_, zcw73⟩
  | 4, _, _ => exact ⟨_, zcw74⟩
  | 5, _, _ => exact ⟨_, zcw75⟩
  | 6, _, _ => exact ⟨_, zcw76⟩
  | 7, _, _ => exact ⟨_, zcw77⟩
  | 8, _, _ => exact ⟨_, zcw78⟩
  | 9, _, _ => exact ⟨_, zcw79⟩
theorem zcwk8 {j : Nat} (hj : j < 10) (h : 80 + j < 123) : ∃ i : Nat, lw_tbl[i]? = some (.code (zyy (80 + j)) (zbb (80 + j)) (zlocs (80 + j)) (zrt (80 + j))) := by
  match j, hj, h with
  | 0, _, _ => exact ⟨_, zcw80⟩
  | 1, _, _ => exact ⟨_, zcw81⟩
  | 2, _, _ => exact ⟨_, zcw82⟩
  | 3, _, _ => exact ⟨_, zcw83⟩
  | 4, _, _ => exact ⟨_, zcw84⟩
  | 5, _, _ => exact ⟨_, zcw85⟩
  | 6, _, _ => exact ⟨_, zcw86⟩
  | 7, _, _ => exact ⟨_, zcw87⟩
  | 8, _, _ => exact ⟨_, zcw88⟩
  | 9, _, _ => exact ⟨_, zcw89⟩
theorem zcwk9 {j : Nat} (hj : j < 10) (h : 90 + j < 123) : ∃ i : Nat, lw_tbl[i]? = some (.code (zyy (90 + j)) (zbb (90 + j)) (zlocs (90 + j)) (zrt (90 + j))) := by
  match j, hj, h with
  | 0, _, _ => exact ⟨_, zcw90⟩
  | 1, _, _ => exact ⟨_, zcw91⟩
  | 2, _, _ => exact ⟨_, zcw92⟩
  | 3, _, _ => exact ⟨_, zcw93⟩
  | 4, _, _ => exact ⟨_, zcw94⟩
  | 5, _, _ => exact ⟨_, zcw95⟩
  | 6, _, _ => exact ⟨_, zcw96⟩
  | 7, _, _ => exact ⟨_, zcw97⟩
  | 8, _, _ => exact ⟨_, zcw98⟩
  | 9, _, _ => exact ⟨_, zcw99⟩
theorem zcwk10 {j : Nat} (hj : j < 10) (h : 100 + j < 123) : ∃ i : Nat, lw_tbl[i]? = some (.code (zyy (100 + j)) (zbb (100 + j)) (zlocs (100 + j)) (zrt (100 + j))) := by
  match j, hj, h with
  | 0, _, _ => exact ⟨_, zcw100⟩
  | 1, _, _ => exact ⟨_, zcw101⟩
  | 2, _, _ => exact ⟨_, zcw102⟩
  | 3, _, _ => exact ⟨_, zcw103⟩
  | 4, _, _ => exact ⟨_, zcw104⟩
  | 5, _, _ => exact ⟨_, zcw105⟩
  | 6, _, _ => exact ⟨_, zcw106⟩
  | 7, _, _ => exact ⟨_, zcw107⟩
  | 8, _, _ => exact ⟨_, zcw108⟩
  | 9, _, _ => exact ⟨_, zcw109⟩
theorem zcwk11 {j : Nat} (hj : j < 10) (h : 110 + j < 123) : ∃ i : Nat, lw_tbl[i]? = some (.code (zyy (110 + j)) (zbb (110 + j)) (zlocs (110 + j)) (zrt (110 + j))) := by
  match j, hj, h with
  | 0, _, _ => exact ⟨_, zcw110⟩
  | 1, _, _ => exact ⟨_, zcw111⟩
  | 2, _, _ => exact ⟨_, zcw112⟩
  | 3, _, _ => exact ⟨_, zcw113⟩
  | 4, _, _ => exact ⟨_, zcw114⟩
  | 5, _, _ => exact ⟨_, zcw115⟩
  | 6, _, _ => exact ⟨_, zcw116⟩
  | 7, _, _ => exact ⟨_, zcw117⟩
  | 8, _, _ => exact ⟨_, zcw118⟩
  | 9, _, _ => exact ⟨_, zcw119⟩
theorem zcwk12 {j : Nat} (hj : j < 10) (h : 120 + j < 123) : ∃ i : Nat, lw_tbl[i]? = some (.code (zyy (120 + j)) (zbb (120 + j)) (zlocs (120 + j)) (zrt (120 + j))) := by
  match j, hj, h with
  | 0, _, _ => exact ⟨_, zcw120⟩
  | 1, _, _ => exact ⟨_, zcw121⟩
  | 2, _, _ => exact ⟨_, zcw122⟩
  | 3, _, h => omega
  | 4, _, h => omega
  | 5, _, h => omega
  | 6, _, h => omega
  | 7, _, h => omega
  | 8, _, h => omega
  | 9, _, h => omega
theorem zcw_ok {m : Nat} (h : m < 123) : Cond.code (zyy m) (zbb m) (zlocs m) (zrt m) ∈ zWS := by
  have hr : m % 10 < 10 := by omega
  have key : ∃ i : Nat, lw_tbl[i]? = some (.code (zyy m) (zbb m) (zlocs m) (zrt m)) := by
    have hq : m = 0 + m % 10 ∨ m = 10 + m % 10 ∨ m = 20 + m % 10 ∨ m = 30 + m % 10 ∨ m = 40 + m % 10 ∨ m = 50 + m % 10 ∨ m = 60 + m % 10 ∨ m = 70 + m % 10 ∨ m = 80 + m % 10 ∨ m = 90 + m % 10 ∨ m = 100 + m % 10 ∨ m = 110 + m % 10 ∨ m = 120 + m % 10 := by omega
    rcases hq with hq | hq | hq | hq | hq | hq | hq | hq | hq | hq | hq | hq | hq
    · rw [hq]
      exact zcwk0 hr (by omega)
    · rw [hq]
      exact zcwk1 hr (by omega)
    · rw [hq]
      exact zcwk2 hr (by omega)
    · rw [hq]
      exact zcwk3 hr (by omega)
    · rw [hq]
      exact zcwk4 hr (by omega)
    · rw [hq]
      exact zcwk5 hr (by omega)
    · rw [hq]
      exact zcwk6 hr (by omega)
    · rw [hq]
      exact zcwk7 hr (by omega)
    · rw [hq]
      exact zcwk8 hr (by omega)
    · rw [hq]
      exact zcwk9 hr (by omega)
    · rw [hq]
      exact zcwk10 hr (by omega)
    · rw [hq]
      exact zcwk11 hr (by omega)
    · rw [hq]
      exact zcwk12 hr (by omega)
  obtain ⟨i, hi⟩ := key
  exact List.mem_filter.mpr ⟨List.mem_of_getElem? hi, rfl⟩
-- the methods
def zpar (y : MethodName) : Option Nat := (parseMethodDescriptor y.desc).map (fun d => d.parameters.length)
def znar (m : Nat) : Nat := (zpar (zyy m)).getD 0 + (bif zstat m then 0 else 1)
def zmx (m : Nat) : Nat × Nat × Nat × Nat := zmX.getD m (0, 0, 0, 0)
def zmchk (m : Nat) : Bool := zhat (zmx m).2.1 (.initialized (zyy m).cls) && decide ((zyy m).cls = zRn (zown m)) && plainName (zyy m).cls && decide ((zyy m).cls ≠ "java/lang/invoke/MethodHandle") && decide ((zyy m).cls ≠ "java/lang/invoke/VarHandle") && (zpar (zyy m)).isSome && Nat.ble (znar m) (zlocs m) && Nat.blt (zown m) 8 &&
  (bif zstat m then zhat (zmx m).2.2.1 (.static (zyy m)) else zhat (zmx m).2.2.1 (.instanceMethod (zyy m)) && zhat (zmx m).2.2.2 (.selects (zyy m).cls (zyy m) (zyy m)))
theorem zmchk_all : (List.range 123).all zmchk = true := by decide +kernel
theorem zmchk_ok {m : Nat} (h : m < 123) : zmchk m = true := List.all_eq_true.mp zmchk_all m (List.mem_range.mpr h)
theorem zm_ok {m : Nat} (h : m < 123) : Cond.code (zyy m) (zbb m) (zlocs m) (zrt m) ∈ zWS ∧ Cond.initialized (zyy m).cls ∈ zWS ∧ (zyy m).cls = zRn (zown m) ∧ plainName (zyy m).cls = true ∧ ((zyy m).cls ≠ "java/lang/invoke/MethodHandle" ∧ (zyy m).cls ≠ "java/lang/invoke/VarHandle") ∧ (∃ k, zpar (zyy m) = some k) ∧ znar m ≤ zlocs m ∧ zown m < 8 ∧
    (zstat m = true → Cond.static (zyy m) ∈ zWS) ∧ (zstat m = false → Cond.instanceMethod (zyy m) ∈ zWS ∧ Cond.selects (zyy m).cls (zyy m) (zyy m) ∈ zWS) := by
  have h1 := zmchk_ok h
  unfold zmchk at h1
  simp only [Bool.and_eq_true, decide_eq_true_eq] at h1
  obtain ⟨⟨⟨⟨⟨⟨⟨⟨a2, a3⟩, a4⟩, a5⟩, a6⟩, a7⟩, a8⟩, a9⟩, a10⟩ := h1
  refine ⟨zcw_ok h, zhat_mem a2, a3, a4, ⟨a5, a6⟩, Option.isSome_iff_exists.mp a7, Nat.le_of_ble_eq_true a8, Nat.le_of_ble_eq_true a9, fun hs => ?_, fun hs => ?_⟩
  · rw [hs] at a10
    exact zhat_mem a10
  · rw [hs] at a10
    simp only [cond_false, Bool.and_eq_true] at a10
    exact ⟨zhat_mem a10.1, zhat_mem a10.2⟩
def zachk : Bool := (List.range 8).all fun own => (zcalL.getD own []).all fun q => bif Nat.beq q.2.1 999 then zhat ((zlook (zcalX.getD own []) q.1).getD 0) (.methodLink (zRn own) q.1 Lib.Math.max.name) && Nat.beq q.2.2 2 else Nat.blt q.2.1 123 && zhat ((zlook (zcalX.getD own []) q.1).getD 0) (.methodLink (zRn own) q.1 (zyy q.2.1)) && Nat.beq (znar q.2.1) q.2.2
theorem zachk_ok : zachk = true := by decide +kernel
theorem zcal_ok {own n m' k : Nat} (ho : own < 8) (h : zcal own n = some (m', k)) (hm : m' ≠ 999) : m' < 123 ∧ Cond.methodLink (zRn own) n (zyy m') ∈ zWS ∧ znar m' = k := by
  have h1 := List.all_eq_true.mp (List.all_eq_true.mp zachk_ok own (List.mem_range.mpr ho)) _ (zlook_mem h)
  dsimp only at h1
  rw [znbeq hm] at h1
  simp only [cond_false, Bool.and_eq_true] at h1
  exact ⟨Nat.le_of_ble_eq_true h1.1.1, zhat_mem h1.1.2, Nat.eq_of_beq_eq_true h1.2⟩
theorem zcal_max {own n k : Nat} (ho : own < 8) (h : zcal own n = some (999, k)) : Cond.methodLink (zRn own) n Lib.Math.max.name ∈ zWS := by
  have h1 := List.all_eq_true.mp (List.all_eq_true.mp zachk_ok own (List.mem_range.mpr ho)) _ (zlook_mem h)
  dsimp only at h1
  simp only [show Nat.beq 999 999 = true from rfl, cond_true, Bool.and_eq_true] at h1
  exact zhat_mem h1.1
theorem zmax_ok : Cond.static Lib.Math.max.name ∈ zWS ∧ Cond.initialized "java/lang/Math" ∈ zWS ∧ Cond.code Lib.Math.max.name Lib.Math.max.code 2 (some .int) ∈ zWS := ⟨zhas_mem (by decide +kernel), zhas_mem (by decide +kernel), zhas_mem (by decide +kernel)⟩
-- the throwables
def zxn (x : Nat) : String := match x with
  | 1 => "java/lang/IllegalArgumentException"
  | 2 => "java/lang/IllegalStateException"
  | _ => "java/util/NoSuchElementException"
abbrev zxs : List String := ["java/lang/RuntimeException", "java/lang/Exception"]
-- those of the throwing bundle that speak of a heap cell
def zthW : List Cond := [.laysStatic Bundle.tN "UNASSIGNED_STACK" Bundle.steD, .laysStatic Bundle.tN "SUPPRESSED_SENTINEL" Bundle.listD, .isRef (.static Bundle.tN "UNASSIGNED_STACK" Bundle.steD), .isRef (.static Bundle.tN "SUPPRESSED_SENTINEL" Bundle.listD)]
def zxchk (own n ic x : Nat) : Bool := zhas (.classLink (zRn own) n (zxn x)) && zhas (.initialized (zxn x)) && Bundle.fit (zxn x) && (Bundle.ownAtoms0 (zRn own) ic (zxn x) zxs).all fun w => decide (w ∈ zthW) || zhas w
theorem zx_ok : ∀ q ∈ zxL, zxchk q.1 q.2.1 q.2.2.1 q.2.2.2 = true := by decide +kernel
-- the log's new row: new, dup, invokespecial, aastore; its constructor
def zrinit : MethodName := ⟨"PageKeeper$LogRow", "<init>", "()V"⟩
def znest : Cond := .methodLinkNest "PageKeeper$Log" zric zrinit "PageKeeper"
def zrchk (m pc n : Nat) : Bool := Nat.beq (zown m) 1 && (match zins m (pc + 3), zins m (pc + 4), zins m (pc + 7) with
  | some (.dup, 1), some (.invokespecial ic, 3), some (.aastore, 1) => Nat.beq ic zric
  | _, _, _ => false) && zhas (.classLink "PageKeeper$Log" n "PageKeeper$LogRow") && Nat.ble 2 (zFr m) && Nat.ble 32 (zLo m)
theorem zrow_ok : Cond.initialized "PageKeeper$LogRow" ∈ zWS ∧ Cond.instantiable "PageKeeper$LogRow" 16 ∈ zWS ∧ Cond.instanceMethod zrinit ∈ zWS ∧ Cond.code zrinit zrcode 1 none ∈ zWS ∧ Cond.methodLink "PageKeeper$LogRow" zrobj Lib.objectInit ∈ zWS ∧ Cond.instanceMethod Lib.objectInit ∈ zWS ∧ Cond.code Lib.objectInit ⟨#[0xb1]⟩ 1 none ∈ zWS :=
  ⟨zhas_mem (by decide +kernel), zhas_mem (by decide +kernel), zhas_mem (by decide +kernel), zhas_mem (by decide +kernel), zhas_mem (by decide +kernel), zhas_mem (by decide +kernel), zhas_mem (by decide +kernel)⟩
-- an instruction's place and length
def zchk (m pc : Nat) (i : Instr) (len : Nat) : Bool := match i with
  | .bipush _ => Nat.beq len 2
  | .sipush _ => Nat.beq len 3
  | .iload _ => Nat.beq len 2
  | .aload _ => Nat.beq len 2
  | .istore _ => Nat.beq len 2
  | .astore _ => Nat.beq len 2
  | .iinc _ _ => Nat.beq len 3
  | .ifCond _ off => Nat.beq len 3 && decide (0 ≤ (pc : Int) + off)
  | .if_icmp _ off => Nat.beq len 3 && decide (0 ≤ (pc : Int) + off)
  | .ifnull off => Nat.beq len 3 && decide (0 ≤ (pc : Int) + off)
  | .ifnonnull off => Nat.beq len 3 && decide (0 ≤ (pc : Int) + off)
  | .goto off => Nat.beq len 3 && decide (0 ≤ (pc : Int) + off)
  | .tableswitch d _ _ offs => decide (0 ≤ (pc : Int) + d) && offs.toList.all (fun off => decide (0 ≤ (pc : Int) + off))
  | .lookupswitch d ps => decide (0 ≤ (pc : Int) + d) && ps.toList.all (fun q => decide (0 ≤ (pc : Int) + q.2)) && (ps.toList.zip (ps.toList.drop 1)).all (fun (a, next) => a.1 < next.1)
  | .getfield _ => Nat.beq len 3
  | .putfield _ => Nat.beq len 3
  | .invokevirtual n => Nat.beq len 3 && match zcal (zown m) n with
    | some (m', _) => Nat.ble (zFr m' + 1) (zFr m) && Nat.ble (8 + (zlocs m' + 11) + zLo m') (zLo m)
    | none => true
  | .invokestatic n => Nat.beq len 3 && match zcal (zown m) n with
    | some (m', _) => bif Nat.beq m' 999 then Nat.ble 1 (zFr m) && Nat.ble 21 (zLo m) else Nat.ble (zFr m' + 1) (zFr m) && Nat.ble (8 + (zlocs m' + 11) + zLo m') (zLo m)
    | none => true
  | .new n => Nat.beq len 3 && match znew (zown m) n with
    | some 0 => zrchk m pc n
    | some (x + 1) => (match zins m (pc + 3), zins m (pc + 4), zins m (pc + 7) with
      | some (.dup, 1), some (.invokespecial ic, 3), some (.athrow, 1) => decide ((zown m, n, ic, x) ∈ zxL)
      | _, _, _ => false) && Nat.ble 6 (zFr m) && Nat.ble 85 (zLo m)
    | none => true
  | .invokespecial _ => true
  | _ => Nat.beq len 1
