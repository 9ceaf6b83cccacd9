/-! THE CLASS reads a text into its draft -/
section Crd
variable {σ τ υ : St} {Y T X d L : Nat} {b : Nat → Int32}
theorem clr_c (P : PSh σ d) : f_X5_clear d σ = some (sI (sI (sI σ d 5 0) d 12 0) d 15 0) := by
  unfold f_X5_clear f_X5_clear_0
  rw [if_pos P.1, pI_k P.1, osb, pI_k (σ := sI σ d 5 0) P.1, osb, pI_k (σ := sI (sI σ d 5 0) d 12 0) P.1, osb]
theorem srd_c (hY : hT σ Y = 7) (hX : hP σ Y 3 = some X) (H1 : Txt σ T L b) (H2 : TSh σ X) (P : PSh σ d) (H : YY Y T X d) : ∃ τ, f_X6_reads Y T (nI L) d σ = some (b2i (okS (pAll b L (L + 1) false ((fun _ _ => 0), 0, 0, 0) (bkE b L 0))), τ) ∧ Fr (fun r => iYD Y d r ∨ inX X r) (sP (sP σ Y 2 (some T)) Y 7 (some d)) τ ∧ OutR τ Y (pAll b L (L + 1) false ((fun _ _ => 0), 0, 0, 0) (bkE b L 0)) (fun s' => DC τ d s'.1 s'.2.1 s'.2.2.1 s'.2.2.2 ∧ hI τ Y 0 = 0) := by
  obtain ⟨y1, y2, y3, y4⟩ := id H
  have h9 := H1.2.2.1
  have hm : jmin (nI L) (Int32.ofNat (hN σ T)) = nI L := by
    unfold jmin
    rw [H1.2.1, if_neg (show ¬ Int32.ofNat 900 < nI L from nI_nlt (a := 900) (by omega) (by omega))]
  unfold f_X6_reads f_X6_reads_0 f_X6_reads_14 aN
  rw [if_pos hY, if_pos (show (0 : Int32) ≤ nI L from nI_le (a := 0) (by omega) (by omega)), if_pos (show 21 ≤ hT σ T ∧ hT σ T ≤ 23 by rw [H1.1]; omega), osb, hm, pP_k hY, osb]
  have hX2 : hP (sP σ Y 2 (some T)) Y 3 = some X := by rw [hP_sPn (Or.inr (by omega))]; exact hX
  rw [gR_k (σ := sP σ Y 2 (some T)) hY hX2, osb]
  have H3 : TSh (sP σ Y 2 (some T)) X := by
    obtain ⟨a, f0, f1, f2⟩ := H2
    exact ⟨a, ⟨by rw [hP_sPn (Or.inl (by omega))]; exact f0.1, f0.2⟩, ⟨by rw [hP_sPn (Or.inl (by omega))]; exact f1.1, f1.2⟩, ⟨by rw [hP_sPn (Or.inl (by omega))]; exact f2.1, f2.2⟩⟩
  have H1' : Txt (sP σ Y 2 (some T)) T L b := H1
  have P' : PSh (sP σ Y 2 (some T)) d := by
    obtain ⟨a, f1, f2, f3, f4, f5, f6, f7, f8, f9, f10⟩ := P
    have e : ∀ j, hP (sP σ Y 2 (some T)) d j = hP σ d j := fun j => hP_sPn (Or.inl (by omega))
    exact ⟨a, ⟨(e _).trans f1.1, f1.2⟩, ⟨(e _).trans f2.1, f2.2⟩, ⟨(e _).trans f3.1, f3.2⟩, ⟨(e _).trans f4.1, f4.2⟩, ⟨(e _).trans f5.1, f5.2⟩, ⟨(e _).trans f6.1, f6.2⟩, ⟨(e _).trans f7.1, f7.2⟩, ⟨(e _).trans f8.1, f8.2⟩, ⟨(e _).trans f9.1, f9.2⟩, ⟨(e _).trans f10.1, f10.2⟩⟩
  obtain ⟨σ3, n, t1, F3, K3⟩ := part_c H1' H3 (Or.inl (by omega))
  have h3 : hT σ3 Y = 7 := by rw [F3.1]; exact hY
  rw [t1, osb, pI_k h3, osb, pI_k (σ := sI σ3 Y 4 0) h3, osb, pI_k (σ := sI (sI σ3 Y 4 0) Y 0 0) h3, osb, pP_k (σ := sI (sI (sI σ3 Y 4 0) Y 0 0) Y 1 0) h3, osb]
  have hd : hP (sP (sI (sI (sI σ3 Y 4 0) Y 0 0) Y 1 0) Y 7 (some d)) Y 7 = some d := hP_sPe
  have h7 : hT (sP (sI (sI (sI σ3 Y 4 0) Y 0 0) Y 1 0) Y 7 (some d)) Y = 7 := h3
  rw [gR_k h7 hd, osb]
  have e7 : hP (sP (sI (sI (sI σ3 Y 4 0) Y 0 0) Y 1 0) Y 7 (some d)) = hP (sP (sP σ Y 2 (some T)) Y 7 (some d)) := by
    funext r j
    show (if r = Y ∧ j = 7 then some d else hP σ3 r j) = (if r = Y ∧ j = 7 then some d else hP (sP σ Y 2 (some T)) r j)
    rw [F3.2.2.1]
  have F7 : Fr (fun r => iYD Y d r ∨ inX X r) (sP (sP σ Y 2 (some T)) Y 7 (some d)) (sP (sI (sI (sI σ3 Y 4 0) Y 0 0) Y 1 0) Y 7 (some d)) := by
    refine ⟨F3.1, F3.2.1, e7, F3.2.2.2.1, F3.2.2.2.2.1, fun r hr => ?_⟩
    have hrY : r ≠ Y := fun e => hr (Or.inl (Or.inl e))
    have hrX : ¬ inX X r := fun e => hr (Or.inr e)
    show hI (sI (sI (sI σ3 Y 4 0) Y 0 0) Y 1 0) r = hI σ r
    rw [hI_sIr hrY, hI_sIr hrY, hI_sIr hrY]
    exact F3.2.2.2.2.2 r hrX
  have P7 : PSh (sP (sP σ Y 2 (some T)) Y 7 (some d)) d := by
    obtain ⟨a, f1, f2, f3, f4, f5, f6, f7, f8, f9, f10⟩ := P'
    have e : ∀ j, hP (sP (sP σ Y 2 (some T)) Y 7 (some d)) d j = hP (sP σ Y 2 (some T)) d j := fun j => hP_sPn (Or.inl (by omega))
    exact ⟨a, ⟨(e _).trans f1.1, f1.2⟩, ⟨(e _).trans f2.1, f2.2⟩, ⟨(e _).trans f3.1, f3.2⟩, ⟨(e _).trans f4.1, f4.2⟩, ⟨(e _).trans f5.1, f5.2⟩, ⟨(e _).trans f6.1, f6.2⟩, ⟨(e _).trans f7.1, f7.2⟩, ⟨(e _).trans f8.1, f8.2⟩, ⟨(e _).trans f9.1, f9.2⟩, ⟨(e _).trans f10.1, f10.2⟩⟩
  have P8 := P7.fr F7
  have T7 : Txt (sP (sI (sI (sI σ3 Y 4 0) Y 0 0) Y 1 0) Y 7 (some d)) T L b := by
    have t3 := H1'.fr F3 (show ¬ inX X T by unfold inX; omega)
    refine ⟨t3.1, t3.2.1, t3.2.2.1, fun k hk => ?_⟩
    show hI (sI (sI (sI σ3 Y 4 0) Y 0 0) Y 1 0) T k = b k
    rw [hI_sIr (by omega), hI_sIr (by omega), hI_sIr (by omega)]
    exact t3.2.2.2 k hk
  have hY3 : hP (sP (sI (sI (sI σ3 Y 4 0) Y 0 0) Y 1 0) Y 7 (some d)) Y 3 = some X := by
    rw [hP_sPn (Or.inr (by omega))]
    show hP σ3 Y 3 = some X
    rw [F3.2.2.1]; exact hX2
  have hY2 : hP (sP (sI (sI (sI σ3 Y 4 0) Y 0 0) Y 1 0) Y 7 (some d)) Y 2 = some T := by
    rw [hP_sPn (Or.inr (by omega))]
    show hP σ3 Y 2 = some T
    rw [F3.2.2.1]; exact hP_sPe
  have K7 : TkA (sP (sI (sI (sI σ3 Y 4 0) Y 0 0) Y 1 0) Y 7 (some d)) X L b n := by
    obtain ⟨t1, t2, t3, t4, t5, t6⟩ := K3
    have ep : ∀ j, hP (sP (sI (sI (sI σ3 Y 4 0) Y 0 0) Y 1 0) Y 7 (some d)) X j = hP σ3 X j := fun j => hP_sPn (Or.inl (by omega))
    have ei : ∀ r, X ≤ r → hI (sP (sI (sI (sI σ3 Y 4 0) Y 0 0) Y 1 0) Y 7 (some d)) r = hI σ3 r := by
      intro r hr
      show hI (sI (sI (sI σ3 Y 4 0) Y 0 0) Y 1 0) r = hI σ3 r
      rw [hI_sIr (by omega), hI_sIr (by omega), hI_sIr (by omega)]
    obtain ⟨a, f0, f1, f2⟩ := t1
    exact ⟨⟨a, ⟨(ep _).trans f0.1, f0.2⟩, ⟨(ep _).trans f1.1, f1.2⟩, ⟨(ep _).trans f2.1, f2.2⟩⟩, by rw [ei X (by omega)]; exact t2, t3, fun j hj => (t4 j hj).of (by rw [ei _ (by omega)]) (by rw [ei _ (by omega)]) (by rw [ei _ (by omega)]), t5, t6⟩
  have i4 : hI (sP (sI (sI (sI σ3 Y 4 0) Y 0 0) Y 1 0) Y 7 (some d)) Y 4 = 0 := by
    show hI (sI (sI (sI σ3 Y 4 0) Y 0 0) Y 1 0) Y 4 = 0
    rw [hI_sIn (Or.inr (by omega)), hI_sIn (Or.inr (by omega)), hI_sIe]
  have i0 : hI (sP (sI (sI (sI σ3 Y 4 0) Y 0 0) Y 1 0) Y 7 (some d)) Y 0 = 0 := by
    show hI (sI (sI (sI σ3 Y 4 0) Y 0 0) Y 1 0) Y 0 = 0
    rw [hI_sIn (Or.inr (by omega)), hI_sIe]
  generalize hσ7 : sP (sI (sI (sI σ3 Y 4 0) Y 0 0) Y 1 0) Y 7 (some d) = σ7 at *
  have R7 : Rd σ7 Y T X d L b n (bkE b L 0) := ⟨⟨h7, hY2, hY3, hd⟩, T7, K7, 0, by omega, by rw [i4]; exact (nI_0).symm, rfl, i0⟩
  rw [clr_c P8, osb]
  have Fc : Fr (fun r => d ≤ r ∧ r ≤ d + 10) σ7 (sI (sI (sI σ7 d 5 0) d 12 0) d 15 0) := ((Fr.s0 (by omega)).st (by omega)).st (by omega)
  have R8 : Rd (sI (sI (sI σ7 d 5 0) d 12 0) d 15 0) Y T X d L b n (bkE b L 0) := R7.fr Fc (by omega) (fun r h1 h2 => by omega) (by rw [Fc.2.2.2.2.2 Y (by omega)]) (by rw [Fc.2.2.2.2.2 Y (by omega)])
  have P9 := P8.fr Fc
  have C9 : CLn (sI (sI (sI σ7 d 5 0) d 12 0) d 15 0) d false ((fun _ _ => 0), 0, 0, 0) := ⟨fun h => (nomatch h), fun _ => ⟨P9, by rw [hI_sIn (Or.inr (by omega)), hI_sIn (Or.inr (by omega)), hI_sIe], by rw [hI_sIn (Or.inr (by omega)), hI_sIe], hI_sIe⟩⟩
  have S9 : SI false ((fun _ _ => 0), 0, 0, 0) := ⟨fun h => (nomatch h), fun _ => rfl⟩
  obtain ⟨τ, q1, q2, q3⟩ := srl_l (L + 1) FU false _ (bkE b L 0) 0 _ (by omega) (by unfold FU; omega) (by omega) R8 H C9 S9 ⟨fun _ => rfl, fun _ => nI_0⟩
  rw [nI_0] at q1
  refine ⟨τ, q1, ?_, q3⟩
  exact (F7.trans (Fc.mono (fun r h => Or.inl (Or.inr h)))).trans (q2.mono (fun r h => Or.inl h))
end Crd
