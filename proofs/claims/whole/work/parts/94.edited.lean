theorem all_PA_editedV : ∀ ss, C_PA_editedV ss
  | [] => fun l dC dI sz a d nn rows p1 kdN yv dv nv vr cB cO em aK aV fz hv hpt hsz hdd hkd hvv => k_PA_editedV l dC dI sz a d nn rows p1 [] kdN yv dv nv vr cB cO em aK aV fz hv hpt hsz hdd hkd hvv (fun s1 ss1 h => by cases h)
  | q :: qs => fun l dC dI sz a d nn rows p1 kdN yv dv nv vr cB cO em aK aV fz hv hpt hsz hdd hkd hvv => k_PA_editedV l dC dI sz a d nn rows p1 (q :: qs) kdN yv dv nv vr cB cO em aK aV fz hv hpt hsz hdd hkd hvv (fun s1 ss1 h => by cases h; exact all_PA_editedV qs)
theorem all_PA_editedN : ∀ ss, C_PA_editedN ss
  | [] => fun l dC dI sz a d nn rows p1 cB cO em aK aV fz hv hpt hsz hdd => k_PA_editedN l dC dI sz a d nn rows p1 [] cB cO em aK aV fz hv hpt hsz hdd (fun s1 ss1 h => by cases h)
  | q :: qs => fun l dC dI sz a d nn rows p1 cB cO em aK aV fz hv hpt hsz hdd => k_PA_editedN l dC dI sz a d nn rows p1 (q :: qs) cB cO em aK aV fz hv hpt hsz hdd (fun s1 ss1 h => by cases h; exact all_PA_editedN qs)
