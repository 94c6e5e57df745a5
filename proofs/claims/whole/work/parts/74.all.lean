/-! ===== layer B: the 41 equivalences together ===== -/
theorem jI_n1 (σ μ : gk_C) (h : jI σ μ) : σ.2 1 = μ.2 7 := h.2.1.1.2.1.symm
theorem jI_n3 (σ μ : gk_C) (h : jI σ μ) : σ.2 3 = μ.2 11 := h.2.1.1.2.2.2.1.symm
theorem jI_n4 (σ μ : gk_C) (h : jI σ μ) : σ.2 4 = μ.2 16 := h.2.1.1.2.2.2.2.1.symm
theorem jI_n5 (σ μ : gk_C) (h : jI σ μ) : σ.2 5 = μ.2 26 := h.2.1.1.2.2.2.2.2.1.symm
theorem all_H : lo_H jI :=
  ⟨q_addUser jI_U jI_0 (fun σ μ n a b h hn hs hm => jI_addUser σ μ n a b h hn hs hm), q_addRole jI_R jI_0 (fun σ μ n h hn hs => jI_addRole σ μ n h hn hs), q_addResource, q_setRole, q_setHolds, q_setApart,
   q_setUser jI_U jI_0 (fun σ μ k a b h hk => jI_setUser σ μ k a b h hk), q_setLabel jI_T jI_0 (fun σ μ k a h hk _ _ => jI_setLabel σ μ k a h hk), q_setWall jI_T jI_0 (fun σ μ k a b h hk hab => jI_setWall σ μ k a b h hk hab),
   q_users jI_U jI_0, q_roles jI_n1 jI_0, q_resources jI_n3 jI_0, q_near, q_far, q_addRule,
   q_setRule jI_L jI_0 (fun σ μ k a b n h hs hn hk ha hb1 hb2 => jI_setRule σ μ k a b n h hs hn hk ha hb1 hb2), q_setTerms jI_L jI_0 (fun σ μ k a b c _ h _ _ _ _ _ _ => jI_setTerms σ μ k a b c h),
   q_dropRule, q_rules jI_n4 jI_0, q_setWeighing jI_S jI_0 (fun σ μ a h _ _ => jI_setWeighing σ μ a h), q_matches, q_goOn jI_S jI_0 (fun σ μ a h => jI_goOn σ μ a h), q_clock jI_S jI_0, q_grant,
   q_revoke jI_G jI_S jI_0 (fun σ μ k _ h _ _ _ => jI_revoke σ μ k (σ.2 7) h), q_grants jI_n5 jI_0, q_isGood, q_decide, q_why, q_access, q_counted jI_S jI_0, q_done jI_U jI_T jI_0, q_who, q_reach, q_rolesNeeded, q_contradictions, q_isIdle, q_wouldDiffer, q_wouldGain, q_openness, q_digest⟩
