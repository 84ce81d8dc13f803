theorem okL_4 : (cL_4).all (xcE xB xcs xtl xT0 xkd "PatchChains" yI0 xol m_law) = true := by decide +kernel
theorem okL_5 : (cL_5).all (xcE xB xcs xtl xT0 xkd "PatchChains" yI0 xol m_law) = true := by decide +kernel
theorem okL_6 : (cL_6).all (xcE xB xcs xtl xT0 xkd "PatchChains" yI0 xol m_law) = true := by decide +kernel
theorem okL_7 : (cL_7).all (xcE xB xcs xtl xT0 xkd "PatchChains" yI0 xol m_law) = true := by decide +kernel
